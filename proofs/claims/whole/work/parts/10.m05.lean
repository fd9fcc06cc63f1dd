-- X10_layAll
def f_X10_layAll_72 (k27 : Int32 → Int32 → gM → Option (Unit × gM)) : Nat → Int32 → Int32 → Int32 → gM → Option (Unit × gM)
  | 0, _, _, _, _ => none
  | n + 1, x1, x2, x3, M => (if (12 : Int32) < x3 then (k27 x1 (x2 + 1) M) else (g_b (f_X10_beaten x1 x2 x3 M) (fun r11 M10 => (g_ck ((((25 : Int32) * (((6 : Int32) * x1) + x2)) + x3) + (12 : Int32)) 311850 (g_m (sI M10 50 (tn ((((25 : Int32) * (((6 : Int32) * x1) + x2)) + x3) + (12 : Int32))) r11) (fun M12 => (f_X10_layAll_72 k27 n x1 x2 (x3 + 1) M12)))))))
set_option maxRecDepth 100000 in
set_option maxHeartbeats 4000000 in
theorem o_X10_layAll_72 {X : gX} {k27 : Int32 → Int32 → gM → Option (Unit × gM)} (hk27 : ∀ (x1 : Int32) (x2 : Int32) (M : gM), G Y2 jX10_layAll X (g_fin g_ev) 27 [(0, .ref (ad X 0)), (1, .int x1), (2, .int x2)] [] M (k27 x1 x2 M)) : ∀ (n : Nat) (x1 : Int32) (x2 : Int32) (x3 : Int32) (M : gM), G Y2 jX10_layAll X (g_fin g_ev) 72 [(0, .ref (ad X 0)), (1, .int x1), (2, .int x2), (3, .int x3)] [] M (f_X10_layAll_72 k27 n x1 x2 x3 M) := by
  intro n
  induction n with
  | zero => intro x1 x2 x3 M; exact G_none
  | succ n ih =>
    intro x1 x2 x3 M
    rw [f_X10_layAll_72]
    refine G_iload_n 3 dX10_layAll_72 rfl rfl ?_
    refine G_bipush (v := 12) dX10_layAll_73 (by decide) ?_
    refine G_icmp_gt (tgt := 110) dX10_layAll_75 (by decide) ?_ ?_
    · refine G_iinc (v := x2 + 1) (lv' := [(2, .int (x2 + 1)), (0, .ref (ad X 0)), (1, .int x1), (3, .int x3)]) 2 dX10_layAll_110 rfl rfl (by decide) rfl ?_
      refine G_goto (tgt := 27) dX10_layAll_113 (by decide) ?_
      exact G_sub [1, 2, 0] rfl (hk27 x1 (x2 + 1) M)
    · refine G_aload_n 0 dX10_layAll_78 rfl rfl ?_
      refine G_get 80 clX10 (y2_0) fl_X10_167 dX10_layAll_79 (by decide) rfl rfl ?_
      refine G_bipush (v := 25) dX10_layAll_82 (by decide) ?_
      refine G_bipush (v := 6) dX10_layAll_84 (by decide) ?_
      refine G_iload_n 1 dX10_layAll_86 rfl rfl ?_
      refine G_imul dX10_layAll_87 ?_
      refine G_iload_n 2 dX10_layAll_88 rfl rfl ?_
      refine G_iadd dX10_layAll_89 ?_
      refine G_imul dX10_layAll_90 ?_
      refine G_iload_n 3 dX10_layAll_91 rfl rfl ?_
      refine G_iadd dX10_layAll_92 ?_
      refine G_bipush (v := 12) dX10_layAll_93 (by decide) ?_
      refine G_iadd dX10_layAll_95 ?_
      refine G_aload_n 0 dX10_layAll_96 rfl rfl ?_
      refine G_iload_n 1 dX10_layAll_97 rfl rfl ?_
      refine G_iload_n 2 dX10_layAll_98 rfl rfl ?_
      refine G_iload_n 3 dX10_layAll_99 rfl rfl ?_
      refine G_cVi (As := [.int x1, .int x2, .int x3]) (rest := [.int ((((25 : Int32) * (((6 : Int32) * x1) + x2)) + x3) + (12 : Int32)), .ref (ad X 50)]) (ok_X10_beaten x1 x2 x3 M) rfl (y2_0) rfl mv_X10_489 dX10_layAll_100 rfl rfl (Nat.le_of_ble_eq_true rfl) (g_fitN (by decide) (by decide)) (fun r11 M10 => ?_)
      refine G_iast (y2_50) dX10_layAll_103 ?_
      refine G_m (fun M12 => ?_)
      refine G_iinc (v := x3 + 1) (lv' := [(3, .int (x3 + 1)), (0, .ref (ad X 0)), (1, .int x1), (2, .int x2)]) 3 dX10_layAll_104 rfl rfl (by decide) rfl ?_
      refine G_goto (tgt := 72) dX10_layAll_107 (by decide) ?_
      exact G_sub [1, 2, 3, 0] rfl (ih x1 x2 (x3 + 1) M12)
def f_X10_layAll_27 (k2 : Int32 → gM → Option (Unit × gM)) : Nat → Int32 → Int32 → gM → Option (Unit × gM)
  | 0, _, _, _ => none
  | n + 1, x1, x2, M => (g_b (f_X10_actsOf M) (fun r6 M5 => (if r6 ≤ x2 then (k2 (x1 + 1) M5) else (g_b (f_X10_mayDo x1 x2 M5) (fun r8 M7 => (g_ck (((6 : Int32) * x1) + x2) 12474 (g_m (sI M7 49 (tn (((6 : Int32) * x1) + x2)) (zb (b2i r8))) (fun M9 => (g_ck (((6 : Int32) * x1) + x2) 12474 (if (M9.1 49 (tn (((6 : Int32) * x1) + x2))) = 0 then (f_X10_layAll_27 k2 n x1 (x2 + 1) M9) else (f_X10_layAll_72 (f_X10_layAll_27 k2 n) FU x1 x2 ((-12) : Int32) M9)))))))))))
set_option maxRecDepth 100000 in
set_option maxHeartbeats 4000000 in
theorem o_X10_layAll_27 {X : gX} {k2 : Int32 → gM → Option (Unit × gM)} (hk2 : ∀ (x1 : Int32) (M : gM), G Y2 jX10_layAll X (g_fin g_ev) 2 [(0, .ref (ad X 0)), (1, .int x1)] [] M (k2 x1 M)) : ∀ (n : Nat) (x1 : Int32) (x2 : Int32) (M : gM), G Y2 jX10_layAll X (g_fin g_ev) 27 [(0, .ref (ad X 0)), (1, .int x1), (2, .int x2)] [] M (f_X10_layAll_27 k2 n x1 x2 M) := by
  intro n
  induction n with
  | zero => intro x1 x2 M; exact G_none
  | succ n ih =>
    intro x1 x2 M
    rw [f_X10_layAll_27]
    refine G_iload_n 2 dX10_layAll_27 rfl rfl ?_
    refine G_aload_n 0 dX10_layAll_28 rfl rfl ?_
    refine G_cVi (As := []) (rest := [.int x2]) (ok_X10_actsOf M) rfl (y2_0) rfl mv_X10_482 dX10_layAll_29 rfl rfl (Nat.le_of_ble_eq_true rfl) (g_fitN (by decide) (by decide)) (fun r6 M5 => ?_)
    refine G_icmp_ge (tgt := 116) dX10_layAll_32 (by decide) ?_ ?_
    · refine G_iinc (v := x1 + 1) (lv' := [(1, .int (x1 + 1)), (0, .ref (ad X 0)), (2, .int x2)]) 1 dX10_layAll_116 rfl rfl (by decide) rfl ?_
      refine G_goto (tgt := 2) dX10_layAll_119 (by decide) ?_
      exact G_sub [1, 0] rfl (hk2 (x1 + 1) M5)
    · refine G_aload_n 0 dX10_layAll_35 rfl rfl ?_
      refine G_get 79 clX10 (y2_0) fl_X10_163 dX10_layAll_36 (by decide) rfl rfl ?_
      refine G_bipush (v := 6) dX10_layAll_39 (by decide) ?_
      refine G_iload_n 1 dX10_layAll_41 rfl rfl ?_
      refine G_imul dX10_layAll_42 ?_
      refine G_iload_n 2 dX10_layAll_43 rfl rfl ?_
      refine G_iadd dX10_layAll_44 ?_
      refine G_aload_n 0 dX10_layAll_45 rfl rfl ?_
      refine G_iload_n 1 dX10_layAll_46 rfl rfl ?_
      refine G_iload_n 2 dX10_layAll_47 rfl rfl ?_
      refine G_cVb (As := [.int x1, .int x2]) (rest := [.int (((6 : Int32) * x1) + x2), .ref (ad X 49)]) (ok_X10_mayDo x1 x2 M5) rfl (y2_0) rfl mv_X10_486 dX10_layAll_48 rfl rfl (Nat.le_of_ble_eq_true rfl) (g_fitN (by decide) (by decide)) (fun r8 M7 => ?_)
      refine G_zast (y2_49) dX10_layAll_51 ?_
      refine G_m (fun M9 => ?_)
      refine G_aload_n 0 dX10_layAll_52 rfl rfl ?_
      refine G_get 79 clX10 (y2_0) fl_X10_163 dX10_layAll_53 (by decide) rfl rfl ?_
      refine G_bipush (v := 6) dX10_layAll_56 (by decide) ?_
      refine G_iload_n 1 dX10_layAll_58 rfl rfl ?_
      refine G_imul dX10_layAll_59 ?_
      refine G_iload_n 2 dX10_layAll_60 rfl rfl ?_
      refine G_iadd dX10_layAll_61 ?_
      refine G_zald (y2_49) dX10_layAll_62 ?_
      refine G_if_ne (tgt := 69) dX10_layAll_63 (by decide) ?_ ?_
      · refine G_bipush (v := (-12)) dX10_layAll_69 (by decide) ?_
        refine G_istore_n (lv' := [(3, .int (-12)), (0, .ref (ad X 0)), (1, .int x1), (2, .int x2)]) dX10_layAll_71 rfl (by decide) rfl ?_
        exact G_sub [1, 2, 3, 0] rfl (o_X10_layAll_72 ih FU x1 x2 ((-12) : Int32) M9)
      · refine G_goto (tgt := 110) dX10_layAll_66 (by decide) ?_
        refine G_iinc (v := x2 + 1) (lv' := [(2, .int (x2 + 1)), (0, .ref (ad X 0)), (1, .int x1)]) 2 dX10_layAll_110 rfl rfl (by decide) rfl ?_
        refine G_goto (tgt := 27) dX10_layAll_113 (by decide) ?_
        exact G_sub [1, 2, 0] rfl (ih x1 (x2 + 1) M9)
def f_X10_layAll_2 : Nat → Int32 → gM → Option (Unit × gM)
  | 0, _, _ => none
  | n + 1, x1, M => (if (2079 : Int32) ≤ x1 then (some ((), M)) else (g_b (f_X10_isState x1 M) (fun r2 M1 => (if r2 then (g_b (f_X10_blow x1 M1) (fun r4 M3 => (f_X10_layAll_27 (f_X10_layAll_2 n) FU x1 (0 : Int32) M3))) else (f_X10_layAll_2 n (x1 + 1) M1)))))
set_option maxRecDepth 100000 in
set_option maxHeartbeats 4000000 in
theorem o_X10_layAll_2 {X : gX} : ∀ (n : Nat) (x1 : Int32) (M : gM), G Y2 jX10_layAll X (g_fin g_ev) 2 [(0, .ref (ad X 0)), (1, .int x1)] [] M (f_X10_layAll_2 n x1 M) := by
  intro n
  induction n with
  | zero => intro x1 M; exact G_none
  | succ n ih =>
    intro x1 M
    rw [f_X10_layAll_2]
    refine G_iload_n 1 dX10_layAll_2 rfl rfl ?_
    refine G_sipush (v := 2079) dX10_layAll_3 (by decide) ?_
    refine G_icmp_ge (tgt := 122) dX10_layAll_6 (by decide) ?_ ?_
    · exact G_vret rfl dX10_layAll_122
    · refine G_aload_n 0 dX10_layAll_9 rfl rfl ?_
      refine G_iload_n 1 dX10_layAll_10 rfl rfl ?_
      refine G_cVb (As := [.int x1]) (rest := []) (ok_X10_isState x1 M) rfl (y2_0) rfl mv_X10_476 dX10_layAll_11 rfl rfl (Nat.le_of_ble_eq_true rfl) (g_fitN (by decide) (by decide)) (fun r2 M1 => ?_)
      refine G_ifB_ne (tgt := 20) dX10_layAll_14 (by decide) ?_ ?_
      · refine G_aload_n 0 dX10_layAll_20 rfl rfl ?_
        refine G_iload_n 1 dX10_layAll_21 rfl rfl ?_
        refine G_cVv (As := [.int x1]) (rest := []) (ok_X10_blow x1 M1) rfl (y2_0) rfl mv_X10_479 dX10_layAll_22 rfl rfl (Nat.le_of_ble_eq_true rfl) (g_fitN (by decide) (by decide)) (fun r4 M3 => ?_)
        refine G_iconst (v := 0) dX10_layAll_25 (by decide) ?_
        refine G_istore_n (lv' := [(2, .int 0), (0, .ref (ad X 0)), (1, .int x1)]) dX10_layAll_26 rfl (by decide) rfl ?_
        exact G_sub [1, 2, 0] rfl (o_X10_layAll_27 ih FU x1 (0 : Int32) M3)
      · refine G_goto (tgt := 116) dX10_layAll_17 (by decide) ?_
        refine G_iinc (v := x1 + 1) (lv' := [(1, .int (x1 + 1)), (0, .ref (ad X 0))]) 1 dX10_layAll_116 rfl rfl (by decide) rfl ?_
        refine G_goto (tgt := 2) dX10_layAll_119 (by decide) ?_
        exact G_sub [1, 0] rfl (ih (x1 + 1) M1)
def f_X10_layAll (M : gM) : Option (Unit × gM) := (f_X10_layAll_2 FU (0 : Int32) M)
set_option maxRecDepth 100000 in
set_option maxHeartbeats 4000000 in
theorem ok_X10_layAll (M : gM) : g_met Y2 yX10_layAll jX10_layAll g_ev (fun Z => [.ref (Z.2.1 0)]) M (f_X10_layAll M) := by
  refine g_enter (fun Z => [(0, .ref (Z.2.1 0))]) (by decide) rfl (fun Z => Nat.le_of_ble_eq_true rfl) (fun Z => rfl) (fun X => ?_)
  rw [f_X10_layAll]
  refine G_iconst (v := 0) dX10_layAll_0 (by decide) ?_
  refine G_istore_n (lv' := [(1, .int 0), (0, .ref (ad X 0))]) dX10_layAll_1 rfl (by decide) rfl ?_
  exact G_sub [1, 0] rfl (o_X10_layAll_2 FU (0 : Int32) M)
-- X10_leads
def f_X10_leads (a1 : Int32) (a2 : Int32) (a3 : Int32) (M : gM) : Option (Int32 × gM) := (g_ck ((((25 : Int32) * (((6 : Int32) * a1) + a2)) + a3) + (12 : Int32)) 311850 (some ((M.1 50 (tn ((((25 : Int32) * (((6 : Int32) * a1) + a2)) + a3) + (12 : Int32)))), M)))
set_option maxRecDepth 100000 in
set_option maxHeartbeats 4000000 in
theorem ok_X10_leads (a1 : Int32) (a2 : Int32) (a3 : Int32) (M : gM) : g_met Y2 yX10_leads jX10_leads g_ei (fun Z => [.ref (Z.2.1 0), .int a1, .int a2, .int a3]) M (f_X10_leads a1 a2 a3 M) := by
  refine g_enter (fun Z => [(0, .ref (Z.2.1 0)), (1, .int a1), (2, .int a2), (3, .int a3)]) (by decide) rfl (fun Z => Nat.le_of_ble_eq_true rfl) (fun Z => rfl) (fun X => ?_)
  rw [f_X10_leads]
  refine G_aload_n 0 dX10_leads_0 rfl rfl ?_
  refine G_get 80 clX10 (y2_0) fl_X10_167 dX10_leads_1 (by decide) rfl rfl ?_
  refine G_bipush (v := 25) dX10_leads_4 (by decide) ?_
  refine G_bipush (v := 6) dX10_leads_6 (by decide) ?_
  refine G_iload_n 1 dX10_leads_8 rfl rfl ?_
  refine G_imul dX10_leads_9 ?_
  refine G_iload_n 2 dX10_leads_10 rfl rfl ?_
  refine G_iadd dX10_leads_11 ?_
  refine G_imul dX10_leads_12 ?_
  refine G_iload_n 3 dX10_leads_13 rfl rfl ?_
  refine G_iadd dX10_leads_14 ?_
  refine G_bipush (v := 12) dX10_leads_15 (by decide) ?_
  refine G_iadd dX10_leads_17 ?_
  refine G_iald (y2_50) dX10_leads_18 ?_
  exact G_iret rfl dX10_leads_19
-- X10_isKept
def f_X10_isKept_24 : Nat → Int32 → Int32 → Int32 → Int32 → gM → Option (Bool × gM)
  | 0, _, _, _, _, _ => none
  | n + 1, x1, x2, x3, x4, M => (g_ck x1 2079 (if (M.1 48 (tn x1)) < x4 then (some (true, M)) else (g_b (f_X10_leads x1 x2 x4 M) (fun r3 M2 => (if r3 = ((-2) : Int32) then (some (false, M2)) else (g_ck r3 2079 (if (M2.1 51 (tn r3)) = ((-2) : Int32) then (f_X10_isKept_24 n x1 x2 x3 (x4 + 1) M2) else (g_ck r3 2079 (if x3 ≤ (M2.1 51 (tn r3)) then (f_X10_isKept_24 n x1 x2 x3 (x4 + 1) M2) else (some (false, M2)))))))))))
set_option maxRecDepth 100000 in
set_option maxHeartbeats 4000000 in
theorem o_X10_isKept_24 {X : gX} : ∀ (n : Nat) (x1 : Int32) (x2 : Int32) (x3 : Int32) (x4 : Int32) (M : gM), G Y2 jX10_isKept X (g_fin g_eb) 24 [(0, .ref (ad X 0)), (1, .int x1), (2, .int x2), (3, .int x3), (4, .int x4)] [] M (f_X10_isKept_24 n x1 x2 x3 x4 M) := by
  intro n
  induction n with
  | zero => intro x1 x2 x3 x4 M; exact G_none
  | succ n ih =>
    intro x1 x2 x3 x4 M
    rw [f_X10_isKept_24]
    refine G_iload 4 dX10_isKept_24 rfl ?_
    refine G_aload_n 0 dX10_isKept_26 rfl rfl ?_
    refine G_get 78 clX10 (y2_0) fl_X10_160 dX10_isKept_27 (by decide) rfl rfl ?_
    refine G_iload_n 1 dX10_isKept_30 rfl rfl ?_
    refine G_iald (y2_48) dX10_isKept_31 ?_
    refine G_icmp_gt (tgt := 83) dX10_isKept_32 (by decide) ?_ ?_
    · refine G_iconst (v := 1) dX10_isKept_83 (by decide) ?_
      exact G_zret (b := true) rfl dX10_isKept_84
    · refine G_aload_n 0 dX10_isKept_35 rfl rfl ?_
      refine G_iload_n 1 dX10_isKept_36 rfl rfl ?_
      refine G_iload_n 2 dX10_isKept_37 rfl rfl ?_
      refine G_iload 4 dX10_isKept_38 rfl ?_
      refine G_cVi (As := [.int x1, .int x2, .int x4]) (rest := []) (ok_X10_leads x1 x2 x4 M) rfl (y2_0) rfl mv_X10_507 dX10_isKept_40 rfl rfl (Nat.le_of_ble_eq_true rfl) (g_fitN (by decide) (by decide)) (fun r3 M2 => ?_)
      refine G_istore (lv' := [(5, .int r3), (0, .ref (ad X 0)), (1, .int x1), (2, .int x2), (3, .int x3), (4, .int x4)]) dX10_isKept_43 (by decide) rfl ?_
      refine G_iload 0 dX10_isKept_45 rfl ?_
      refine G_bipush (v := (-2)) dX10_isKept_47 (by decide) ?_
      refine G_icmp_eq (tgt := 75) dX10_isKept_49 (by decide) ?_ ?_
      · refine G_iconst (v := 0) dX10_isKept_75 (by decide) ?_
        exact G_zret (b := false) rfl dX10_isKept_76
      · refine G_aload_n 1 dX10_isKept_52 rfl rfl ?_
        refine G_get 81 clX10 (y2_0) fl_X10_170 dX10_isKept_53 (by decide) rfl rfl ?_
        refine G_iload 0 dX10_isKept_56 rfl ?_
        refine G_iald (y2_51) dX10_isKept_58 ?_
        refine G_bipush (v := (-2)) dX10_isKept_59 (by decide) ?_
        refine G_icmp_eq (tgt := 77) dX10_isKept_61 (by decide) ?_ ?_
        · refine G_iinc (v := x4 + 1) (lv' := [(4, .int (x4 + 1)), (5, .int r3), (0, .ref (ad X 0)), (1, .int x1), (2, .int x2), (3, .int x3)]) 5 dX10_isKept_77 rfl rfl (by decide) rfl ?_
          refine G_goto (tgt := 24) dX10_isKept_80 (by decide) ?_
          exact G_sub [2, 3, 4, 5, 0] rfl (ih x1 x2 x3 (x4 + 1) M2)
        · refine G_aload_n 1 dX10_isKept_64 rfl rfl ?_
          refine G_get 81 clX10 (y2_0) fl_X10_170 dX10_isKept_65 (by decide) rfl rfl ?_
          refine G_iload 0 dX10_isKept_68 rfl ?_
          refine G_iald (y2_51) dX10_isKept_70 ?_
          refine G_iload_n 4 dX10_isKept_71 rfl rfl ?_
          refine G_icmp_ge (tgt := 77) dX10_isKept_72 (by decide) ?_ ?_
          · refine G_iinc (v := x4 + 1) (lv' := [(4, .int (x4 + 1)), (5, .int r3), (0, .ref (ad X 0)), (1, .int x1), (2, .int x2), (3, .int x3)]) 5 dX10_isKept_77 rfl rfl (by decide) rfl ?_
            refine G_goto (tgt := 24) dX10_isKept_80 (by decide) ?_
            exact G_sub [2, 3, 4, 5, 0] rfl (ih x1 x2 x3 (x4 + 1) M2)
          · refine G_iconst (v := 0) dX10_isKept_75 (by decide) ?_
            exact G_zret (b := false) rfl dX10_isKept_76
def f_X10_isKept (a1 : Int32) (a2 : Int32) (a3 : Int32) (M : gM) : Option (Bool × gM) := (g_ck (((6 : Int32) * a1) + a2) 12474 (if (M.1 49 (tn (((6 : Int32) * a1) + a2))) = 0 then (some (false, M)) else (g_ck a1 2079 (g_v (M.1 47 (tn a1)) (fun y1 => (f_X10_isKept_24 FU a1 a2 a3 y1 M))))))
set_option maxRecDepth 100000 in
set_option maxHeartbeats 4000000 in
theorem ok_X10_isKept (a1 : Int32) (a2 : Int32) (a3 : Int32) (M : gM) : g_met Y2 yX10_isKept jX10_isKept g_eb (fun Z => [.ref (Z.2.1 0), .int a1, .int a2, .int a3]) M (f_X10_isKept a1 a2 a3 M) := by
  refine g_enter (fun Z => [(0, .ref (Z.2.1 0)), (1, .int a1), (2, .int a2), (3, .int a3)]) (by decide) rfl (fun Z => Nat.le_of_ble_eq_true rfl) (fun Z => rfl) (fun X => ?_)
  rw [f_X10_isKept]
  refine G_aload_n 0 dX10_isKept_0 rfl rfl ?_
  refine G_get 79 clX10 (y2_0) fl_X10_163 dX10_isKept_1 (by decide) rfl rfl ?_
  refine G_bipush (v := 6) dX10_isKept_4 (by decide) ?_
  refine G_iload_n 1 dX10_isKept_6 rfl rfl ?_
  refine G_imul dX10_isKept_7 ?_
  refine G_iload_n 2 dX10_isKept_8 rfl rfl ?_
  refine G_iadd dX10_isKept_9 ?_
  refine G_zald (y2_49) dX10_isKept_10 ?_
  refine G_if_ne (tgt := 16) dX10_isKept_11 (by decide) ?_ ?_
  · refine G_aload_n 0 dX10_isKept_16 rfl rfl ?_
    refine G_get 77 clX10 (y2_0) fl_X10_157 dX10_isKept_17 (by decide) rfl rfl ?_
    refine G_iload_n 1 dX10_isKept_20 rfl rfl ?_
    refine G_iald (y2_47) dX10_isKept_21 ?_
    refine G_vi (fun y1 => ?_)
    refine G_istore (lv' := [(4, .int y1), (0, .ref (ad X 0)), (1, .int a1), (2, .int a2), (3, .int a3)]) dX10_isKept_22 (by decide) rfl ?_
    exact G_sub [1, 2, 3, 4, 0] rfl (o_X10_isKept_24 FU a1 a2 a3 y1 M)
  · refine G_iconst (v := 0) dX10_isKept_14 (by decide) ?_
    exact G_zret (b := false) rfl dX10_isKept_15
-- X10_fates
def f_X10_fates_108 (k35 : Int32 → Int32 → Int32 → gM → Option (Unit × gM)) (x1 : Int32) (x2 : Int32) (x3 : Int32) (x4 : Int32) (M : gM) : Option (Unit × gM) := (if x4 = 0 then (g_ck x3 2079 (g_m (sI M 51 (tn x3) x2) (fun M7 => (k35 (1 : Int32) x2 (x3 + 1) M7)))) else (k35 x1 x2 (x3 + 1) M))
set_option maxRecDepth 100000 in
set_option maxHeartbeats 4000000 in
theorem o_X10_fates_108 {X : gX} {k35 : Int32 → Int32 → Int32 → gM → Option (Unit × gM)} (hk35 : ∀ (x1 : Int32) (x2 : Int32) (x3 : Int32) (M : gM), G Y2 jX10_fates X (g_fin g_ev) 35 [(0, .ref (ad X 0)), (1, .int x1), (2, .int x2), (3, .int x3)] [] M (k35 x1 x2 x3 M)) (x1 : Int32) (x2 : Int32) (x3 : Int32) (x4 : Int32) (M : gM) : G Y2 jX10_fates X (g_fin g_ev) 108 [(0, .ref (ad X 0)), (1, .int x1), (2, .int x2), (3, .int x3), (4, .int x4)] [] M (f_X10_fates_108 k35 x1 x2 x3 x4 M) := by
  rw [f_X10_fates_108]
  refine G_iload 4 dX10_fates_108 rfl ?_
  refine G_if_eq (tgt := 116) dX10_fates_110 (by decide) ?_ ?_
  · refine G_aload_n 0 dX10_fates_116 rfl rfl ?_
    refine G_get 81 clX10 (y2_0) fl_X10_170 dX10_fates_117 (by decide) rfl rfl ?_
    refine G_iload_n 3 dX10_fates_120 rfl rfl ?_
    refine G_iload_n 2 dX10_fates_121 rfl rfl ?_
    refine G_iast (y2_51) dX10_fates_122 ?_
    refine G_m (fun M7 => ?_)
    refine G_iconst (v := 1) dX10_fates_123 (by decide) ?_
    refine G_istore_n (lv' := [(1, .int 1), (0, .ref (ad X 0)), (2, .int x2), (3, .int x3), (4, .int x4)]) dX10_fates_124 rfl (by decide) rfl ?_
    refine G_iinc (v := x3 + 1) (lv' := [(3, .int (x3 + 1)), (1, .int 1), (0, .ref (ad X 0)), (2, .int x2), (4, .int x4)]) 3 dX10_fates_125 rfl rfl (by decide) rfl ?_
    refine G_goto (tgt := 35) dX10_fates_128 (by decide) ?_
    exact G_sub [2, 1, 3, 0] rfl (hk35 (1 : Int32) x2 (x3 + 1) M7)
  · refine G_goto (tgt := 125) dX10_fates_113 (by decide) ?_
    refine G_iinc (v := x3 + 1) (lv' := [(3, .int (x3 + 1)), (0, .ref (ad X 0)), (1, .int x1), (2, .int x2), (4, .int x4)]) 3 dX10_fates_125 rfl rfl (by decide) rfl ?_
    refine G_goto (tgt := 35) dX10_fates_128 (by decide) ?_
    exact G_sub [1, 2, 3, 0] rfl (hk35 x1 x2 (x3 + 1) M)
def f_X10_fates_78 (k35 : Int32 → Int32 → Int32 → gM → Option (Unit × gM)) : Nat → Int32 → Int32 → Int32 → Int32 → Int32 → gM → Option (Unit × gM)
  | 0, _, _, _, _, _, _ => none
  | n + 1, x1, x2, x3, x4, x5, M => (g_b (f_X10_actsOf M) (fun r6 M5 => (if r6 ≤ x5 then (f_X10_fates_108 k35 x1 x2 x3 x4 M5) else (if x4 = 0 then (g_b (f_X10_isKept x3 x5 x2 M5) (fun r9 M8 => (g_v (b2i r9) (fun y10 => (f_X10_fates_78 k35 n x1 x2 x3 y10 (x5 + 1) M8))))) else (f_X10_fates_108 k35 x1 x2 x3 x4 M5)))))
set_option maxRecDepth 100000 in
set_option maxHeartbeats 4000000 in
theorem o_X10_fates_78 {X : gX} {k35 : Int32 → Int32 → Int32 → gM → Option (Unit × gM)} (hk35 : ∀ (x1 : Int32) (x2 : Int32) (x3 : Int32) (M : gM), G Y2 jX10_fates X (g_fin g_ev) 35 [(0, .ref (ad X 0)), (1, .int x1), (2, .int x2), (3, .int x3)] [] M (k35 x1 x2 x3 M)) : ∀ (n : Nat) (x1 : Int32) (x2 : Int32) (x3 : Int32) (x4 : Int32) (x5 : Int32) (M : gM), G Y2 jX10_fates X (g_fin g_ev) 78 [(0, .ref (ad X 0)), (1, .int x1), (2, .int x2), (3, .int x3), (4, .int x4), (5, .int x5)] [] M (f_X10_fates_78 k35 n x1 x2 x3 x4 x5 M) := by
  intro n
  induction n with
  | zero => intro x1 x2 x3 x4 x5 M; exact G_none
  | succ n ih =>
    intro x1 x2 x3 x4 x5 M
    rw [f_X10_fates_78]
    refine G_iload 5 dX10_fates_78 rfl ?_
    refine G_aload_n 0 dX10_fates_80 rfl rfl ?_
    refine G_cVi (As := []) (rest := [.int x5]) (ok_X10_actsOf M) rfl (y2_0) rfl mv_X10_482 dX10_fates_81 rfl rfl (Nat.le_of_ble_eq_true rfl) (g_fitN (by decide) (by decide)) (fun r6 M5 => ?_)
    refine G_icmp_ge (tgt := 108) dX10_fates_84 (by decide) ?_ ?_
    · exact G_sub [0, 1, 2, 3, 4] rfl (o_X10_fates_108 hk35 x1 x2 x3 x4 M5)
    · refine G_iload 4 dX10_fates_87 rfl ?_
      refine G_if_ne (tgt := 108) dX10_fates_89 (by decide) ?_ ?_
      · exact G_sub [0, 1, 2, 3, 4] rfl (o_X10_fates_108 hk35 x1 x2 x3 x4 M5)
      · refine G_aload_n 0 dX10_fates_92 rfl rfl ?_
        refine G_iload_n 3 dX10_fates_93 rfl rfl ?_
        refine G_iload 5 dX10_fates_94 rfl ?_
        refine G_iload_n 2 dX10_fates_96 rfl rfl ?_
        refine G_cVb (As := [.int x3, .int x5, .int x2]) (rest := []) (ok_X10_isKept x3 x5 x2 M5) rfl (y2_0) rfl mv_X10_510 dX10_fates_97 rfl rfl (Nat.le_of_ble_eq_true rfl) (g_fitN (by decide) (by decide)) (fun r9 M8 => ?_)
        refine G_vi (fun y10 => ?_)
        refine G_istore (lv' := [(4, .int y10), (0, .ref (ad X 0)), (1, .int x1), (2, .int x2), (3, .int x3), (5, .int x5)]) dX10_fates_100 (by decide) rfl ?_
        refine G_iinc (v := x5 + 1) (lv' := [(5, .int (x5 + 1)), (4, .int y10), (0, .ref (ad X 0)), (1, .int x1), (2, .int x2), (3, .int x3)]) 5 dX10_fates_102 rfl rfl (by decide) rfl ?_
        refine G_goto (tgt := 78) dX10_fates_105 (by decide) ?_
        exact G_sub [2, 3, 4, 5, 1, 0] rfl (ih x1 x2 x3 y10 (x5 + 1) M8)
def f_X10_fates_35 (k27 : Int32 → Int32 → gM → Option (Unit × gM)) : Nat → Int32 → Int32 → Int32 → gM → Option (Unit × gM)
  | 0, _, _, _, _ => none
  | n + 1, x1, x2, x3, M => (if (2079 : Int32) ≤ x3 then (k27 x1 (x2 + 1) M) else (g_b (f_X10_isState x3 M) (fun r2 M1 => (if r2 then (g_ck x3 2079 (if (M1.1 51 (tn x3)) = ((-2) : Int32) then (g_b (f_X10_isOver x3 M1) (fun r4 M3 => (if r4 then (f_X10_fates_35 k27 n x1 x2 (x3 + 1) M3) else (f_X10_fates_78 (f_X10_fates_35 k27 n) FU x1 x2 x3 (0 : Int32) (0 : Int32) M3)))) else (f_X10_fates_35 k27 n x1 x2 (x3 + 1) M1))) else (f_X10_fates_35 k27 n x1 x2 (x3 + 1) M1)))))
set_option maxRecDepth 100000 in
set_option maxHeartbeats 4000000 in
theorem o_X10_fates_35 {X : gX} {k27 : Int32 → Int32 → gM → Option (Unit × gM)} (hk27 : ∀ (x1 : Int32) (x2 : Int32) (M : gM), G Y2 jX10_fates X (g_fin g_ev) 27 [(0, .ref (ad X 0)), (1, .int x1), (2, .int x2)] [] M (k27 x1 x2 M)) : ∀ (n : Nat) (x1 : Int32) (x2 : Int32) (x3 : Int32) (M : gM), G Y2 jX10_fates X (g_fin g_ev) 35 [(0, .ref (ad X 0)), (1, .int x1), (2, .int x2), (3, .int x3)] [] M (f_X10_fates_35 k27 n x1 x2 x3 M) := by
  intro n
  induction n with
  | zero => intro x1 x2 x3 M; exact G_none
  | succ n ih =>
    intro x1 x2 x3 M
    rw [f_X10_fates_35]
    refine G_iload_n 3 dX10_fates_35 rfl rfl ?_
    refine G_sipush (v := 2079) dX10_fates_36 (by decide) ?_
    refine G_icmp_ge (tgt := 131) dX10_fates_39 (by decide) ?_ ?_
    · refine G_iinc (v := x2 + 1) (lv' := [(2, .int (x2 + 1)), (0, .ref (ad X 0)), (1, .int x1), (3, .int x3)]) 2 dX10_fates_131 rfl rfl (by decide) rfl ?_
      refine G_goto (tgt := 27) dX10_fates_134 (by decide) ?_
      exact G_sub [1, 2, 0] rfl (hk27 x1 (x2 + 1) M)
    · refine G_aload_n 0 dX10_fates_42 rfl rfl ?_
      refine G_iload_n 3 dX10_fates_43 rfl rfl ?_
      refine G_cVb (As := [.int x3]) (rest := []) (ok_X10_isState x3 M) rfl (y2_0) rfl mv_X10_476 dX10_fates_44 rfl rfl (Nat.le_of_ble_eq_true rfl) (g_fitN (by decide) (by decide)) (fun r2 M1 => ?_)
      refine G_ifB_eq (tgt := 125) dX10_fates_47 (by decide) ?_ ?_
      · refine G_iinc (v := x3 + 1) (lv' := [(3, .int (x3 + 1)), (0, .ref (ad X 0)), (1, .int x1), (2, .int x2)]) 3 dX10_fates_125 rfl rfl (by decide) rfl ?_
        refine G_goto (tgt := 35) dX10_fates_128 (by decide) ?_
        exact G_sub [1, 2, 3, 0] rfl (ih x1 x2 (x3 + 1) M1)
      · refine G_aload_n 0 dX10_fates_50 rfl rfl ?_
        refine G_get 81 clX10 (y2_0) fl_X10_170 dX10_fates_51 (by decide) rfl rfl ?_
        refine G_iload_n 3 dX10_fates_54 rfl rfl ?_
        refine G_iald (y2_51) dX10_fates_55 ?_
        refine G_bipush (v := (-2)) dX10_fates_56 (by decide) ?_
        refine G_icmp_ne (tgt := 125) dX10_fates_58 (by decide) ?_ ?_
        · refine G_iinc (v := x3 + 1) (lv' := [(3, .int (x3 + 1)), (0, .ref (ad X 0)), (1, .int x1), (2, .int x2)]) 3 dX10_fates_125 rfl rfl (by decide) rfl ?_
          refine G_goto (tgt := 35) dX10_fates_128 (by decide) ?_
          exact G_sub [1, 2, 3, 0] rfl (ih x1 x2 (x3 + 1) M1)
        · refine G_aload_n 0 dX10_fates_61 rfl rfl ?_
          refine G_iload_n 3 dX10_fates_62 rfl rfl ?_
          refine G_cVb (As := [.int x3]) (rest := []) (ok_X10_isOver x3 M1) rfl (y2_0) rfl mv_X10_460 dX10_fates_63 rfl rfl (Nat.le_of_ble_eq_true rfl) (g_fitN (by decide) (by decide)) (fun r4 M3 => ?_)
          refine G_ifB_eq (tgt := 72) dX10_fates_66 (by decide) ?_ ?_
          · refine G_iconst (v := 0) dX10_fates_72 (by decide) ?_
            refine G_istore (lv' := [(4, .int 0), (0, .ref (ad X 0)), (1, .int x1), (2, .int x2), (3, .int x3)]) dX10_fates_73 (by decide) rfl ?_
            refine G_iconst (v := 0) dX10_fates_75 (by decide) ?_
            refine G_istore (lv' := [(5, .int 0), (4, .int 0), (0, .ref (ad X 0)), (1, .int x1), (2, .int x2), (3, .int x3)]) dX10_fates_76 (by decide) rfl ?_
            exact G_sub [2, 3, 4, 5, 1, 0] rfl (o_X10_fates_78 ih FU x1 x2 x3 (0 : Int32) (0 : Int32) M3)
          · refine G_goto (tgt := 125) dX10_fates_69 (by decide) ?_
            refine G_iinc (v := x3 + 1) (lv' := [(3, .int (x3 + 1)), (0, .ref (ad X 0)), (1, .int x1), (2, .int x2)]) 3 dX10_fates_125 rfl rfl (by decide) rfl ?_
            refine G_goto (tgt := 35) dX10_fates_128 (by decide) ?_
            exact G_sub [1, 2, 3, 0] rfl (ih x1 x2 (x3 + 1) M3)
def f_X10_fates_27 : Nat → Int32 → Int32 → gM → Option (Unit × gM)
  | 0, _, _, _ => none
  | n + 1, x1, x2, M => (if x1 = 0 then (some ((), M)) else (f_X10_fates_35 (f_X10_fates_27 n) FU (0 : Int32) x2 (0 : Int32) M))
set_option maxRecDepth 100000 in
set_option maxHeartbeats 4000000 in
theorem o_X10_fates_27 {X : gX} : ∀ (n : Nat) (x1 : Int32) (x2 : Int32) (M : gM), G Y2 jX10_fates X (g_fin g_ev) 27 [(0, .ref (ad X 0)), (1, .int x1), (2, .int x2)] [] M (f_X10_fates_27 n x1 x2 M) := by
  intro n
  induction n with
  | zero => intro x1 x2 M; exact G_none
  | succ n ih =>
    intro x1 x2 M
    rw [f_X10_fates_27]
    refine G_iload_n 1 dX10_fates_27 rfl rfl ?_
    refine G_if_eq (tgt := 137) dX10_fates_28 (by decide) ?_ ?_
    · exact G_vret rfl dX10_fates_137
    · refine G_iconst (v := 0) dX10_fates_31 (by decide) ?_
      refine G_istore_n (lv' := [(1, .int 0), (0, .ref (ad X 0)), (2, .int x2)]) dX10_fates_32 rfl (by decide) rfl ?_
      refine G_iconst (v := 0) dX10_fates_33 (by decide) ?_
      refine G_istore_n (lv' := [(3, .int 0), (1, .int 0), (0, .ref (ad X 0)), (2, .int x2)]) dX10_fates_34 rfl (by decide) rfl ?_
      exact G_sub [2, 1, 3, 0] rfl (o_X10_fates_35 ih FU (0 : Int32) x2 (0 : Int32) M)
def f_X10_fates_2 : Nat → Int32 → gM → Option (Unit × gM)
  | 0, _, _ => none
  | n + 1, x1, M => (if (2079 : Int32) ≤ x1 then (f_X10_fates_27 FU (1 : Int32) (0 : Int32) M) else (g_ck x1 2079 (g_m (sI M 51 (tn x1) ((-2) : Int32)) (fun M11 => (f_X10_fates_2 n (x1 + 1) M11)))))
set_option maxRecDepth 100000 in
set_option maxHeartbeats 4000000 in
theorem o_X10_fates_2 {X : gX} : ∀ (n : Nat) (x1 : Int32) (M : gM), G Y2 jX10_fates X (g_fin g_ev) 2 [(0, .ref (ad X 0)), (1, .int x1)] [] M (f_X10_fates_2 n x1 M) := by
  intro n
  induction n with
  | zero => intro x1 M; exact G_none
  | succ n ih =>
    intro x1 M
    rw [f_X10_fates_2]
    refine G_iload_n 1 dX10_fates_2 rfl rfl ?_
    refine G_sipush (v := 2079) dX10_fates_3 (by decide) ?_
    refine G_icmp_ge (tgt := 23) dX10_fates_6 (by decide) ?_ ?_
    · refine G_iconst (v := 1) dX10_fates_23 (by decide) ?_
      refine G_istore_n (lv' := [(1, .int 1), (0, .ref (ad X 0))]) dX10_fates_24 rfl (by decide) rfl ?_
      refine G_iconst (v := 0) dX10_fates_25 (by decide) ?_
      refine G_istore_n (lv' := [(2, .int 0), (1, .int 1), (0, .ref (ad X 0))]) dX10_fates_26 rfl (by decide) rfl ?_
      exact G_sub [2, 1, 0] rfl (o_X10_fates_27 FU (1 : Int32) (0 : Int32) M)
    · refine G_aload_n 0 dX10_fates_9 rfl rfl ?_
      refine G_get 81 clX10 (y2_0) fl_X10_170 dX10_fates_10 (by decide) rfl rfl ?_
      refine G_iload_n 1 dX10_fates_13 rfl rfl ?_
      refine G_bipush (v := (-2)) dX10_fates_14 (by decide) ?_
      refine G_iast (y2_51) dX10_fates_16 ?_
      refine G_m (fun M11 => ?_)
      refine G_iinc (v := x1 + 1) (lv' := [(1, .int (x1 + 1)), (0, .ref (ad X 0))]) 1 dX10_fates_17 rfl rfl (by decide) rfl ?_
      refine G_goto (tgt := 2) dX10_fates_20 (by decide) ?_
      exact G_sub [1, 0] rfl (ih (x1 + 1) M11)
def f_X10_fates (M : gM) : Option (Unit × gM) := (f_X10_fates_2 FU (0 : Int32) M)
set_option maxRecDepth 100000 in
set_option maxHeartbeats 4000000 in
theorem ok_X10_fates (M : gM) : g_met Y2 yX10_fates jX10_fates g_ev (fun Z => [.ref (Z.2.1 0)]) M (f_X10_fates M) := by
  refine g_enter (fun Z => [(0, .ref (Z.2.1 0))]) (by decide) rfl (fun Z => Nat.le_of_ble_eq_true rfl) (fun Z => rfl) (fun X => ?_)
  rw [f_X10_fates]
  refine G_iconst (v := 0) dX10_fates_0 (by decide) ?_
  refine G_istore_n (lv' := [(1, .int 0), (0, .ref (ad X 0))]) dX10_fates_1 rfl (by decide) rfl ?_
  exact G_sub [1, 0] rfl (o_X10_fates_2 FU (0 : Int32) M)
-- X10_lay
def f_X10_lay (M : gM) : Option (Unit × gM) := (if (M.1 0 72) = 0 then (g_m (sI M 0 72 (1 : Int32)) (fun M1 => (g_m (sI M1 0 74 (0 : Int32)) (fun M2 => (g_m (sI M2 0 75 (0 : Int32)) (fun M3 => (g_m (sI M3 0 76 (0 : Int32)) (fun M4 => (g_b (f_X10_layAll M4) (fun r6 M5 => (g_b (f_X10_fates M5) (fun r8 M7 => (some ((), M7)))))))))))))) else (some ((), M)))
set_option maxRecDepth 100000 in
set_option maxHeartbeats 4000000 in
theorem ok_X10_lay (M : gM) : g_met Y2 yX10_lay jX10_lay g_ev (fun Z => [.ref (Z.2.1 0)]) M (f_X10_lay M) := by
  refine g_enter (fun Z => [(0, .ref (Z.2.1 0))]) (by decide) rfl (fun Z => Nat.le_of_ble_eq_true rfl) (fun Z => rfl) (fun X => ?_)
  rw [f_X10_lay]
  refine G_aload_n 0 dX10_lay_0 rfl rfl ?_
  refine G_get 72 clX10 (y2_0) fl_X10_410 dX10_lay_1 (by decide) rfl rfl ?_
  refine G_if_eq (tgt := 8) dX10_lay_4 (by decide) ?_ ?_
  · refine G_aload_n 0 dX10_lay_8 rfl rfl ?_
    refine G_iconst (v := 1) dX10_lay_9 (by decide) ?_
    refine G_putZ 72 clX10 (y2_0) fl_X10_410 dX10_lay_10 (by decide) rfl rfl rfl ⟨rfl, rfl⟩ ?_
    refine G_m (fun M1 => ?_)
    refine G_aload_n 0 dX10_lay_13 rfl rfl ?_
    refine G_iconst (v := 0) dX10_lay_14 (by decide) ?_
    refine G_putZ 74 clX10 (y2_0) fl_X10_492 dX10_lay_15 (by decide) rfl rfl rfl ⟨rfl, rfl⟩ ?_
    refine G_m (fun M2 => ?_)
    refine G_aload_n 0 dX10_lay_18 rfl rfl ?_
    refine G_iconst (v := 0) dX10_lay_19 (by decide) ?_
    refine G_putZ 75 clX10 (y2_0) fl_X10_495 dX10_lay_20 (by decide) rfl rfl rfl ⟨rfl, rfl⟩ ?_
    refine G_m (fun M3 => ?_)
    refine G_aload_n 0 dX10_lay_23 rfl rfl ?_
    refine G_iconst (v := 0) dX10_lay_24 (by decide) ?_
    refine G_putZ 76 clX10 (y2_0) fl_X10_498 dX10_lay_25 (by decide) rfl rfl rfl ⟨rfl, rfl⟩ ?_
    refine G_m (fun M4 => ?_)
    refine G_aload_n 0 dX10_lay_28 rfl rfl ?_
    refine G_cVv (As := []) (rest := []) (ok_X10_layAll M4) rfl (y2_0) rfl mv_X10_501 dX10_lay_29 rfl rfl (Nat.le_of_ble_eq_true rfl) (g_fitN (by decide) (by decide)) (fun r6 M5 => ?_)
    refine G_aload_n 0 dX10_lay_32 rfl rfl ?_
    refine G_cVv (As := []) (rest := []) (ok_X10_fates M5) rfl (y2_0) rfl mv_X10_504 dX10_lay_33 rfl rfl (Nat.le_of_ble_eq_true rfl) (g_fitN (by decide) (by decide)) (fun r8 M7 => ?_)
    exact G_vret rfl dX10_lay_36
  · exact G_vret rfl dX10_lay_7
-- X10_isSafe
def f_X10_isSafe (a1 : Int32) (M : gM) : Option (Bool × gM) := (g_ck a1 2079 (if (M.1 51 (tn a1)) = ((-2) : Int32) then (some (true, M)) else (some (false, M))))
set_option maxRecDepth 100000 in
set_option maxHeartbeats 4000000 in
theorem ok_X10_isSafe (a1 : Int32) (M : gM) : g_met Y2 yX10_isSafe jX10_isSafe g_eb (fun Z => [.ref (Z.2.1 0), .int a1]) M (f_X10_isSafe a1 M) := by
  refine g_enter (fun Z => [(0, .ref (Z.2.1 0)), (1, .int a1)]) (by decide) rfl (fun Z => Nat.le_of_ble_eq_true rfl) (fun Z => rfl) (fun X => ?_)
  rw [f_X10_isSafe]
  refine G_aload_n 0 dX10_isSafe_0 rfl rfl ?_
  refine G_get 81 clX10 (y2_0) fl_X10_170 dX10_isSafe_1 (by decide) rfl rfl ?_
  refine G_iload_n 1 dX10_isSafe_4 rfl rfl ?_
  refine G_iald (y2_51) dX10_isSafe_5 ?_
  refine G_bipush (v := (-2)) dX10_isSafe_6 (by decide) ?_
  refine G_icmp_ne (tgt := 15) dX10_isSafe_8 (by decide) ?_ ?_
  · refine G_iconst (v := 0) dX10_isSafe_15 (by decide) ?_
    exact G_zret (b := false) rfl dX10_isSafe_16
  · refine G_iconst (v := 1) dX10_isSafe_11 (by decide) ?_
    refine G_goto (tgt := 16) dX10_isSafe_12 (by decide) ?_
    exact G_zret (b := true) rfl dX10_isSafe_16
-- X10_state
def f_X10_state (a1 : Int32) (a2 : Int32) (a3 : Int32) (M : gM) : Option (Int32 × gM) := (g_b (f_X10_isPlace a1 a2 a3 M) (fun r2 M1 => (if r2 then (g_b (f_X10_numberOf a1 a2 a3 M1) (fun r4 M3 => (some (r4, M3)))) else (some (((-1) : Int32), M1)))))
set_option maxRecDepth 100000 in
set_option maxHeartbeats 4000000 in
theorem ok_X10_state (a1 : Int32) (a2 : Int32) (a3 : Int32) (M : gM) : g_met Y2 yX10_state jX10_state g_ei (fun Z => [.ref (Z.2.1 0), .int a1, .int a2, .int a3]) M (f_X10_state a1 a2 a3 M) := by
  refine g_enter (fun Z => [(0, .ref (Z.2.1 0)), (1, .int a1), (2, .int a2), (3, .int a3)]) (by decide) rfl (fun Z => Nat.le_of_ble_eq_true rfl) (fun Z => rfl) (fun X => ?_)
  rw [f_X10_state]
  refine G_aload_n 0 dX10_state_0 rfl rfl ?_
  refine G_iload_n 1 dX10_state_1 rfl rfl ?_
  refine G_iload_n 2 dX10_state_2 rfl rfl ?_
  refine G_iload_n 3 dX10_state_3 rfl rfl ?_
  refine G_cVb (As := [.int a1, .int a2, .int a3]) (rest := []) (ok_X10_isPlace a1 a2 a3 M) rfl (y2_0) rfl mv_X10_456 dX10_state_4 rfl rfl (Nat.le_of_ble_eq_true rfl) (g_fitN (by decide) (by decide)) (fun r2 M1 => ?_)
  refine G_ifB_eq (tgt := 19) dX10_state_7 (by decide) ?_ ?_
  · refine G_iconst (v := (-1)) dX10_state_19 (by decide) ?_
    exact G_iret rfl dX10_state_20
  · refine G_iload_n 1 dX10_state_10 rfl rfl ?_
    refine G_iload_n 2 dX10_state_11 rfl rfl ?_
    refine G_iload_n 3 dX10_state_12 rfl rfl ?_
    refine G_cSi (As := [.int a1, .int a2, .int a3]) (rest := []) (ok_X10_numberOf a1 a2 a3 M1) rfl ms_X10_472 dX10_state_13 rfl rfl (Nat.le_of_ble_eq_true rfl) (g_fitN (by decide) (by decide)) (fun r4 M3 => ?_)
    refine G_goto (tgt := 20) dX10_state_16 (by decide) ?_
    exact G_iret rfl dX10_state_20
-- X10_isAct
def f_X10_isAct (a1 : Int32) (M : gM) : Option (Bool × gM) := (if a1 < 0 then (some (false, M)) else (g_b (f_X10_actsOf M) (fun r2 M1 => (if r2 ≤ a1 then (some (false, M1)) else (some (true, M1))))))
set_option maxRecDepth 100000 in
set_option maxHeartbeats 4000000 in
theorem ok_X10_isAct (a1 : Int32) (M : gM) : g_met Y2 yX10_isAct jX10_isAct g_eb (fun Z => [.ref (Z.2.1 0), .int a1]) M (f_X10_isAct a1 M) := by
  refine g_enter (fun Z => [(0, .ref (Z.2.1 0)), (1, .int a1)]) (by decide) rfl (fun Z => Nat.le_of_ble_eq_true rfl) (fun Z => rfl) (fun X => ?_)
  rw [f_X10_isAct]
  refine G_iload_n 1 dX10_isAct_0 rfl rfl ?_
  refine G_if_lt (tgt := 16) dX10_isAct_1 (by decide) ?_ ?_
  · refine G_iconst (v := 0) dX10_isAct_16 (by decide) ?_
    exact G_zret (b := false) rfl dX10_isAct_17
  · refine G_iload_n 1 dX10_isAct_4 rfl rfl ?_
    refine G_aload_n 0 dX10_isAct_5 rfl rfl ?_
    refine G_cVi (As := []) (rest := [.int a1]) (ok_X10_actsOf M) rfl (y2_0) rfl mv_X10_482 dX10_isAct_6 rfl rfl (Nat.le_of_ble_eq_true rfl) (g_fitN (by decide) (by decide)) (fun r2 M1 => ?_)
    refine G_icmp_ge (tgt := 16) dX10_isAct_9 (by decide) ?_ ?_
    · refine G_iconst (v := 0) dX10_isAct_16 (by decide) ?_
      exact G_zret (b := false) rfl dX10_isAct_17
    · refine G_iconst (v := 1) dX10_isAct_12 (by decide) ?_
      refine G_goto (tgt := 17) dX10_isAct_13 (by decide) ?_
      exact G_zret (b := true) rfl dX10_isAct_17
-- X10_can
def f_X10_can (a1 : Int32) (a2 : Int32) (M : gM) : Option (Int32 × gM) := (g_b (f_X10_isState a1 M) (fun r2 M1 => (if r2 then (g_b (f_X10_isAct a2 M1) (fun r4 M3 => (if r4 then (g_b (f_X10_lay M3) (fun r6 M5 => (g_ck (((6 : Int32) * a1) + a2) 12474 (if (M5.1 49 (tn (((6 : Int32) * a1) + a2))) = 0 then (some ((0 : Int32), M5)) else (some ((1 : Int32), M5)))))) else (some (((-1) : Int32), M3))))) else (some (((-1) : Int32), M1)))))
set_option maxRecDepth 100000 in
set_option maxHeartbeats 4000000 in
theorem ok_X10_can (a1 : Int32) (a2 : Int32) (M : gM) : g_met Y2 yX10_can jX10_can g_ei (fun Z => [.ref (Z.2.1 0), .int a1, .int a2]) M (f_X10_can a1 a2 M) := by
  refine g_enter (fun Z => [(0, .ref (Z.2.1 0)), (1, .int a1), (2, .int a2)]) (by decide) rfl (fun Z => Nat.le_of_ble_eq_true rfl) (fun Z => rfl) (fun X => ?_)
  rw [f_X10_can]
  refine G_aload_n 0 dX10_can_0 rfl rfl ?_
  refine G_iload_n 1 dX10_can_1 rfl rfl ?_
  refine G_cVb (As := [.int a1]) (rest := []) (ok_X10_isState a1 M) rfl (y2_0) rfl mv_X10_476 dX10_can_2 rfl rfl (Nat.le_of_ble_eq_true rfl) (g_fitN (by decide) (by decide)) (fun r2 M1 => ?_)
  refine G_ifB_eq (tgt := 16) dX10_can_5 (by decide) ?_ ?_
  · refine G_iconst (v := (-1)) dX10_can_16 (by decide) ?_
    exact G_iret rfl dX10_can_17
  · refine G_aload_n 0 dX10_can_8 rfl rfl ?_
    refine G_iload_n 2 dX10_can_9 rfl rfl ?_
    refine G_cVb (As := [.int a2]) (rest := []) (ok_X10_isAct a2 M1) rfl (y2_0) rfl mv_X10_513 dX10_can_10 rfl rfl (Nat.le_of_ble_eq_true rfl) (g_fitN (by decide) (by decide)) (fun r4 M3 => ?_)
    refine G_ifB_ne (tgt := 18) dX10_can_13 (by decide) ?_ ?_
    · refine G_aload_n 0 dX10_can_18 rfl rfl ?_
      refine G_cVv (As := []) (rest := []) (ok_X10_lay M3) rfl (y2_0) rfl mv_X10_516 dX10_can_19 rfl rfl (Nat.le_of_ble_eq_true rfl) (g_fitN (by decide) (by decide)) (fun r6 M5 => ?_)
      refine G_aload_n 0 dX10_can_22 rfl rfl ?_
      refine G_get 79 clX10 (y2_0) fl_X10_163 dX10_can_23 (by decide) rfl rfl ?_
      refine G_bipush (v := 6) dX10_can_26 (by decide) ?_
      refine G_iload_n 1 dX10_can_28 rfl rfl ?_
      refine G_imul dX10_can_29 ?_
      refine G_iload_n 2 dX10_can_30 rfl rfl ?_
      refine G_iadd dX10_can_31 ?_
      refine G_zald (y2_49) dX10_can_32 ?_
      refine G_if_eq (tgt := 40) dX10_can_33 (by decide) ?_ ?_
      · refine G_iconst (v := 0) dX10_can_40 (by decide) ?_
        exact G_iret rfl dX10_can_41
      · refine G_iconst (v := 1) dX10_can_36 (by decide) ?_
        refine G_goto (tgt := 41) dX10_can_37 (by decide) ?_
        exact G_iret rfl dX10_can_41
    · refine G_iconst (v := (-1)) dX10_can_16 (by decide) ?_
      exact G_iret rfl dX10_can_17
-- X10_gust
def f_X10_gust (a1 : Int32) (a2 : Bool) (M : gM) : Option (Int32 × gM) := (g_b (f_X10_isState a1 M) (fun r2 M1 => (if r2 then (g_b (f_X10_lay M1) (fun r4 M3 => (if a2 then (g_ck a1 2079 (some ((M3.1 48 (tn a1)), M3))) else (g_ck a1 2079 (some ((M3.1 47 (tn a1)), M3)))))) else (some (((-100) : Int32), M1)))))
set_option maxRecDepth 100000 in
set_option maxHeartbeats 4000000 in
theorem ok_X10_gust (a1 : Int32) (a2 : Bool) (M : gM) : g_met Y2 yX10_gust jX10_gust g_ei (fun Z => [.ref (Z.2.1 0), .int a1, .int (b2i a2)]) M (f_X10_gust a1 a2 M) := by
  refine g_enter (fun Z => [(0, .ref (Z.2.1 0)), (1, .int a1), (2, .int (b2i a2))]) (by decide) rfl (fun Z => Nat.le_of_ble_eq_true rfl) (fun Z => rfl) (fun X => ?_)
  rw [f_X10_gust]
  refine G_aload_n 0 dX10_gust_0 rfl rfl ?_
  refine G_iload_n 1 dX10_gust_1 rfl rfl ?_
  refine G_cVb (As := [.int a1]) (rest := []) (ok_X10_isState a1 M) rfl (y2_0) rfl mv_X10_476 dX10_gust_2 rfl rfl (Nat.le_of_ble_eq_true rfl) (g_fitN (by decide) (by decide)) (fun r2 M1 => ?_)
  refine G_ifB_ne (tgt := 11) dX10_gust_5 (by decide) ?_ ?_
  · refine G_aload_n 0 dX10_gust_11 rfl rfl ?_
    refine G_cVv (As := []) (rest := []) (ok_X10_lay M1) rfl (y2_0) rfl mv_X10_516 dX10_gust_12 rfl rfl (Nat.le_of_ble_eq_true rfl) (g_fitN (by decide) (by decide)) (fun r4 M3 => ?_)
    refine G_iload_n 2 dX10_gust_15 rfl rfl ?_
    refine G_ifB_eq (tgt := 28) dX10_gust_16 (by decide) ?_ ?_
    · refine G_aload_n 0 dX10_gust_28 rfl rfl ?_
      refine G_get 77 clX10 (y2_0) fl_X10_157 dX10_gust_29 (by decide) rfl rfl ?_
      refine G_iload_n 1 dX10_gust_32 rfl rfl ?_
      refine G_iald (y2_47) dX10_gust_33 ?_
      exact G_iret rfl dX10_gust_34
    · refine G_aload_n 0 dX10_gust_19 rfl rfl ?_
      refine G_get 78 clX10 (y2_0) fl_X10_160 dX10_gust_20 (by decide) rfl rfl ?_
      refine G_iload_n 1 dX10_gust_23 rfl rfl ?_
      refine G_iald (y2_48) dX10_gust_24 ?_
      refine G_goto (tgt := 34) dX10_gust_25 (by decide) ?_
      exact G_iret rfl dX10_gust_34
  · refine G_bipush (v := (-100)) dX10_gust_8 (by decide) ?_
    exact G_iret rfl dX10_gust_10
-- X10_next
def f_X10_next (a1 : Int32) (a2 : Int32) (a3 : Int32) (M : gM) : Option (Int32 × gM) := (g_b (f_X10_isState a1 M) (fun r2 M1 => (if r2 then (g_b (f_X10_isAct a2 M1) (fun r4 M3 => (if r4 then (if a3 < ((-12) : Int32) then (some (((-1) : Int32), M3)) else (if a3 ≤ (12 : Int32) then (g_b (f_X10_lay M3) (fun r6 M5 => (g_ck (((6 : Int32) * a1) + a2) 12474 (if (M5.1 49 (tn (((6 : Int32) * a1) + a2))) = 0 then (some (((-3) : Int32), M5)) else (g_b (f_X10_leads a1 a2 a3 M5) (fun r8 M7 => (some (r8, M7)))))))) else (some (((-1) : Int32), M3)))) else (some (((-1) : Int32), M3))))) else (some (((-1) : Int32), M1)))))
set_option maxRecDepth 100000 in
set_option maxHeartbeats 4000000 in
theorem ok_X10_next (a1 : Int32) (a2 : Int32) (a3 : Int32) (M : gM) : g_met Y2 yX10_next jX10_next g_ei (fun Z => [.ref (Z.2.1 0), .int a1, .int a2, .int a3]) M (f_X10_next a1 a2 a3 M) := by
  refine g_enter (fun Z => [(0, .ref (Z.2.1 0)), (1, .int a1), (2, .int a2), (3, .int a3)]) (by decide) rfl (fun Z => Nat.le_of_ble_eq_true rfl) (fun Z => rfl) (fun X => ?_)
  rw [f_X10_next]
  refine G_aload_n 0 dX10_next_0 rfl rfl ?_
  refine G_iload_n 1 dX10_next_1 rfl rfl ?_
  refine G_cVb (As := [.int a1]) (rest := []) (ok_X10_isState a1 M) rfl (y2_0) rfl mv_X10_476 dX10_next_2 rfl rfl (Nat.le_of_ble_eq_true rfl) (g_fitN (by decide) (by decide)) (fun r2 M1 => ?_)
  refine G_ifB_eq (tgt := 28) dX10_next_5 (by decide) ?_ ?_
  · refine G_iconst (v := (-1)) dX10_next_28 (by decide) ?_
    exact G_iret rfl dX10_next_29
  · refine G_aload_n 0 dX10_next_8 rfl rfl ?_
    refine G_iload_n 2 dX10_next_9 rfl rfl ?_
    refine G_cVb (As := [.int a2]) (rest := []) (ok_X10_isAct a2 M1) rfl (y2_0) rfl mv_X10_513 dX10_next_10 rfl rfl (Nat.le_of_ble_eq_true rfl) (g_fitN (by decide) (by decide)) (fun r4 M3 => ?_)
    refine G_ifB_eq (tgt := 28) dX10_next_13 (by decide) ?_ ?_
    · refine G_iconst (v := (-1)) dX10_next_28 (by decide) ?_
      exact G_iret rfl dX10_next_29
    · refine G_iload_n 3 dX10_next_16 rfl rfl ?_
      refine G_bipush (v := (-12)) dX10_next_17 (by decide) ?_
      refine G_icmp_lt (tgt := 28) dX10_next_19 (by decide) ?_ ?_
      · refine G_iconst (v := (-1)) dX10_next_28 (by decide) ?_
        exact G_iret rfl dX10_next_29
      · refine G_iload_n 3 dX10_next_22 rfl rfl ?_
        refine G_bipush (v := 12) dX10_next_23 (by decide) ?_
        refine G_icmp_le (tgt := 30) dX10_next_25 (by decide) ?_ ?_
        · refine G_aload_n 0 dX10_next_30 rfl rfl ?_
          refine G_cVv (As := []) (rest := []) (ok_X10_lay M3) rfl (y2_0) rfl mv_X10_516 dX10_next_31 rfl rfl (Nat.le_of_ble_eq_true rfl) (g_fitN (by decide) (by decide)) (fun r6 M5 => ?_)
          refine G_aload_n 0 dX10_next_34 rfl rfl ?_
          refine G_get 79 clX10 (y2_0) fl_X10_163 dX10_next_35 (by decide) rfl rfl ?_
          refine G_bipush (v := 6) dX10_next_38 (by decide) ?_
          refine G_iload_n 1 dX10_next_40 rfl rfl ?_
          refine G_imul dX10_next_41 ?_
          refine G_iload_n 2 dX10_next_42 rfl rfl ?_
          refine G_iadd dX10_next_43 ?_
          refine G_zald (y2_49) dX10_next_44 ?_
          refine G_if_eq (tgt := 58) dX10_next_45 (by decide) ?_ ?_
          · refine G_bipush (v := (-3)) dX10_next_58 (by decide) ?_
            exact G_iret rfl dX10_next_60
          · refine G_aload_n 0 dX10_next_48 rfl rfl ?_
            refine G_iload_n 1 dX10_next_49 rfl rfl ?_
            refine G_iload_n 2 dX10_next_50 rfl rfl ?_
            refine G_iload_n 3 dX10_next_51 rfl rfl ?_
            refine G_cVi (As := [.int a1, .int a2, .int a3]) (rest := []) (ok_X10_leads a1 a2 a3 M5) rfl (y2_0) rfl mv_X10_507 dX10_next_52 rfl rfl (Nat.le_of_ble_eq_true rfl) (g_fitN (by decide) (by decide)) (fun r8 M7 => ?_)
            refine G_goto (tgt := 60) dX10_next_55 (by decide) ?_
            exact G_iret rfl dX10_next_60
        · refine G_iconst (v := (-1)) dX10_next_28 (by decide) ?_
          exact G_iret rfl dX10_next_29
-- X10_fate
def f_X10_fate (a1 : Int32) (M : gM) : Option (Int32 × gM) := (g_b (f_X10_isState a1 M) (fun r2 M1 => (if r2 then (g_b (f_X10_lay M1) (fun r4 M3 => (g_ck a1 2079 (some ((M3.1 51 (tn a1)), M3))))) else (some (((-1) : Int32), M1)))))
set_option maxRecDepth 100000 in
set_option maxHeartbeats 4000000 in
theorem ok_X10_fate (a1 : Int32) (M : gM) : g_met Y2 yX10_fate jX10_fate g_ei (fun Z => [.ref (Z.2.1 0), .int a1]) M (f_X10_fate a1 M) := by
  refine g_enter (fun Z => [(0, .ref (Z.2.1 0)), (1, .int a1)]) (by decide) rfl (fun Z => Nat.le_of_ble_eq_true rfl) (fun Z => rfl) (fun X => ?_)
  rw [f_X10_fate]
  refine G_aload_n 0 dX10_fate_0 rfl rfl ?_
  refine G_iload_n 1 dX10_fate_1 rfl rfl ?_
  refine G_cVb (As := [.int a1]) (rest := []) (ok_X10_isState a1 M) rfl (y2_0) rfl mv_X10_476 dX10_fate_2 rfl rfl (Nat.le_of_ble_eq_true rfl) (g_fitN (by decide) (by decide)) (fun r2 M1 => ?_)
  refine G_ifB_ne (tgt := 10) dX10_fate_5 (by decide) ?_ ?_
  · refine G_aload_n 0 dX10_fate_10 rfl rfl ?_
    refine G_cVv (As := []) (rest := []) (ok_X10_lay M1) rfl (y2_0) rfl mv_X10_516 dX10_fate_11 rfl rfl (Nat.le_of_ble_eq_true rfl) (g_fitN (by decide) (by decide)) (fun r4 M3 => ?_)
    refine G_aload_n 0 dX10_fate_14 rfl rfl ?_
    refine G_get 81 clX10 (y2_0) fl_X10_170 dX10_fate_15 (by decide) rfl rfl ?_
    refine G_iload_n 1 dX10_fate_18 rfl rfl ?_
    refine G_iald (y2_51) dX10_fate_19 ?_
    exact G_iret rfl dX10_fate_20
  · refine G_iconst (v := (-1)) dX10_fate_8 (by decide) ?_
    exact G_iret rfl dX10_fate_9
-- X10_isSafeBy
def f_X10_isSafeBy_7 : Nat → Int32 → Int32 → Int32 → gM → Option (Bool × gM)
  | 0, _, _, _, _ => none
  | n + 1, x1, x2, x3, M => (g_ck x1 2079 (if (M.1 48 (tn x1)) < x3 then (some (true, M)) else (g_b (f_X10_leads x1 x2 x3 M) (fun r3 M2 => (if r3 = ((-2) : Int32) then (some (false, M2)) else (g_b (f_X10_isSafe r3 M2) (fun r5 M4 => (if r5 then (f_X10_isSafeBy_7 n x1 x2 (x3 + 1) M4) else (some (false, M4))))))))))
set_option maxRecDepth 100000 in
set_option maxHeartbeats 4000000 in
theorem o_X10_isSafeBy_7 {X : gX} : ∀ (n : Nat) (x1 : Int32) (x2 : Int32) (x3 : Int32) (M : gM), G Y2 jX10_isSafeBy X (g_fin g_eb) 7 [(0, .ref (ad X 0)), (1, .int x1), (2, .int x2), (3, .int x3)] [] M (f_X10_isSafeBy_7 n x1 x2 x3 M) := by
  intro n
  induction n with
  | zero => intro x1 x2 x3 M; exact G_none
  | succ n ih =>
    intro x1 x2 x3 M
    rw [f_X10_isSafeBy_7]
    refine G_iload_n 3 dX10_isSafeBy_7 rfl rfl ?_
    refine G_aload_n 0 dX10_isSafeBy_8 rfl rfl ?_
    refine G_get 78 clX10 (y2_0) fl_X10_160 dX10_isSafeBy_9 (by decide) rfl rfl ?_
    refine G_iload_n 1 dX10_isSafeBy_12 rfl rfl ?_
    refine G_iald (y2_48) dX10_isSafeBy_13 ?_
    refine G_icmp_gt (tgt := 50) dX10_isSafeBy_14 (by decide) ?_ ?_
    · refine G_iconst (v := 1) dX10_isSafeBy_50 (by decide) ?_
      exact G_zret (b := true) rfl dX10_isSafeBy_51
    · refine G_aload_n 0 dX10_isSafeBy_17 rfl rfl ?_
      refine G_iload_n 1 dX10_isSafeBy_18 rfl rfl ?_
      refine G_iload_n 2 dX10_isSafeBy_19 rfl rfl ?_
      refine G_iload_n 3 dX10_isSafeBy_20 rfl rfl ?_
      refine G_cVi (As := [.int x1, .int x2, .int x3]) (rest := []) (ok_X10_leads x1 x2 x3 M) rfl (y2_0) rfl mv_X10_507 dX10_isSafeBy_21 rfl rfl (Nat.le_of_ble_eq_true rfl) (g_fitN (by decide) (by decide)) (fun r3 M2 => ?_)
      refine G_istore (lv' := [(4, .int r3), (0, .ref (ad X 0)), (1, .int x1), (2, .int x2), (3, .int x3)]) dX10_isSafeBy_24 (by decide) rfl ?_
      refine G_iload 0 dX10_isSafeBy_26 rfl ?_
      refine G_bipush (v := (-2)) dX10_isSafeBy_28 (by decide) ?_
      refine G_icmp_eq (tgt := 42) dX10_isSafeBy_30 (by decide) ?_ ?_
      · refine G_iconst (v := 0) dX10_isSafeBy_42 (by decide) ?_
        exact G_zret (b := false) rfl dX10_isSafeBy_43
      · refine G_aload_n 1 dX10_isSafeBy_33 rfl rfl ?_
        refine G_iload 0 dX10_isSafeBy_34 rfl ?_
        refine G_cVb (As := [.int r3]) (rest := []) (ok_X10_isSafe r3 M2) rfl (y2_0) rfl mv_X10_519 dX10_isSafeBy_36 rfl rfl (Nat.le_of_ble_eq_true rfl) (g_fitN (by decide) (by decide)) (fun r5 M4 => ?_)
        refine G_ifB_ne (tgt := 44) dX10_isSafeBy_39 (by decide) ?_ ?_
        · refine G_iinc (v := x3 + 1) (lv' := [(3, .int (x3 + 1)), (4, .int r3), (0, .ref (ad X 0)), (1, .int x1), (2, .int x2)]) 4 dX10_isSafeBy_44 rfl rfl (by decide) rfl ?_
          refine G_goto (tgt := 7) dX10_isSafeBy_47 (by decide) ?_
          exact G_sub [2, 3, 4, 0] rfl (ih x1 x2 (x3 + 1) M4)
        · refine G_iconst (v := 0) dX10_isSafeBy_42 (by decide) ?_
          exact G_zret (b := false) rfl dX10_isSafeBy_43
def f_X10_isSafeBy (a1 : Int32) (a2 : Int32) (M : gM) : Option (Bool × gM) := (g_ck a1 2079 (g_v (M.1 47 (tn a1)) (fun y1 => (f_X10_isSafeBy_7 FU a1 a2 y1 M))))
set_option maxRecDepth 100000 in
set_option maxHeartbeats 4000000 in
theorem ok_X10_isSafeBy (a1 : Int32) (a2 : Int32) (M : gM) : g_met Y2 yX10_isSafeBy jX10_isSafeBy g_eb (fun Z => [.ref (Z.2.1 0), .int a1, .int a2]) M (f_X10_isSafeBy a1 a2 M) := by
  refine g_enter (fun Z => [(0, .ref (Z.2.1 0)), (1, .int a1), (2, .int a2)]) (by decide) rfl (fun Z => Nat.le_of_ble_eq_true rfl) (fun Z => rfl) (fun X => ?_)
  rw [f_X10_isSafeBy]
  refine G_aload_n 0 dX10_isSafeBy_0 rfl rfl ?_
  refine G_get 77 clX10 (y2_0) fl_X10_157 dX10_isSafeBy_1 (by decide) rfl rfl ?_
  refine G_iload_n 1 dX10_isSafeBy_4 rfl rfl ?_
  refine G_iald (y2_47) dX10_isSafeBy_5 ?_
  refine G_vi (fun y1 => ?_)
  refine G_istore_n (lv' := [(3, .int y1), (0, .ref (ad X 0)), (1, .int a1), (2, .int a2)]) dX10_isSafeBy_6 rfl (by decide) rfl ?_
  exact G_sub [1, 2, 3, 0] rfl (o_X10_isSafeBy_7 FU a1 a2 y1 M)
-- X10_keepOf
def f_X10_keepOf_2 : Nat → Int32 → Int32 → gM → Option (Int32 × gM)
  | 0, _, _, _ => none
  | n + 1, x1, x2, M => (g_b (f_X10_actsOf M) (fun r2 M1 => (if r2 ≤ x2 then (some (((-2) : Int32), M1)) else (g_ck (((6 : Int32) * x1) + x2) 12474 (if (M1.1 49 (tn (((6 : Int32) * x1) + x2))) = 0 then (f_X10_keepOf_2 n x1 (x2 + 1) M1) else (g_ck x1 2079 (if (M1.1 51 (tn x1)) = 0 then (some (x2, M1)) else (g_b (f_X10_isSafe x1 M1) (fun r4 M3 => (if r4 then (g_b (f_X10_isSafeBy x1 x2 M3) (fun r8 M7 => (if r8 then (some (x2, M7)) else (f_X10_keepOf_2 n x1 (x2 + 1) M7)))) else (g_ck x1 2079 (g_b (f_X10_isKept x1 x2 ((M3.1 51 (tn x1)) - (1 : Int32)) M3) (fun r6 M5 => (if r6 then (some (x2, M5)) else (f_X10_keepOf_2 n x1 (x2 + 1) M5)))))))))))))))
set_option maxRecDepth 100000 in
set_option maxHeartbeats 4000000 in
theorem o_X10_keepOf_2 {X : gX} : ∀ (n : Nat) (x1 : Int32) (x2 : Int32) (M : gM), G Y2 jX10_keepOf X (g_fin g_ei) 2 [(0, .ref (ad X 0)), (1, .int x1), (2, .int x2)] [] M (f_X10_keepOf_2 n x1 x2 M) := by
  intro n
  induction n with
  | zero => intro x1 x2 M; exact G_none
  | succ n ih =>
    intro x1 x2 M
    rw [f_X10_keepOf_2]
    refine G_iload_n 2 dX10_keepOf_2 rfl rfl ?_
    refine G_aload_n 0 dX10_keepOf_3 rfl rfl ?_
    refine G_cVi (As := []) (rest := [.int x2]) (ok_X10_actsOf M) rfl (y2_0) rfl mv_X10_482 dX10_keepOf_4 rfl rfl (Nat.le_of_ble_eq_true rfl) (g_fitN (by decide) (by decide)) (fun r2 M1 => ?_)
    refine G_icmp_ge (tgt := 83) dX10_keepOf_7 (by decide) ?_ ?_
    · refine G_bipush (v := (-2)) dX10_keepOf_83 (by decide) ?_
      exact G_iret rfl dX10_keepOf_85
    · refine G_aload_n 0 dX10_keepOf_10 rfl rfl ?_
      refine G_get 79 clX10 (y2_0) fl_X10_163 dX10_keepOf_11 (by decide) rfl rfl ?_
      refine G_bipush (v := 6) dX10_keepOf_14 (by decide) ?_
      refine G_iload_n 1 dX10_keepOf_16 rfl rfl ?_
      refine G_imul dX10_keepOf_17 ?_
      refine G_iload_n 2 dX10_keepOf_18 rfl rfl ?_
      refine G_iadd dX10_keepOf_19 ?_
      refine G_zald (y2_49) dX10_keepOf_20 ?_
      refine G_if_ne (tgt := 27) dX10_keepOf_21 (by decide) ?_ ?_
      · refine G_aload_n 0 dX10_keepOf_27 rfl rfl ?_
        refine G_get 81 clX10 (y2_0) fl_X10_170 dX10_keepOf_28 (by decide) rfl rfl ?_
        refine G_iload_n 1 dX10_keepOf_31 rfl rfl ?_
        refine G_iald (y2_51) dX10_keepOf_32 ?_
        refine G_if_ne (tgt := 38) dX10_keepOf_33 (by decide) ?_ ?_
        · refine G_aload_n 0 dX10_keepOf_38 rfl rfl ?_
          refine G_iload_n 1 dX10_keepOf_39 rfl rfl ?_
          refine G_cVb (As := [.int x1]) (rest := []) (ok_X10_isSafe x1 M1) rfl (y2_0) rfl mv_X10_519 dX10_keepOf_40 rfl rfl (Nat.le_of_ble_eq_true rfl) (g_fitN (by decide) (by decide)) (fun r4 M3 => ?_)
          refine G_ifB_eq (tgt := 58) dX10_keepOf_43 (by decide) ?_ ?_
          · refine G_aload_n 0 dX10_keepOf_58 rfl rfl ?_
            refine G_iload_n 1 dX10_keepOf_59 rfl rfl ?_
            refine G_iload_n 2 dX10_keepOf_60 rfl rfl ?_
            refine G_aload_n 0 dX10_keepOf_61 rfl rfl ?_
            refine G_get 81 clX10 (y2_0) fl_X10_170 dX10_keepOf_62 (by decide) rfl rfl ?_
            refine G_iload_n 1 dX10_keepOf_65 rfl rfl ?_
            refine G_iald (y2_51) dX10_keepOf_66 ?_
            refine G_iconst (v := 1) dX10_keepOf_67 (by decide) ?_
            refine G_isub dX10_keepOf_68 ?_
            refine G_cVb (As := [.int x1, .int x2, .int ((M3.1 51 (tn x1)) - (1 : Int32))]) (rest := []) (ok_X10_isKept x1 x2 ((M3.1 51 (tn x1)) - (1 : Int32)) M3) rfl (y2_0) rfl mv_X10_510 dX10_keepOf_69 rfl rfl (Nat.le_of_ble_eq_true rfl) (g_fitN (by decide) (by decide)) (fun r6 M5 => ?_)
            refine G_ifB_eq (tgt := 77) dX10_keepOf_72 (by decide) ?_ ?_
            · refine G_iinc (v := x2 + 1) (lv' := [(2, .int (x2 + 1)), (0, .ref (ad X 0)), (1, .int x1)]) 2 dX10_keepOf_77 rfl rfl (by decide) rfl ?_
              refine G_goto (tgt := 2) dX10_keepOf_80 (by decide) ?_
              exact G_sub [1, 2, 0] rfl (ih x1 (x2 + 1) M5)
            · refine G_iload_n 2 dX10_keepOf_75 rfl rfl ?_
              exact G_iret rfl dX10_keepOf_76
          · refine G_aload_n 0 dX10_keepOf_46 rfl rfl ?_
            refine G_iload_n 1 dX10_keepOf_47 rfl rfl ?_
            refine G_iload_n 2 dX10_keepOf_48 rfl rfl ?_
            refine G_cVb (As := [.int x1, .int x2]) (rest := []) (ok_X10_isSafeBy x1 x2 M3) rfl (y2_0) rfl mv_X10_522 dX10_keepOf_49 rfl rfl (Nat.le_of_ble_eq_true rfl) (g_fitN (by decide) (by decide)) (fun r8 M7 => ?_)
            refine G_ifB_eq (tgt := 77) dX10_keepOf_52 (by decide) ?_ ?_
            · refine G_iinc (v := x2 + 1) (lv' := [(2, .int (x2 + 1)), (0, .ref (ad X 0)), (1, .int x1)]) 2 dX10_keepOf_77 rfl rfl (by decide) rfl ?_
              refine G_goto (tgt := 2) dX10_keepOf_80 (by decide) ?_
              exact G_sub [1, 2, 0] rfl (ih x1 (x2 + 1) M7)
            · refine G_goto (tgt := 75) dX10_keepOf_55 (by decide) ?_
              refine G_iload_n 2 dX10_keepOf_75 rfl rfl ?_
              exact G_iret rfl dX10_keepOf_76
        · refine G_iload_n 2 dX10_keepOf_36 rfl rfl ?_
          exact G_iret rfl dX10_keepOf_37
      · refine G_goto (tgt := 77) dX10_keepOf_24 (by decide) ?_
        refine G_iinc (v := x2 + 1) (lv' := [(2, .int (x2 + 1)), (0, .ref (ad X 0)), (1, .int x1)]) 2 dX10_keepOf_77 rfl rfl (by decide) rfl ?_
        refine G_goto (tgt := 2) dX10_keepOf_80 (by decide) ?_
        exact G_sub [1, 2, 0] rfl (ih x1 (x2 + 1) M1)
def f_X10_keepOf (a1 : Int32) (M : gM) : Option (Int32 × gM) := (f_X10_keepOf_2 FU a1 (0 : Int32) M)
set_option maxRecDepth 100000 in
set_option maxHeartbeats 4000000 in
theorem ok_X10_keepOf (a1 : Int32) (M : gM) : g_met Y2 yX10_keepOf jX10_keepOf g_ei (fun Z => [.ref (Z.2.1 0), .int a1]) M (f_X10_keepOf a1 M) := by
  refine g_enter (fun Z => [(0, .ref (Z.2.1 0)), (1, .int a1)]) (by decide) rfl (fun Z => Nat.le_of_ble_eq_true rfl) (fun Z => rfl) (fun X => ?_)
  rw [f_X10_keepOf]
  refine G_iconst (v := 0) dX10_keepOf_0 (by decide) ?_
  refine G_istore_n (lv' := [(2, .int 0), (0, .ref (ad X 0)), (1, .int a1)]) dX10_keepOf_1 rfl (by decide) rfl ?_
  exact G_sub [1, 2, 0] rfl (o_X10_keepOf_2 FU a1 (0 : Int32) M)
-- X10_keep
def f_X10_keep (a1 : Int32) (M : gM) : Option (Int32 × gM) := (g_b (f_X10_isState a1 M) (fun r2 M1 => (if r2 then (g_b (f_X10_lay M1) (fun r4 M3 => (g_b (f_X10_keepOf a1 M3) (fun r6 M5 => (some (r6, M5)))))) else (some (((-1) : Int32), M1)))))
set_option maxRecDepth 100000 in
set_option maxHeartbeats 4000000 in
theorem ok_X10_keep (a1 : Int32) (M : gM) : g_met Y2 yX10_keep jX10_keep g_ei (fun Z => [.ref (Z.2.1 0), .int a1]) M (f_X10_keep a1 M) := by
  refine g_enter (fun Z => [(0, .ref (Z.2.1 0)), (1, .int a1)]) (by decide) rfl (fun Z => Nat.le_of_ble_eq_true rfl) (fun Z => rfl) (fun X => ?_)
  rw [f_X10_keep]
  refine G_aload_n 0 dX10_keep_0 rfl rfl ?_
  refine G_iload_n 1 dX10_keep_1 rfl rfl ?_
  refine G_cVb (As := [.int a1]) (rest := []) (ok_X10_isState a1 M) rfl (y2_0) rfl mv_X10_476 dX10_keep_2 rfl rfl (Nat.le_of_ble_eq_true rfl) (g_fitN (by decide) (by decide)) (fun r2 M1 => ?_)
  refine G_ifB_ne (tgt := 10) dX10_keep_5 (by decide) ?_ ?_
  · refine G_aload_n 0 dX10_keep_10 rfl rfl ?_
    refine G_cVv (As := []) (rest := []) (ok_X10_lay M1) rfl (y2_0) rfl mv_X10_516 dX10_keep_11 rfl rfl (Nat.le_of_ble_eq_true rfl) (g_fitN (by decide) (by decide)) (fun r4 M3 => ?_)
    refine G_aload_n 0 dX10_keep_14 rfl rfl ?_
    refine G_iload_n 1 dX10_keep_15 rfl rfl ?_
    refine G_cVi (As := [.int a1]) (rest := []) (ok_X10_keepOf a1 M3) rfl (y2_0) rfl mv_X10_525 dX10_keep_16 rfl rfl (Nat.le_of_ble_eq_true rfl) (g_fitN (by decide) (by decide)) (fun r6 M5 => ?_)
    exact G_iret rfl dX10_keep_19
  · refine G_iconst (v := (-1)) dX10_keep_8 (by decide) ?_
    exact G_iret rfl dX10_keep_9
-- X10_isNearer
def f_X10_isNearer_24 : Nat → Int32 → Int32 → Int32 → Int32 → gM → Option (Bool × gM)
  | 0, _, _, _, _, _ => none
  | n + 1, x1, x2, x3, x4, M => (g_ck x1 2079 (if (M.1 48 (tn x1)) < x4 then (some (true, M)) else (g_b (f_X10_leads x1 x2 x4 M) (fun r3 M2 => (if r3 = ((-2) : Int32) then (some (false, M2)) else (g_ck r3 2079 (if (M2.1 52 (tn r3)) < 0 then (some (false, M2)) else (g_ck r3 2079 (if (M2.1 52 (tn r3)) < x3 then (f_X10_isNearer_24 n x1 x2 x3 (x4 + 1) M2) else (some (false, M2)))))))))))
set_option maxRecDepth 100000 in
set_option maxHeartbeats 4000000 in
theorem o_X10_isNearer_24 {X : gX} : ∀ (n : Nat) (x1 : Int32) (x2 : Int32) (x3 : Int32) (x4 : Int32) (M : gM), G Y2 jX10_isNearer X (g_fin g_eb) 24 [(0, .ref (ad X 0)), (1, .int x1), (2, .int x2), (3, .int x3), (4, .int x4)] [] M (f_X10_isNearer_24 n x1 x2 x3 x4 M) := by
  intro n
  induction n with
  | zero => intro x1 x2 x3 x4 M; exact G_none
  | succ n ih =>
    intro x1 x2 x3 x4 M
    rw [f_X10_isNearer_24]
    refine G_iload 4 dX10_isNearer_24 rfl ?_
    refine G_aload_n 0 dX10_isNearer_26 rfl rfl ?_
    refine G_get 78 clX10 (y2_0) fl_X10_160 dX10_isNearer_27 (by decide) rfl rfl ?_
    refine G_iload_n 1 dX10_isNearer_30 rfl rfl ?_
    refine G_iald (y2_48) dX10_isNearer_31 ?_
    refine G_icmp_gt (tgt := 81) dX10_isNearer_32 (by decide) ?_ ?_
    · refine G_iconst (v := 1) dX10_isNearer_81 (by decide) ?_
      exact G_zret (b := true) rfl dX10_isNearer_82
    · refine G_aload_n 0 dX10_isNearer_35 rfl rfl ?_
      refine G_iload_n 1 dX10_isNearer_36 rfl rfl ?_
      refine G_iload_n 2 dX10_isNearer_37 rfl rfl ?_
      refine G_iload 4 dX10_isNearer_38 rfl ?_
      refine G_cVi (As := [.int x1, .int x2, .int x4]) (rest := []) (ok_X10_leads x1 x2 x4 M) rfl (y2_0) rfl mv_X10_507 dX10_isNearer_40 rfl rfl (Nat.le_of_ble_eq_true rfl) (g_fitN (by decide) (by decide)) (fun r3 M2 => ?_)
      refine G_istore (lv' := [(5, .int r3), (0, .ref (ad X 0)), (1, .int x1), (2, .int x2), (3, .int x3), (4, .int x4)]) dX10_isNearer_43 (by decide) rfl ?_
      refine G_iload 0 dX10_isNearer_45 rfl ?_
      refine G_bipush (v := (-2)) dX10_isNearer_47 (by decide) ?_
      refine G_icmp_eq (tgt := 73) dX10_isNearer_49 (by decide) ?_ ?_
      · refine G_iconst (v := 0) dX10_isNearer_73 (by decide) ?_
        exact G_zret (b := false) rfl dX10_isNearer_74
      · refine G_aload_n 1 dX10_isNearer_52 rfl rfl ?_
        refine G_get 82 clX10 (y2_0) fl_X10_173 dX10_isNearer_53 (by decide) rfl rfl ?_
        refine G_iload 0 dX10_isNearer_56 rfl ?_
        refine G_iald (y2_52) dX10_isNearer_58 ?_
        refine G_if_lt (tgt := 73) dX10_isNearer_59 (by decide) ?_ ?_
        · refine G_iconst (v := 0) dX10_isNearer_73 (by decide) ?_
          exact G_zret (b := false) rfl dX10_isNearer_74
        · refine G_aload_n 1 dX10_isNearer_62 rfl rfl ?_
          refine G_get 82 clX10 (y2_0) fl_X10_173 dX10_isNearer_63 (by decide) rfl rfl ?_
          refine G_iload 0 dX10_isNearer_66 rfl ?_
          refine G_iald (y2_52) dX10_isNearer_68 ?_
          refine G_iload_n 4 dX10_isNearer_69 rfl rfl ?_
          refine G_icmp_lt (tgt := 75) dX10_isNearer_70 (by decide) ?_ ?_
          · refine G_iinc (v := x4 + 1) (lv' := [(4, .int (x4 + 1)), (5, .int r3), (0, .ref (ad X 0)), (1, .int x1), (2, .int x2), (3, .int x3)]) 5 dX10_isNearer_75 rfl rfl (by decide) rfl ?_
            refine G_goto (tgt := 24) dX10_isNearer_78 (by decide) ?_
            exact G_sub [2, 3, 4, 5, 0] rfl (ih x1 x2 x3 (x4 + 1) M2)
          · refine G_iconst (v := 0) dX10_isNearer_73 (by decide) ?_
            exact G_zret (b := false) rfl dX10_isNearer_74
def f_X10_isNearer (a1 : Int32) (a2 : Int32) (a3 : Int32) (M : gM) : Option (Bool × gM) := (g_ck (((6 : Int32) * a1) + a2) 12474 (if (M.1 49 (tn (((6 : Int32) * a1) + a2))) = 0 then (some (false, M)) else (g_ck a1 2079 (g_v (M.1 47 (tn a1)) (fun y1 => (f_X10_isNearer_24 FU a1 a2 a3 y1 M))))))
set_option maxRecDepth 100000 in
set_option maxHeartbeats 4000000 in
theorem ok_X10_isNearer (a1 : Int32) (a2 : Int32) (a3 : Int32) (M : gM) : g_met Y2 yX10_isNearer jX10_isNearer g_eb (fun Z => [.ref (Z.2.1 0), .int a1, .int a2, .int a3]) M (f_X10_isNearer a1 a2 a3 M) := by
  refine g_enter (fun Z => [(0, .ref (Z.2.1 0)), (1, .int a1), (2, .int a2), (3, .int a3)]) (by decide) rfl (fun Z => Nat.le_of_ble_eq_true rfl) (fun Z => rfl) (fun X => ?_)
  rw [f_X10_isNearer]
  refine G_aload_n 0 dX10_isNearer_0 rfl rfl ?_
  refine G_get 79 clX10 (y2_0) fl_X10_163 dX10_isNearer_1 (by decide) rfl rfl ?_
  refine G_bipush (v := 6) dX10_isNearer_4 (by decide) ?_
  refine G_iload_n 1 dX10_isNearer_6 rfl rfl ?_
  refine G_imul dX10_isNearer_7 ?_
  refine G_iload_n 2 dX10_isNearer_8 rfl rfl ?_
  refine G_iadd dX10_isNearer_9 ?_
  refine G_zald (y2_49) dX10_isNearer_10 ?_
  refine G_if_ne (tgt := 16) dX10_isNearer_11 (by decide) ?_ ?_
  · refine G_aload_n 0 dX10_isNearer_16 rfl rfl ?_
    refine G_get 77 clX10 (y2_0) fl_X10_157 dX10_isNearer_17 (by decide) rfl rfl ?_
    refine G_iload_n 1 dX10_isNearer_20 rfl rfl ?_
    refine G_iald (y2_47) dX10_isNearer_21 ?_
    refine G_vi (fun y1 => ?_)
    refine G_istore (lv' := [(4, .int y1), (0, .ref (ad X 0)), (1, .int a1), (2, .int a2), (3, .int a3)]) dX10_isNearer_22 (by decide) rfl ?_
    exact G_sub [1, 2, 3, 4, 0] rfl (o_X10_isNearer_24 FU a1 a2 a3 y1 M)
  · refine G_iconst (v := 0) dX10_isNearer_14 (by decide) ?_
    exact G_zret (b := false) rfl dX10_isNearer_15
-- X10_reaches
def f_X10_reaches_135 (k72 : Int32 → Int32 → Int32 → gM → Option (Unit × gM)) (x1 : Int32) (x2 : Int32) (x3 : Int32) (x4 : Int32) (M : gM) : Option (Unit × gM) := (if x4 = 0 then (k72 x1 x2 (x3 + 1) M) else (g_ck x3 2079 (g_m (sI M 52 (tn x3) x2) (fun M8 => (k72 (1 : Int32) x2 (x3 + 1) M8)))))
set_option maxRecDepth 100000 in
set_option maxHeartbeats 4000000 in
theorem o_X10_reaches_135 {X : gX} {k72 : Int32 → Int32 → Int32 → gM → Option (Unit × gM)} (hk72 : ∀ (x1 : Int32) (x2 : Int32) (x3 : Int32) (M : gM), G Y2 jX10_reaches X (g_fin g_ev) 72 [(0, .ref (ad X 0)), (1, .int x1), (2, .int x2), (3, .int x3)] [] M (k72 x1 x2 x3 M)) (x1 : Int32) (x2 : Int32) (x3 : Int32) (x4 : Int32) (M : gM) : G Y2 jX10_reaches X (g_fin g_ev) 135 [(0, .ref (ad X 0)), (1, .int x1), (2, .int x2), (3, .int x3), (4, .int x4)] [] M (f_X10_reaches_135 k72 x1 x2 x3 x4 M) := by
  rw [f_X10_reaches_135]
  refine G_iload 4 dX10_reaches_135 rfl ?_
  refine G_if_ne (tgt := 143) dX10_reaches_137 (by decide) ?_ ?_
  · refine G_aload_n 0 dX10_reaches_143 rfl rfl ?_
    refine G_get 82 clX10 (y2_0) fl_X10_173 dX10_reaches_144 (by decide) rfl rfl ?_
    refine G_iload_n 3 dX10_reaches_147 rfl rfl ?_
    refine G_iload_n 2 dX10_reaches_148 rfl rfl ?_
    refine G_iast (y2_52) dX10_reaches_149 ?_
    refine G_m (fun M8 => ?_)
    refine G_iconst (v := 1) dX10_reaches_150 (by decide) ?_
    refine G_istore_n (lv' := [(1, .int 1), (0, .ref (ad X 0)), (2, .int x2), (3, .int x3), (4, .int x4)]) dX10_reaches_151 rfl (by decide) rfl ?_
    refine G_iinc (v := x3 + 1) (lv' := [(3, .int (x3 + 1)), (1, .int 1), (0, .ref (ad X 0)), (2, .int x2), (4, .int x4)]) 3 dX10_reaches_152 rfl rfl (by decide) rfl ?_
    refine G_goto (tgt := 72) dX10_reaches_155 (by decide) ?_
    exact G_sub [2, 1, 3, 0] rfl (hk72 (1 : Int32) x2 (x3 + 1) M8)
  · refine G_goto (tgt := 152) dX10_reaches_140 (by decide) ?_
    refine G_iinc (v := x3 + 1) (lv' := [(3, .int (x3 + 1)), (0, .ref (ad X 0)), (1, .int x1), (2, .int x2), (4, .int x4)]) 3 dX10_reaches_152 rfl rfl (by decide) rfl ?_
    refine G_goto (tgt := 72) dX10_reaches_155 (by decide) ?_
    exact G_sub [1, 2, 3, 0] rfl (hk72 x1 x2 (x3 + 1) M)
def f_X10_reaches_105 (k72 : Int32 → Int32 → Int32 → gM → Option (Unit × gM)) : Nat → Int32 → Int32 → Int32 → Int32 → Int32 → gM → Option (Unit × gM)
  | 0, _, _, _, _, _, _ => none
  | n + 1, x1, x2, x3, x4, x5, M => (g_b (f_X10_actsOf M) (fun r7 M6 => (if r7 ≤ x5 then (f_X10_reaches_135 k72 x1 x2 x3 x4 M6) else (if x4 = 0 then (g_b (f_X10_isNearer x3 x5 x2 M6) (fun r10 M9 => (g_v (b2i r10) (fun y11 => (f_X10_reaches_105 k72 n x1 x2 x3 y11 (x5 + 1) M9))))) else (f_X10_reaches_135 k72 x1 x2 x3 x4 M6)))))
set_option maxRecDepth 100000 in
set_option maxHeartbeats 4000000 in
theorem o_X10_reaches_105 {X : gX} {k72 : Int32 → Int32 → Int32 → gM → Option (Unit × gM)} (hk72 : ∀ (x1 : Int32) (x2 : Int32) (x3 : Int32) (M : gM), G Y2 jX10_reaches X (g_fin g_ev) 72 [(0, .ref (ad X 0)), (1, .int x1), (2, .int x2), (3, .int x3)] [] M (k72 x1 x2 x3 M)) : ∀ (n : Nat) (x1 : Int32) (x2 : Int32) (x3 : Int32) (x4 : Int32) (x5 : Int32) (M : gM), G Y2 jX10_reaches X (g_fin g_ev) 105 [(0, .ref (ad X 0)), (1, .int x1), (2, .int x2), (3, .int x3), (4, .int x4), (5, .int x5)] [] M (f_X10_reaches_105 k72 n x1 x2 x3 x4 x5 M) := by
  intro n
  induction n with
  | zero => intro x1 x2 x3 x4 x5 M; exact G_none
  | succ n ih =>
    intro x1 x2 x3 x4 x5 M
    rw [f_X10_reaches_105]
    refine G_iload 5 dX10_reaches_105 rfl ?_
    refine G_aload_n 0 dX10_reaches_107 rfl rfl ?_
    refine G_cVi (As := []) (rest := [.int x5]) (ok_X10_actsOf M) rfl (y2_0) rfl mv_X10_482 dX10_reaches_108 rfl rfl (Nat.le_of_ble_eq_true rfl) (g_fitN (by decide) (by decide)) (fun r7 M6 => ?_)
    refine G_icmp_ge (tgt := 135) dX10_reaches_111 (by decide) ?_ ?_
    · exact G_sub [0, 1, 2, 3, 4] rfl (o_X10_reaches_135 hk72 x1 x2 x3 x4 M6)
    · refine G_iload 4 dX10_reaches_114 rfl ?_
      refine G_if_ne (tgt := 135) dX10_reaches_116 (by decide) ?_ ?_
      · exact G_sub [0, 1, 2, 3, 4] rfl (o_X10_reaches_135 hk72 x1 x2 x3 x4 M6)
      · refine G_aload_n 0 dX10_reaches_119 rfl rfl ?_
        refine G_iload_n 3 dX10_reaches_120 rfl rfl ?_
        refine G_iload 5 dX10_reaches_121 rfl ?_
        refine G_iload_n 2 dX10_reaches_123 rfl rfl ?_
        refine G_cVb (As := [.int x3, .int x5, .int x2]) (rest := []) (ok_X10_isNearer x3 x5 x2 M6) rfl (y2_0) rfl mv_X10_528 dX10_reaches_124 rfl rfl (Nat.le_of_ble_eq_true rfl) (g_fitN (by decide) (by decide)) (fun r10 M9 => ?_)
        refine G_vi (fun y11 => ?_)
        refine G_istore (lv' := [(4, .int y11), (0, .ref (ad X 0)), (1, .int x1), (2, .int x2), (3, .int x3), (5, .int x5)]) dX10_reaches_127 (by decide) rfl ?_
        refine G_iinc (v := x5 + 1) (lv' := [(5, .int (x5 + 1)), (4, .int y11), (0, .ref (ad X 0)), (1, .int x1), (2, .int x2), (3, .int x3)]) 5 dX10_reaches_129 rfl rfl (by decide) rfl ?_
        refine G_goto (tgt := 105) dX10_reaches_132 (by decide) ?_
        exact G_sub [2, 3, 4, 5, 1, 0] rfl (ih x1 x2 x3 y11 (x5 + 1) M9)
def f_X10_reaches_72 (k64 : Int32 → Int32 → gM → Option (Unit × gM)) : Nat → Int32 → Int32 → Int32 → gM → Option (Unit × gM)
  | 0, _, _, _, _ => none
  | n + 1, x1, x2, x3, M => (if (2079 : Int32) ≤ x3 then (k64 x1 (x2 + 1) M) else (g_b (f_X10_isState x3 M) (fun r5 M4 => (if r5 then (g_ck x3 2079 (if (M4.1 52 (tn x3)) < 0 then (f_X10_reaches_105 (f_X10_reaches_72 k64 n) FU x1 x2 x3 (0 : Int32) (0 : Int32) M4) else (f_X10_reaches_72 k64 n x1 x2 (x3 + 1) M4))) else (f_X10_reaches_72 k64 n x1 x2 (x3 + 1) M4)))))
set_option maxRecDepth 100000 in
set_option maxHeartbeats 4000000 in
theorem o_X10_reaches_72 {X : gX} {k64 : Int32 → Int32 → gM → Option (Unit × gM)} (hk64 : ∀ (x1 : Int32) (x2 : Int32) (M : gM), G Y2 jX10_reaches X (g_fin g_ev) 64 [(0, .ref (ad X 0)), (1, .int x1), (2, .int x2)] [] M (k64 x1 x2 M)) : ∀ (n : Nat) (x1 : Int32) (x2 : Int32) (x3 : Int32) (M : gM), G Y2 jX10_reaches X (g_fin g_ev) 72 [(0, .ref (ad X 0)), (1, .int x1), (2, .int x2), (3, .int x3)] [] M (f_X10_reaches_72 k64 n x1 x2 x3 M) := by
  intro n
  induction n with
  | zero => intro x1 x2 x3 M; exact G_none
  | succ n ih =>
    intro x1 x2 x3 M
    rw [f_X10_reaches_72]
    refine G_iload_n 3 dX10_reaches_72 rfl rfl ?_
    refine G_sipush (v := 2079) dX10_reaches_73 (by decide) ?_
    refine G_icmp_ge (tgt := 158) dX10_reaches_76 (by decide) ?_ ?_
    · refine G_iinc (v := x2 + 1) (lv' := [(2, .int (x2 + 1)), (0, .ref (ad X 0)), (1, .int x1), (3, .int x3)]) 2 dX10_reaches_158 rfl rfl (by decide) rfl ?_
      refine G_goto (tgt := 64) dX10_reaches_161 (by decide) ?_
      exact G_sub [1, 2, 0] rfl (hk64 x1 (x2 + 1) M)
    · refine G_aload_n 0 dX10_reaches_79 rfl rfl ?_
      refine G_iload_n 3 dX10_reaches_80 rfl rfl ?_
      refine G_cVb (As := [.int x3]) (rest := []) (ok_X10_isState x3 M) rfl (y2_0) rfl mv_X10_476 dX10_reaches_81 rfl rfl (Nat.le_of_ble_eq_true rfl) (g_fitN (by decide) (by decide)) (fun r5 M4 => ?_)
      refine G_ifB_eq (tgt := 152) dX10_reaches_84 (by decide) ?_ ?_
      · refine G_iinc (v := x3 + 1) (lv' := [(3, .int (x3 + 1)), (0, .ref (ad X 0)), (1, .int x1), (2, .int x2)]) 3 dX10_reaches_152 rfl rfl (by decide) rfl ?_
        refine G_goto (tgt := 72) dX10_reaches_155 (by decide) ?_
        exact G_sub [1, 2, 3, 0] rfl (ih x1 x2 (x3 + 1) M4)
      · refine G_aload_n 0 dX10_reaches_87 rfl rfl ?_
        refine G_get 82 clX10 (y2_0) fl_X10_173 dX10_reaches_88 (by decide) rfl rfl ?_
        refine G_iload_n 3 dX10_reaches_91 rfl rfl ?_
        refine G_iald (y2_52) dX10_reaches_92 ?_
        refine G_if_lt (tgt := 99) dX10_reaches_93 (by decide) ?_ ?_
        · refine G_iconst (v := 0) dX10_reaches_99 (by decide) ?_
          refine G_istore (lv' := [(4, .int 0), (0, .ref (ad X 0)), (1, .int x1), (2, .int x2), (3, .int x3)]) dX10_reaches_100 (by decide) rfl ?_
          refine G_iconst (v := 0) dX10_reaches_102 (by decide) ?_
          refine G_istore (lv' := [(5, .int 0), (4, .int 0), (0, .ref (ad X 0)), (1, .int x1), (2, .int x2), (3, .int x3)]) dX10_reaches_103 (by decide) rfl ?_
          exact G_sub [2, 3, 4, 5, 1, 0] rfl (o_X10_reaches_105 ih FU x1 x2 x3 (0 : Int32) (0 : Int32) M4)
        · refine G_goto (tgt := 152) dX10_reaches_96 (by decide) ?_
          refine G_iinc (v := x3 + 1) (lv' := [(3, .int (x3 + 1)), (0, .ref (ad X 0)), (1, .int x1), (2, .int x2)]) 3 dX10_reaches_152 rfl rfl (by decide) rfl ?_
          refine G_goto (tgt := 72) dX10_reaches_155 (by decide) ?_
          exact G_sub [1, 2, 3, 0] rfl (ih x1 x2 (x3 + 1) M4)
def f_X10_reaches_64 : Nat → Int32 → Int32 → gM → Option (Unit × gM)
  | 0, _, _, _ => none
  | n + 1, x1, x2, M => (if x1 = 0 then (some ((), M)) else (f_X10_reaches_72 (f_X10_reaches_64 n) FU (0 : Int32) x2 (0 : Int32) M))
set_option maxRecDepth 100000 in
set_option maxHeartbeats 4000000 in
theorem o_X10_reaches_64 {X : gX} : ∀ (n : Nat) (x1 : Int32) (x2 : Int32) (M : gM), G Y2 jX10_reaches X (g_fin g_ev) 64 [(0, .ref (ad X 0)), (1, .int x1), (2, .int x2)] [] M (f_X10_reaches_64 n x1 x2 M) := by
  intro n
  induction n with
  | zero => intro x1 x2 M; exact G_none
  | succ n ih =>
    intro x1 x2 M
    rw [f_X10_reaches_64]
    refine G_iload_n 1 dX10_reaches_64 rfl rfl ?_
    refine G_if_eq (tgt := 164) dX10_reaches_65 (by decide) ?_ ?_
    · exact G_vret rfl dX10_reaches_164
    · refine G_iconst (v := 0) dX10_reaches_68 (by decide) ?_
      refine G_istore_n (lv' := [(1, .int 0), (0, .ref (ad X 0)), (2, .int x2)]) dX10_reaches_69 rfl (by decide) rfl ?_
      refine G_iconst (v := 0) dX10_reaches_70 (by decide) ?_
      refine G_istore_n (lv' := [(3, .int 0), (1, .int 0), (0, .ref (ad X 0)), (2, .int x2)]) dX10_reaches_71 rfl (by decide) rfl ?_
      exact G_sub [2, 1, 3, 0] rfl (o_X10_reaches_72 ih FU (0 : Int32) x2 (0 : Int32) M)
def f_X10_reaches_19 : Nat → Int32 → gM → Option (Unit × gM)
  | 0, _, _ => none
  | n + 1, x1, M => (if (2079 : Int32) ≤ x1 then (f_X10_reaches_64 FU (1 : Int32) (1 : Int32) M) else (g_b (f_X10_isState x1 M) (fun r13 M12 => (if r13 then (g_b (f_X10_isOver x1 M12) (fun r16 M15 => (if r16 then (g_ck x1 2079 (g_m (sI M15 52 (tn x1) (0 : Int32)) (fun M18 => (f_X10_reaches_19 n (x1 + 1) M18)))) else (g_ck x1 2079 (g_m (sI M15 52 (tn x1) ((-2) : Int32)) (fun M17 => (f_X10_reaches_19 n (x1 + 1) M17))))))) else (g_ck x1 2079 (g_m (sI M12 52 (tn x1) ((-2) : Int32)) (fun M14 => (f_X10_reaches_19 n (x1 + 1) M14))))))))
set_option maxRecDepth 100000 in
set_option maxHeartbeats 4000000 in
theorem o_X10_reaches_19 {X : gX} : ∀ (n : Nat) (x1 : Int32) (M : gM), G Y2 jX10_reaches X (g_fin g_ev) 19 [(0, .ref (ad X 0)), (1, .int x1)] [] M (f_X10_reaches_19 n x1 M) := by
  intro n
  induction n with
  | zero => intro x1 M; exact G_none
  | succ n ih =>
    intro x1 M
    rw [f_X10_reaches_19]
    refine G_iload_n 1 dX10_reaches_19 rfl rfl ?_
    refine G_sipush (v := 2079) dX10_reaches_20 (by decide) ?_
    refine G_icmp_ge (tgt := 60) dX10_reaches_23 (by decide) ?_ ?_
    · refine G_iconst (v := 1) dX10_reaches_60 (by decide) ?_
      refine G_istore_n (lv' := [(1, .int 1), (0, .ref (ad X 0))]) dX10_reaches_61 rfl (by decide) rfl ?_
      refine G_iconst (v := 1) dX10_reaches_62 (by decide) ?_
      refine G_istore_n (lv' := [(2, .int 1), (1, .int 1), (0, .ref (ad X 0))]) dX10_reaches_63 rfl (by decide) rfl ?_
      exact G_sub [2, 1, 0] rfl (o_X10_reaches_64 FU (1 : Int32) (1 : Int32) M)
    · refine G_aload_n 0 dX10_reaches_26 rfl rfl ?_
      refine G_get 82 clX10 (y2_0) fl_X10_173 dX10_reaches_27 (by decide) rfl rfl ?_
      refine G_iload_n 1 dX10_reaches_30 rfl rfl ?_
      refine G_aload_n 0 dX10_reaches_31 rfl rfl ?_
      refine G_iload_n 1 dX10_reaches_32 rfl rfl ?_
      refine G_cVb (As := [.int x1]) (rest := [.int x1, .ref (ad X 52)]) (ok_X10_isState x1 M) rfl (y2_0) rfl mv_X10_476 dX10_reaches_33 rfl rfl (Nat.le_of_ble_eq_true rfl) (g_fitN (by decide) (by decide)) (fun r13 M12 => ?_)
      refine G_ifB_eq (tgt := 51) dX10_reaches_36 (by decide) ?_ ?_
      · refine G_bipush (v := (-2)) dX10_reaches_51 (by decide) ?_
        refine G_iast (y2_52) dX10_reaches_53 ?_
        refine G_m (fun M14 => ?_)
        refine G_iinc (v := x1 + 1) (lv' := [(1, .int (x1 + 1)), (0, .ref (ad X 0))]) 1 dX10_reaches_54 rfl rfl (by decide) rfl ?_
        refine G_goto (tgt := 19) dX10_reaches_57 (by decide) ?_
        exact G_sub [1, 0] rfl (ih (x1 + 1) M14)
      · refine G_aload_n 0 dX10_reaches_39 rfl rfl ?_
        refine G_iload_n 1 dX10_reaches_40 rfl rfl ?_
        refine G_cVb (As := [.int x1]) (rest := [.int x1, .ref (ad X 52)]) (ok_X10_isOver x1 M12) rfl (y2_0) rfl mv_X10_460 dX10_reaches_41 rfl rfl (Nat.le_of_ble_eq_true rfl) (g_fitN (by decide) (by decide)) (fun r16 M15 => ?_)
        refine G_ifB_eq (tgt := 51) dX10_reaches_44 (by decide) ?_ ?_
        · refine G_bipush (v := (-2)) dX10_reaches_51 (by decide) ?_
          refine G_iast (y2_52) dX10_reaches_53 ?_
          refine G_m (fun M17 => ?_)
          refine G_iinc (v := x1 + 1) (lv' := [(1, .int (x1 + 1)), (0, .ref (ad X 0))]) 1 dX10_reaches_54 rfl rfl (by decide) rfl ?_
          refine G_goto (tgt := 19) dX10_reaches_57 (by decide) ?_
          exact G_sub [1, 0] rfl (ih (x1 + 1) M17)
        · refine G_iconst (v := 0) dX10_reaches_47 (by decide) ?_
          refine G_goto (tgt := 53) dX10_reaches_48 (by decide) ?_
          refine G_iast (y2_52) dX10_reaches_53 ?_
          refine G_m (fun M18 => ?_)
          refine G_iinc (v := x1 + 1) (lv' := [(1, .int (x1 + 1)), (0, .ref (ad X 0))]) 1 dX10_reaches_54 rfl rfl (by decide) rfl ?_
          refine G_goto (tgt := 19) dX10_reaches_57 (by decide) ?_
          exact G_sub [1, 0] rfl (ih (x1 + 1) M18)
def f_X10_reaches (M : gM) : Option (Unit × gM) := (g_b (f_X10_lay M) (fun r2 M1 => (if (M1.1 0 75) = 0 then (g_m (sI M1 0 75 (1 : Int32)) (fun M3 => (f_X10_reaches_19 FU (0 : Int32) M3))) else (some ((), M1)))))
set_option maxRecDepth 100000 in
set_option maxHeartbeats 4000000 in
theorem ok_X10_reaches (M : gM) : g_met Y2 yX10_reaches jX10_reaches g_ev (fun Z => [.ref (Z.2.1 0)]) M (f_X10_reaches M) := by
  refine g_enter (fun Z => [(0, .ref (Z.2.1 0))]) (by decide) rfl (fun Z => Nat.le_of_ble_eq_true rfl) (fun Z => rfl) (fun X => ?_)
  rw [f_X10_reaches]
  refine G_aload_n 0 dX10_reaches_0 rfl rfl ?_
  refine G_cVv (As := []) (rest := []) (ok_X10_lay M) rfl (y2_0) rfl mv_X10_516 dX10_reaches_1 rfl rfl (Nat.le_of_ble_eq_true rfl) (g_fitN (by decide) (by decide)) (fun r2 M1 => ?_)
  refine G_aload_n 0 dX10_reaches_4 rfl rfl ?_
  refine G_get 75 clX10 (y2_0) fl_X10_495 dX10_reaches_5 (by decide) rfl rfl ?_
  refine G_if_eq (tgt := 12) dX10_reaches_8 (by decide) ?_ ?_
  · refine G_aload_n 0 dX10_reaches_12 rfl rfl ?_
    refine G_iconst (v := 1) dX10_reaches_13 (by decide) ?_
    refine G_putZ 75 clX10 (y2_0) fl_X10_495 dX10_reaches_14 (by decide) rfl rfl rfl ⟨rfl, rfl⟩ ?_
    refine G_m (fun M3 => ?_)
    refine G_iconst (v := 0) dX10_reaches_17 (by decide) ?_
    refine G_istore_n (lv' := [(1, .int 0), (0, .ref (ad X 0))]) dX10_reaches_18 rfl (by decide) rfl ?_
    exact G_sub [1, 0] rfl (o_X10_reaches_19 FU (0 : Int32) M3)
  · exact G_vret rfl dX10_reaches_11
-- X10_reach
def f_X10_reach (a1 : Int32) (M : gM) : Option (Int32 × gM) := (g_b (f_X10_isState a1 M) (fun r2 M1 => (if r2 then (g_b (f_X10_reaches M1) (fun r4 M3 => (g_ck a1 2079 (some ((M3.1 52 (tn a1)), M3))))) else (some (((-1) : Int32), M1)))))
set_option maxRecDepth 100000 in
set_option maxHeartbeats 4000000 in
theorem ok_X10_reach (a1 : Int32) (M : gM) : g_met Y2 yX10_reach jX10_reach g_ei (fun Z => [.ref (Z.2.1 0), .int a1]) M (f_X10_reach a1 M) := by
  refine g_enter (fun Z => [(0, .ref (Z.2.1 0)), (1, .int a1)]) (by decide) rfl (fun Z => Nat.le_of_ble_eq_true rfl) (fun Z => rfl) (fun X => ?_)
  rw [f_X10_reach]
  refine G_aload_n 0 dX10_reach_0 rfl rfl ?_
  refine G_iload_n 1 dX10_reach_1 rfl rfl ?_
  refine G_cVb (As := [.int a1]) (rest := []) (ok_X10_isState a1 M) rfl (y2_0) rfl mv_X10_476 dX10_reach_2 rfl rfl (Nat.le_of_ble_eq_true rfl) (g_fitN (by decide) (by decide)) (fun r2 M1 => ?_)
  refine G_ifB_ne (tgt := 10) dX10_reach_5 (by decide) ?_ ?_
  · refine G_aload_n 0 dX10_reach_10 rfl rfl ?_
    refine G_cVv (As := []) (rest := []) (ok_X10_reaches M1) rfl (y2_0) rfl mv_X10_531 dX10_reach_11 rfl rfl (Nat.le_of_ble_eq_true rfl) (g_fitN (by decide) (by decide)) (fun r4 M3 => ?_)
    refine G_aload_n 0 dX10_reach_14 rfl rfl ?_
    refine G_get 82 clX10 (y2_0) fl_X10_173 dX10_reach_15 (by decide) rfl rfl ?_
    refine G_iload_n 1 dX10_reach_18 rfl rfl ?_
    refine G_iald (y2_52) dX10_reach_19 ?_
    exact G_iret rfl dX10_reach_20
  · refine G_iconst (v := (-1)) dX10_reach_8 (by decide) ?_
    exact G_iret rfl dX10_reach_9
-- X10_lead
def f_X10_lead_29 : Nat → Int32 → Int32 → gM → Option (Int32 × gM)
  | 0, _, _, _ => none
  | n + 1, x1, x2, M => (g_b (f_X10_actsOf M) (fun r6 M5 => (if r6 ≤ x2 then (some (((-2) : Int32), M5)) else (g_ck x1 2079 (g_b (f_X10_isNearer x1 x2 (M5.1 52 (tn x1)) M5) (fun r8 M7 => (if r8 then (some (x2, M7)) else (f_X10_lead_29 n x1 (x2 + 1) M7))))))))
set_option maxRecDepth 100000 in
set_option maxHeartbeats 4000000 in
theorem o_X10_lead_29 {X : gX} : ∀ (n : Nat) (x1 : Int32) (x2 : Int32) (M : gM), G Y2 jX10_lead X (g_fin g_ei) 29 [(0, .ref (ad X 0)), (1, .int x1), (2, .int x2)] [] M (f_X10_lead_29 n x1 x2 M) := by
  intro n
  induction n with
  | zero => intro x1 x2 M; exact G_none
  | succ n ih =>
    intro x1 x2 M
    rw [f_X10_lead_29]
    refine G_iload_n 2 dX10_lead_29 rfl rfl ?_
    refine G_aload_n 0 dX10_lead_30 rfl rfl ?_
    refine G_cVi (As := []) (rest := [.int x2]) (ok_X10_actsOf M) rfl (y2_0) rfl mv_X10_482 dX10_lead_31 rfl rfl (Nat.le_of_ble_eq_true rfl) (g_fitN (by decide) (by decide)) (fun r6 M5 => ?_)
    refine G_icmp_ge (tgt := 60) dX10_lead_34 (by decide) ?_ ?_
    · refine G_bipush (v := (-2)) dX10_lead_60 (by decide) ?_
      exact G_iret rfl dX10_lead_62
    · refine G_aload_n 0 dX10_lead_37 rfl rfl ?_
      refine G_iload_n 1 dX10_lead_38 rfl rfl ?_
      refine G_iload_n 2 dX10_lead_39 rfl rfl ?_
      refine G_aload_n 0 dX10_lead_40 rfl rfl ?_
      refine G_get 82 clX10 (y2_0) fl_X10_173 dX10_lead_41 (by decide) rfl rfl ?_
      refine G_iload_n 1 dX10_lead_44 rfl rfl ?_
      refine G_iald (y2_52) dX10_lead_45 ?_
      refine G_cVb (As := [.int x1, .int x2, .int (M5.1 52 (tn x1))]) (rest := []) (ok_X10_isNearer x1 x2 (M5.1 52 (tn x1)) M5) rfl (y2_0) rfl mv_X10_528 dX10_lead_46 rfl rfl (Nat.le_of_ble_eq_true rfl) (g_fitN (by decide) (by decide)) (fun r8 M7 => ?_)
      refine G_ifB_eq (tgt := 54) dX10_lead_49 (by decide) ?_ ?_
      · refine G_iinc (v := x2 + 1) (lv' := [(2, .int (x2 + 1)), (0, .ref (ad X 0)), (1, .int x1)]) 2 dX10_lead_54 rfl rfl (by decide) rfl ?_
        refine G_goto (tgt := 29) dX10_lead_57 (by decide) ?_
        exact G_sub [1, 2, 0] rfl (ih x1 (x2 + 1) M7)
      · refine G_iload_n 2 dX10_lead_52 rfl rfl ?_
        exact G_iret rfl dX10_lead_53
def f_X10_lead (a1 : Int32) (M : gM) : Option (Int32 × gM) := (g_b (f_X10_isState a1 M) (fun r2 M1 => (if r2 then (g_b (f_X10_reaches M1) (fun r4 M3 => (g_ck a1 2079 (if (1 : Int32) ≤ (M3.1 52 (tn a1)) then (f_X10_lead_29 FU a1 (0 : Int32) M3) else (some (((-2) : Int32), M3)))))) else (some (((-1) : Int32), M1)))))
set_option maxRecDepth 100000 in
set_option maxHeartbeats 4000000 in
theorem ok_X10_lead (a1 : Int32) (M : gM) : g_met Y2 yX10_lead jX10_lead g_ei (fun Z => [.ref (Z.2.1 0), .int a1]) M (f_X10_lead a1 M) := by
  refine g_enter (fun Z => [(0, .ref (Z.2.1 0)), (1, .int a1)]) (by decide) rfl (fun Z => Nat.le_of_ble_eq_true rfl) (fun Z => rfl) (fun X => ?_)
  rw [f_X10_lead]
  refine G_aload_n 0 dX10_lead_0 rfl rfl ?_
  refine G_iload_n 1 dX10_lead_1 rfl rfl ?_
  refine G_cVb (As := [.int a1]) (rest := []) (ok_X10_isState a1 M) rfl (y2_0) rfl mv_X10_476 dX10_lead_2 rfl rfl (Nat.le_of_ble_eq_true rfl) (g_fitN (by decide) (by decide)) (fun r2 M1 => ?_)
  refine G_ifB_ne (tgt := 10) dX10_lead_5 (by decide) ?_ ?_
  · refine G_aload_n 0 dX10_lead_10 rfl rfl ?_
    refine G_cVv (As := []) (rest := []) (ok_X10_reaches M1) rfl (y2_0) rfl mv_X10_531 dX10_lead_11 rfl rfl (Nat.le_of_ble_eq_true rfl) (g_fitN (by decide) (by decide)) (fun r4 M3 => ?_)
    refine G_aload_n 0 dX10_lead_14 rfl rfl ?_
    refine G_get 82 clX10 (y2_0) fl_X10_173 dX10_lead_15 (by decide) rfl rfl ?_
    refine G_iload_n 1 dX10_lead_18 rfl rfl ?_
    refine G_iald (y2_52) dX10_lead_19 ?_
    refine G_iconst (v := 1) dX10_lead_20 (by decide) ?_
    refine G_icmp_ge (tgt := 27) dX10_lead_21 (by decide) ?_ ?_
    · refine G_iconst (v := 0) dX10_lead_27 (by decide) ?_
      refine G_istore_n (lv' := [(2, .int 0), (0, .ref (ad X 0)), (1, .int a1)]) dX10_lead_28 rfl (by decide) rfl ?_
      exact G_sub [1, 2, 0] rfl (o_X10_lead_29 FU a1 (0 : Int32) M3)
    · refine G_bipush (v := (-2)) dX10_lead_24 (by decide) ?_
      exact G_iret rfl dX10_lead_26
  · refine G_iconst (v := (-1)) dX10_lead_8 (by decide) ?_
    exact G_iret rfl dX10_lead_9
-- X10_safe
def f_X10_safe_31 : Nat → Int32 → Int32 → Int32 → gM → Option (Int32 × gM)
  | 0, _, _, _, _ => none
  | n + 1, x1, x2, x3, M => (if (((231 : Int32) * x1) + (231 : Int32)) ≤ x3 then (some (x2, M)) else (g_b (f_X10_isState x3 M) (fun r5 M4 => (if r5 then (g_b (f_X10_isSafe x3 M4) (fun r8 M7 => (if r8 then (g_v (x2 + (1 : Int32)) (fun y10 => (f_X10_safe_31 n x1 y10 (x3 + 1) M7))) else (g_v (x2 + (0 : Int32)) (fun y9 => (f_X10_safe_31 n x1 y9 (x3 + 1) M7)))))) else (g_v (x2 + (0 : Int32)) (fun y6 => (f_X10_safe_31 n x1 y6 (x3 + 1) M4)))))))
set_option maxRecDepth 100000 in
set_option maxHeartbeats 4000000 in
theorem o_X10_safe_31 {X : gX} : ∀ (n : Nat) (x1 : Int32) (x2 : Int32) (x3 : Int32) (M : gM), G Y2 jX10_safe X (g_fin g_ei) 31 [(0, .ref (ad X 0)), (1, .int x1), (2, .int x2), (3, .int x3)] [] M (f_X10_safe_31 n x1 x2 x3 M) := by
  intro n
  induction n with
  | zero => intro x1 x2 x3 M; exact G_none
  | succ n ih =>
    intro x1 x2 x3 M
    rw [f_X10_safe_31]
    refine G_iload_n 3 dX10_safe_31 rfl rfl ?_
    refine G_sipush (v := 231) dX10_safe_32 (by decide) ?_
    refine G_iload_n 1 dX10_safe_35 rfl rfl ?_
    refine G_imul dX10_safe_36 ?_
    refine G_sipush (v := 231) dX10_safe_37 (by decide) ?_
    refine G_iadd dX10_safe_40 ?_
    refine G_icmp_ge (tgt := 74) dX10_safe_41 (by decide) ?_ ?_
    · refine G_iload_n 2 dX10_safe_74 rfl rfl ?_
      exact G_iret rfl dX10_safe_75
    · refine G_iload_n 2 dX10_safe_44 rfl rfl ?_
      refine G_aload_n 0 dX10_safe_45 rfl rfl ?_
      refine G_iload_n 3 dX10_safe_46 rfl rfl ?_
      refine G_cVb (As := [.int x3]) (rest := [.int x2]) (ok_X10_isState x3 M) rfl (y2_0) rfl mv_X10_476 dX10_safe_47 rfl rfl (Nat.le_of_ble_eq_true rfl) (g_fitN (by decide) (by decide)) (fun r5 M4 => ?_)
      refine G_ifB_eq (tgt := 65) dX10_safe_50 (by decide) ?_ ?_
      · refine G_iconst (v := 0) dX10_safe_65 (by decide) ?_
        refine G_iadd dX10_safe_66 ?_
        refine G_vi (fun y6 => ?_)
        refine G_istore_n (lv' := [(2, .int y6), (0, .ref (ad X 0)), (1, .int x1), (3, .int x3)]) dX10_safe_67 rfl (by decide) rfl ?_
        refine G_iinc (v := x3 + 1) (lv' := [(3, .int (x3 + 1)), (2, .int y6), (0, .ref (ad X 0)), (1, .int x1)]) 3 dX10_safe_68 rfl rfl (by decide) rfl ?_
        refine G_goto (tgt := 31) dX10_safe_71 (by decide) ?_
        exact G_sub [2, 3, 1, 0] rfl (ih x1 y6 (x3 + 1) M4)
      · refine G_aload_n 0 dX10_safe_53 rfl rfl ?_
        refine G_iload_n 3 dX10_safe_54 rfl rfl ?_
        refine G_cVb (As := [.int x3]) (rest := [.int x2]) (ok_X10_isSafe x3 M4) rfl (y2_0) rfl mv_X10_519 dX10_safe_55 rfl rfl (Nat.le_of_ble_eq_true rfl) (g_fitN (by decide) (by decide)) (fun r8 M7 => ?_)
        refine G_ifB_eq (tgt := 65) dX10_safe_58 (by decide) ?_ ?_
        · refine G_iconst (v := 0) dX10_safe_65 (by decide) ?_
          refine G_iadd dX10_safe_66 ?_
          refine G_vi (fun y9 => ?_)
          refine G_istore_n (lv' := [(2, .int y9), (0, .ref (ad X 0)), (1, .int x1), (3, .int x3)]) dX10_safe_67 rfl (by decide) rfl ?_
          refine G_iinc (v := x3 + 1) (lv' := [(3, .int (x3 + 1)), (2, .int y9), (0, .ref (ad X 0)), (1, .int x1)]) 3 dX10_safe_68 rfl rfl (by decide) rfl ?_
          refine G_goto (tgt := 31) dX10_safe_71 (by decide) ?_
          exact G_sub [2, 3, 1, 0] rfl (ih x1 y9 (x3 + 1) M7)
        · refine G_iconst (v := 1) dX10_safe_61 (by decide) ?_
          refine G_goto (tgt := 66) dX10_safe_62 (by decide) ?_
          refine G_iadd dX10_safe_66 ?_
          refine G_vi (fun y10 => ?_)
          refine G_istore_n (lv' := [(2, .int y10), (0, .ref (ad X 0)), (1, .int x1), (3, .int x3)]) dX10_safe_67 rfl (by decide) rfl ?_
          refine G_iinc (v := x3 + 1) (lv' := [(3, .int (x3 + 1)), (2, .int y10), (0, .ref (ad X 0)), (1, .int x1)]) 3 dX10_safe_68 rfl rfl (by decide) rfl ?_
          refine G_goto (tgt := 31) dX10_safe_71 (by decide) ?_
          exact G_sub [2, 3, 1, 0] rfl (ih x1 y10 (x3 + 1) M7)
def f_X10_safe (a1 : Int32) (M : gM) : Option (Int32 × gM) := (if a1 < 0 then (some (((-1) : Int32), M)) else (g_ck (M.1 0 13) 2 (if a1 ≤ (M.1 6 (tn (M.1 0 13))) then (g_b (f_X10_lay M) (fun r2 M1 => (g_v ((231 : Int32) * a1) (fun y3 => (f_X10_safe_31 FU a1 (0 : Int32) y3 M1))))) else (some (((-1) : Int32), M)))))
set_option maxRecDepth 100000 in
set_option maxHeartbeats 4000000 in
theorem ok_X10_safe (a1 : Int32) (M : gM) : g_met Y2 yX10_safe jX10_safe g_ei (fun Z => [.ref (Z.2.1 0), .int a1]) M (f_X10_safe a1 M) := by
  refine g_enter (fun Z => [(0, .ref (Z.2.1 0)), (1, .int a1)]) (by decide) rfl (fun Z => Nat.le_of_ble_eq_true rfl) (fun Z => rfl) (fun X => ?_)
  rw [f_X10_safe]
  refine G_iload_n 1 dX10_safe_0 rfl rfl ?_
  refine G_if_lt (tgt := 17) dX10_safe_1 (by decide) ?_ ?_
  · refine G_iconst (v := (-1)) dX10_safe_17 (by decide) ?_
    exact G_iret rfl dX10_safe_18
  · refine G_iload_n 1 dX10_safe_4 rfl rfl ?_
    refine G_aload_n 0 dX10_safe_5 rfl rfl ?_
    refine G_get 15 clX10 (y2_0) fl_X10_30 dX10_safe_6 (by decide) rfl rfl ?_
    refine G_aload_n 0 dX10_safe_9 rfl rfl ?_
    refine G_get 13 clX10 (y2_0) fl_X10_388 dX10_safe_10 (by decide) rfl rfl ?_
    refine G_iald (y2_6) dX10_safe_13 ?_
    refine G_icmp_le (tgt := 19) dX10_safe_14 (by decide) ?_ ?_
    · refine G_aload_n 0 dX10_safe_19 rfl rfl ?_
      refine G_cVv (As := []) (rest := []) (ok_X10_lay M) rfl (y2_0) rfl mv_X10_516 dX10_safe_20 rfl rfl (Nat.le_of_ble_eq_true rfl) (g_fitN (by decide) (by decide)) (fun r2 M1 => ?_)
      refine G_iconst (v := 0) dX10_safe_23 (by decide) ?_
      refine G_istore_n (lv' := [(2, .int 0), (0, .ref (ad X 0)), (1, .int a1)]) dX10_safe_24 rfl (by decide) rfl ?_
      refine G_sipush (v := 231) dX10_safe_25 (by decide) ?_
      refine G_iload_n 2 dX10_safe_28 rfl rfl ?_
      refine G_imul dX10_safe_29 ?_
      refine G_vi (fun y3 => ?_)
      refine G_istore_n (lv' := [(3, .int y3), (2, .int 0), (0, .ref (ad X 0)), (1, .int a1)]) dX10_safe_30 rfl (by decide) rfl ?_
      exact G_sub [2, 3, 1, 0] rfl (o_X10_safe_31 FU a1 (0 : Int32) y3 M1)
    · refine G_iconst (v := (-1)) dX10_safe_17 (by decide) ?_
      exact G_iret rfl dX10_safe_18
-- X10_edge
def f_X10_edge_33 : Nat → Int32 → Int32 → Bool → Int32 → Int32 → gM → Option (Int32 × gM)
  | 0, _, _, _, _, _, _ => none
  | n + 1, x1, x2, x3, x4, x5, M => (g_ck (M.1 0 13) 2 (if (M.1 7 (tn (M.1 0 13))) < x5 then (some (x4, M)) else (g_b (f_X10_numberOf x1 x5 x2 M) (fun r7 M6 => (g_b (f_X10_isSafe r7 M6) (fun r9 M8 => (if r9 then (if x3 then (f_X10_edge_33 n x1 x2 x3 x5 (x5 + 1) M8) else (if x4 = ((-100) : Int32) then (f_X10_edge_33 n x1 x2 x3 x5 (x5 + 1) M8) else (f_X10_edge_33 n x1 x2 x3 x4 (x5 + 1) M8))) else (f_X10_edge_33 n x1 x2 x3 x4 (x5 + 1) M8))))))))
set_option maxRecDepth 100000 in
set_option maxHeartbeats 4000000 in
theorem o_X10_edge_33 {X : gX} : ∀ (n : Nat) (x1 : Int32) (x2 : Int32) (x3 : Bool) (x4 : Int32) (x5 : Int32) (M : gM), G Y2 jX10_edge X (g_fin g_ei) 33 [(0, .ref (ad X 0)), (1, .int x1), (2, .int x2), (3, .int (b2i x3)), (4, .int x4), (5, .int x5)] [] M (f_X10_edge_33 n x1 x2 x3 x4 x5 M) := by
  intro n
  induction n with
  | zero => intro x1 x2 x3 x4 x5 M; exact G_none
  | succ n ih =>
    intro x1 x2 x3 x4 x5 M
    rw [f_X10_edge_33]
    refine G_iload 5 dX10_edge_33 rfl ?_
    refine G_aload_n 0 dX10_edge_35 rfl rfl ?_
    refine G_get 16 clX10 (y2_0) fl_X10_33 dX10_edge_36 (by decide) rfl rfl ?_
    refine G_aload_n 0 dX10_edge_39 rfl rfl ?_
    refine G_get 13 clX10 (y2_0) fl_X10_388 dX10_edge_40 (by decide) rfl rfl ?_
    refine G_iald (y2_7) dX10_edge_43 ?_
    refine G_icmp_gt (tgt := 85) dX10_edge_44 (by decide) ?_ ?_
    · refine G_iload 4 dX10_edge_85 rfl ?_
      exact G_iret rfl dX10_edge_87
    · refine G_aload_n 0 dX10_edge_47 rfl rfl ?_
      refine G_iload_n 1 dX10_edge_48 rfl rfl ?_
      refine G_iload 5 dX10_edge_49 rfl ?_
      refine G_iload_n 2 dX10_edge_51 rfl rfl ?_
      refine G_cSi (As := [.int x1, .int x5, .int x2]) (rest := [.ref (ad X 0)]) (ok_X10_numberOf x1 x5 x2 M) rfl ms_X10_472 dX10_edge_52 rfl rfl (Nat.le_of_ble_eq_true rfl) (g_fitN (by decide) (by decide)) (fun r7 M6 => ?_)
      refine G_cVb (As := [.int r7]) (rest := []) (ok_X10_isSafe r7 M6) rfl (y2_0) rfl mv_X10_519 dX10_edge_55 rfl rfl (Nat.le_of_ble_eq_true rfl) (g_fitN (by decide) (by decide)) (fun r9 M8 => ?_)
      refine G_ifB_ne (tgt := 64) dX10_edge_58 (by decide) ?_ ?_
      · refine G_iload_n 3 dX10_edge_64 rfl rfl ?_
        refine G_ifB_ne (tgt := 75) dX10_edge_65 (by decide) ?_ ?_
        · refine G_iload 5 dX10_edge_75 rfl ?_
          refine G_istore (lv' := [(4, .int x5), (0, .ref (ad X 0)), (1, .int x1), (2, .int x2), (3, .int (b2i x3)), (5, .int x5)]) dX10_edge_77 (by decide) rfl ?_
          refine G_iinc (v := x5 + 1) (lv' := [(5, .int (x5 + 1)), (4, .int x5), (0, .ref (ad X 0)), (1, .int x1), (2, .int x2), (3, .int (b2i x3))]) 5 dX10_edge_79 rfl rfl (by decide) rfl ?_
          refine G_goto (tgt := 33) dX10_edge_82 (by decide) ?_
          exact G_sub [2, 3, 4, 5, 1, 0] rfl (ih x1 x2 x3 x5 (x5 + 1) M8)
        · refine G_iload 4 dX10_edge_68 rfl ?_
          refine G_bipush (v := (-100)) dX10_edge_70 (by decide) ?_
          refine G_icmp_ne (tgt := 79) dX10_edge_72 (by decide) ?_ ?_
          · refine G_iinc (v := x5 + 1) (lv' := [(5, .int (x5 + 1)), (0, .ref (ad X 0)), (1, .int x1), (2, .int x2), (3, .int (b2i x3)), (4, .int x4)]) 5 dX10_edge_79 rfl rfl (by decide) rfl ?_
            refine G_goto (tgt := 33) dX10_edge_82 (by decide) ?_
            exact G_sub [1, 2, 3, 4, 5, 0] rfl (ih x1 x2 x3 x4 (x5 + 1) M8)
          · refine G_iload 5 dX10_edge_75 rfl ?_
            refine G_istore (lv' := [(4, .int x5), (0, .ref (ad X 0)), (1, .int x1), (2, .int x2), (3, .int (b2i x3)), (5, .int x5)]) dX10_edge_77 (by decide) rfl ?_
            refine G_iinc (v := x5 + 1) (lv' := [(5, .int (x5 + 1)), (4, .int x5), (0, .ref (ad X 0)), (1, .int x1), (2, .int x2), (3, .int (b2i x3))]) 5 dX10_edge_79 rfl rfl (by decide) rfl ?_
            refine G_goto (tgt := 33) dX10_edge_82 (by decide) ?_
            exact G_sub [2, 3, 4, 5, 1, 0] rfl (ih x1 x2 x3 x5 (x5 + 1) M8)
      · refine G_goto (tgt := 79) dX10_edge_61 (by decide) ?_
        refine G_iinc (v := x5 + 1) (lv' := [(5, .int (x5 + 1)), (0, .ref (ad X 0)), (1, .int x1), (2, .int x2), (3, .int (b2i x3)), (4, .int x4)]) 5 dX10_edge_79 rfl rfl (by decide) rfl ?_
        refine G_goto (tgt := 33) dX10_edge_82 (by decide) ?_
        exact G_sub [1, 2, 3, 4, 5, 0] rfl (ih x1 x2 x3 x4 (x5 + 1) M8)
def f_X10_edge (a1 : Int32) (a2 : Int32) (a3 : Bool) (M : gM) : Option (Int32 × gM) := (g_b (f_X10_isPlace a1 (0 : Int32) a2 M) (fun r2 M1 => (if r2 then (g_b (f_X10_lay M1) (fun r4 M3 => (g_ck (M3.1 0 13) 2 (g_v (-(M3.1 7 (tn (M3.1 0 13)))) (fun y5 => (f_X10_edge_33 FU a1 a2 a3 ((-100) : Int32) y5 M3)))))) else (some (((-100) : Int32), M1)))))
set_option maxRecDepth 100000 in
set_option maxHeartbeats 4000000 in
theorem ok_X10_edge (a1 : Int32) (a2 : Int32) (a3 : Bool) (M : gM) : g_met Y2 yX10_edge jX10_edge g_ei (fun Z => [.ref (Z.2.1 0), .int a1, .int a2, .int (b2i a3)]) M (f_X10_edge a1 a2 a3 M) := by
  refine g_enter (fun Z => [(0, .ref (Z.2.1 0)), (1, .int a1), (2, .int a2), (3, .int (b2i a3))]) (by decide) rfl (fun Z => Nat.le_of_ble_eq_true rfl) (fun Z => rfl) (fun X => ?_)
  rw [f_X10_edge]
  refine G_aload_n 0 dX10_edge_0 rfl rfl ?_
  refine G_iload_n 1 dX10_edge_1 rfl rfl ?_
  refine G_iconst (v := 0) dX10_edge_2 (by decide) ?_
  refine G_iload_n 2 dX10_edge_3 rfl rfl ?_
  refine G_cVb (As := [.int a1, .int 0, .int a2]) (rest := []) (ok_X10_isPlace a1 (0 : Int32) a2 M) rfl (y2_0) rfl mv_X10_456 dX10_edge_4 rfl rfl (Nat.le_of_ble_eq_true rfl) (g_fitN (by decide) (by decide)) (fun r2 M1 => ?_)
  refine G_ifB_ne (tgt := 13) dX10_edge_7 (by decide) ?_ ?_
  · refine G_aload_n 0 dX10_edge_13 rfl rfl ?_
    refine G_cVv (As := []) (rest := []) (ok_X10_lay M1) rfl (y2_0) rfl mv_X10_516 dX10_edge_14 rfl rfl (Nat.le_of_ble_eq_true rfl) (g_fitN (by decide) (by decide)) (fun r4 M3 => ?_)
    refine G_bipush (v := (-100)) dX10_edge_17 (by decide) ?_
    refine G_istore (lv' := [(4, .int (-100)), (0, .ref (ad X 0)), (1, .int a1), (2, .int a2), (3, .int (b2i a3))]) dX10_edge_19 (by decide) rfl ?_
    refine G_aload_n 1 dX10_edge_21 rfl rfl ?_
    refine G_get 16 clX10 (y2_0) fl_X10_33 dX10_edge_22 (by decide) rfl rfl ?_
    refine G_aload_n 1 dX10_edge_25 rfl rfl ?_
    refine G_get 13 clX10 (y2_0) fl_X10_388 dX10_edge_26 (by decide) rfl rfl ?_
    refine G_iald (y2_7) dX10_edge_29 ?_
    refine G_ineg dX10_edge_30 ?_
    refine G_vi (fun y5 => ?_)
    refine G_istore (lv' := [(5, .int y5), (4, .int (-100)), (0, .ref (ad X 0)), (1, .int a1), (2, .int a2), (3, .int (b2i a3))]) dX10_edge_31 (by decide) rfl ?_
    exact G_sub [2, 3, 4, 5, 1, 0] rfl (o_X10_edge_33 FU a1 a2 a3 ((-100) : Int32) y5 M3)
  · refine G_bipush (v := (-100)) dX10_edge_10 (by decide) ?_
    exact G_iret rfl dX10_edge_12
-- X10_doom
def f_X10_doom_8 : Nat → Int32 → Int32 → gM → Option (Int32 × gM)
  | 0, _, _, _ => none
  | n + 1, x1, x2, M => (if (2079 : Int32) ≤ x2 then (some (x1, M)) else (g_b (f_X10_isState x2 M) (fun r4 M3 => (if r4 then (g_b (f_X10_isSafe x2 M3) (fun r6 M5 => (if r6 then (f_X10_doom_8 n x1 (x2 + 1) M5) else (g_ck x2 2079 (if (M5.1 51 (tn x2)) ≤ x1 then (f_X10_doom_8 n x1 (x2 + 1) M5) else (g_ck x2 2079 (g_v (M5.1 51 (tn x2)) (fun y7 => (f_X10_doom_8 n y7 (x2 + 1) M5))))))))) else (f_X10_doom_8 n x1 (x2 + 1) M3)))))
set_option maxRecDepth 100000 in
set_option maxHeartbeats 4000000 in
theorem o_X10_doom_8 {X : gX} : ∀ (n : Nat) (x1 : Int32) (x2 : Int32) (M : gM), G Y2 jX10_doom X (g_fin g_ei) 8 [(0, .ref (ad X 0)), (1, .int x1), (2, .int x2)] [] M (f_X10_doom_8 n x1 x2 M) := by
  intro n
  induction n with
  | zero => intro x1 x2 M; exact G_none
  | succ n ih =>
    intro x1 x2 M
    rw [f_X10_doom_8]
    refine G_iload_n 2 dX10_doom_8 rfl rfl ?_
    refine G_sipush (v := 2079) dX10_doom_9 (by decide) ?_
    refine G_icmp_ge (tgt := 54) dX10_doom_12 (by decide) ?_ ?_
    · refine G_iload_n 1 dX10_doom_54 rfl rfl ?_
      exact G_iret rfl dX10_doom_55
    · refine G_aload_n 0 dX10_doom_15 rfl rfl ?_
      refine G_iload_n 2 dX10_doom_16 rfl rfl ?_
      refine G_cVb (As := [.int x2]) (rest := []) (ok_X10_isState x2 M) rfl (y2_0) rfl mv_X10_476 dX10_doom_17 rfl rfl (Nat.le_of_ble_eq_true rfl) (g_fitN (by decide) (by decide)) (fun r4 M3 => ?_)
      refine G_ifB_eq (tgt := 48) dX10_doom_20 (by decide) ?_ ?_
      · refine G_iinc (v := x2 + 1) (lv' := [(2, .int (x2 + 1)), (0, .ref (ad X 0)), (1, .int x1)]) 2 dX10_doom_48 rfl rfl (by decide) rfl ?_
        refine G_goto (tgt := 8) dX10_doom_51 (by decide) ?_
        exact G_sub [1, 2, 0] rfl (ih x1 (x2 + 1) M3)
      · refine G_aload_n 0 dX10_doom_23 rfl rfl ?_
        refine G_iload_n 2 dX10_doom_24 rfl rfl ?_
        refine G_cVb (As := [.int x2]) (rest := []) (ok_X10_isSafe x2 M3) rfl (y2_0) rfl mv_X10_519 dX10_doom_25 rfl rfl (Nat.le_of_ble_eq_true rfl) (g_fitN (by decide) (by decide)) (fun r6 M5 => ?_)
        refine G_ifB_ne (tgt := 48) dX10_doom_28 (by decide) ?_ ?_
        · refine G_iinc (v := x2 + 1) (lv' := [(2, .int (x2 + 1)), (0, .ref (ad X 0)), (1, .int x1)]) 2 dX10_doom_48 rfl rfl (by decide) rfl ?_
          refine G_goto (tgt := 8) dX10_doom_51 (by decide) ?_
          exact G_sub [1, 2, 0] rfl (ih x1 (x2 + 1) M5)
        · refine G_aload_n 0 dX10_doom_31 rfl rfl ?_
          refine G_get 81 clX10 (y2_0) fl_X10_170 dX10_doom_32 (by decide) rfl rfl ?_
          refine G_iload_n 2 dX10_doom_35 rfl rfl ?_
          refine G_iald (y2_51) dX10_doom_36 ?_
          refine G_iload_n 1 dX10_doom_37 rfl rfl ?_
          refine G_icmp_le (tgt := 48) dX10_doom_38 (by decide) ?_ ?_
          · refine G_iinc (v := x2 + 1) (lv' := [(2, .int (x2 + 1)), (0, .ref (ad X 0)), (1, .int x1)]) 2 dX10_doom_48 rfl rfl (by decide) rfl ?_
            refine G_goto (tgt := 8) dX10_doom_51 (by decide) ?_
            exact G_sub [1, 2, 0] rfl (ih x1 (x2 + 1) M5)
          · refine G_aload_n 0 dX10_doom_41 rfl rfl ?_
            refine G_get 81 clX10 (y2_0) fl_X10_170 dX10_doom_42 (by decide) rfl rfl ?_
            refine G_iload_n 2 dX10_doom_45 rfl rfl ?_
            refine G_iald (y2_51) dX10_doom_46 ?_
            refine G_vi (fun y7 => ?_)
            refine G_istore_n (lv' := [(1, .int y7), (0, .ref (ad X 0)), (2, .int x2)]) dX10_doom_47 rfl (by decide) rfl ?_
            refine G_iinc (v := x2 + 1) (lv' := [(2, .int (x2 + 1)), (1, .int y7), (0, .ref (ad X 0))]) 2 dX10_doom_48 rfl rfl (by decide) rfl ?_
            refine G_goto (tgt := 8) dX10_doom_51 (by decide) ?_
            exact G_sub [2, 1, 0] rfl (ih y7 (x2 + 1) M5)
def f_X10_doom (M : gM) : Option (Int32 × gM) := (g_b (f_X10_lay M) (fun r2 M1 => (f_X10_doom_8 FU ((-1) : Int32) (0 : Int32) M1)))
set_option maxRecDepth 100000 in
set_option maxHeartbeats 4000000 in
theorem ok_X10_doom (M : gM) : g_met Y2 yX10_doom jX10_doom g_ei (fun Z => [.ref (Z.2.1 0)]) M (f_X10_doom M) := by
  refine g_enter (fun Z => [(0, .ref (Z.2.1 0))]) (by decide) rfl (fun Z => Nat.le_of_ble_eq_true rfl) (fun Z => rfl) (fun X => ?_)
  rw [f_X10_doom]
  refine G_aload_n 0 dX10_doom_0 rfl rfl ?_
  refine G_cVv (As := []) (rest := []) (ok_X10_lay M) rfl (y2_0) rfl mv_X10_516 dX10_doom_1 rfl rfl (Nat.le_of_ble_eq_true rfl) (g_fitN (by decide) (by decide)) (fun r2 M1 => ?_)
  refine G_iconst (v := (-1)) dX10_doom_4 (by decide) ?_
  refine G_istore_n (lv' := [(1, .int (-1)), (0, .ref (ad X 0))]) dX10_doom_5 rfl (by decide) rfl ?_
  refine G_iconst (v := 0) dX10_doom_6 (by decide) ?_
  refine G_istore_n (lv' := [(2, .int 0), (1, .int (-1)), (0, .ref (ad X 0))]) dX10_doom_7 rfl (by decide) rfl ?_
  exact G_sub [2, 1, 0] rfl (o_X10_doom_8 FU ((-1) : Int32) (0 : Int32) M1)
-- X10_isSaved
def f_X10_isSaved_10 : Nat → Int32 → Int32 → Int32 → Int32 → gM → Option (Bool × gM)
  | 0, _, _, _, _, _ => none
  | n + 1, x1, x2, x3, x4, M => (g_ck x1 2079 (if ((M.1 48 (tn x1)) + x3) < x4 then (some (true, M)) else (g_b (f_X10_leads x1 x2 x4 M) (fun r3 M2 => (if r3 = ((-2) : Int32) then (some (false, M2)) else (g_ck r3 2079 (if (M2.1 55 (tn r3)) = 0 then (some (false, M2)) else (f_X10_isSaved_10 n x1 x2 x3 (x4 + 1) M2))))))))
set_option maxRecDepth 100000 in
set_option maxHeartbeats 4000000 in
theorem o_X10_isSaved_10 {X : gX} : ∀ (n : Nat) (x1 : Int32) (x2 : Int32) (x3 : Int32) (x4 : Int32) (M : gM), G Y2 jX10_isSaved X (g_fin g_eb) 10 [(0, .ref (ad X 0)), (1, .int x1), (2, .int x2), (3, .int x3), (4, .int x4)] [] M (f_X10_isSaved_10 n x1 x2 x3 x4 M) := by
  intro n
  induction n with
  | zero => intro x1 x2 x3 x4 M; exact G_none
  | succ n ih =>
    intro x1 x2 x3 x4 M
    rw [f_X10_isSaved_10]
    refine G_iload 4 dX10_isSaved_10 rfl ?_
    refine G_aload_n 0 dX10_isSaved_12 rfl rfl ?_
    refine G_get 78 clX10 (y2_0) fl_X10_160 dX10_isSaved_13 (by decide) rfl rfl ?_
    refine G_iload_n 1 dX10_isSaved_16 rfl rfl ?_
    refine G_iald (y2_48) dX10_isSaved_17 ?_
    refine G_iload_n 3 dX10_isSaved_18 rfl rfl ?_
    refine G_iadd dX10_isSaved_19 ?_
    refine G_icmp_gt (tgt := 58) dX10_isSaved_20 (by decide) ?_ ?_
    · refine G_iconst (v := 1) dX10_isSaved_58 (by decide) ?_
      exact G_zret (b := true) rfl dX10_isSaved_59
    · refine G_aload_n 0 dX10_isSaved_23 rfl rfl ?_
      refine G_iload_n 1 dX10_isSaved_24 rfl rfl ?_
      refine G_iload_n 2 dX10_isSaved_25 rfl rfl ?_
      refine G_iload 4 dX10_isSaved_26 rfl ?_
      refine G_cVi (As := [.int x1, .int x2, .int x4]) (rest := []) (ok_X10_leads x1 x2 x4 M) rfl (y2_0) rfl mv_X10_507 dX10_isSaved_28 rfl rfl (Nat.le_of_ble_eq_true rfl) (g_fitN (by decide) (by decide)) (fun r3 M2 => ?_)
      refine G_istore (lv' := [(5, .int r3), (0, .ref (ad X 0)), (1, .int x1), (2, .int x2), (3, .int x3), (4, .int x4)]) dX10_isSaved_31 (by decide) rfl ?_
      refine G_iload 0 dX10_isSaved_33 rfl ?_
      refine G_bipush (v := (-2)) dX10_isSaved_35 (by decide) ?_
      refine G_icmp_eq (tgt := 50) dX10_isSaved_37 (by decide) ?_ ?_
      · refine G_iconst (v := 0) dX10_isSaved_50 (by decide) ?_
        exact G_zret (b := false) rfl dX10_isSaved_51
      · refine G_aload_n 1 dX10_isSaved_40 rfl rfl ?_
        refine G_get 85 clX10 (y2_0) fl_X10_182 dX10_isSaved_41 (by decide) rfl rfl ?_
        refine G_iload 0 dX10_isSaved_44 rfl ?_
        refine G_zald (y2_55) dX10_isSaved_46 ?_
        refine G_if_ne (tgt := 52) dX10_isSaved_47 (by decide) ?_ ?_
        · refine G_iinc (v := x4 + 1) (lv' := [(4, .int (x4 + 1)), (5, .int r3), (0, .ref (ad X 0)), (1, .int x1), (2, .int x2), (3, .int x3)]) 5 dX10_isSaved_52 rfl rfl (by decide) rfl ?_
          refine G_goto (tgt := 10) dX10_isSaved_55 (by decide) ?_
          exact G_sub [2, 3, 4, 5, 0] rfl (ih x1 x2 x3 (x4 + 1) M2)
        · refine G_iconst (v := 0) dX10_isSaved_50 (by decide) ?_
          exact G_zret (b := false) rfl dX10_isSaved_51
def f_X10_isSaved (a1 : Int32) (a2 : Int32) (a3 : Int32) (M : gM) : Option (Bool × gM) := (g_ck a1 2079 (g_v ((M.1 47 (tn a1)) - a3) (fun y1 => (f_X10_isSaved_10 FU a1 a2 a3 y1 M))))
set_option maxRecDepth 100000 in
set_option maxHeartbeats 4000000 in
theorem ok_X10_isSaved (a1 : Int32) (a2 : Int32) (a3 : Int32) (M : gM) : g_met Y2 yX10_isSaved jX10_isSaved g_eb (fun Z => [.ref (Z.2.1 0), .int a1, .int a2, .int a3]) M (f_X10_isSaved a1 a2 a3 M) := by
  refine g_enter (fun Z => [(0, .ref (Z.2.1 0)), (1, .int a1), (2, .int a2), (3, .int a3)]) (by decide) rfl (fun Z => Nat.le_of_ble_eq_true rfl) (fun Z => rfl) (fun X => ?_)
  rw [f_X10_isSaved]
  refine G_aload_n 0 dX10_isSaved_0 rfl rfl ?_
  refine G_get 77 clX10 (y2_0) fl_X10_157 dX10_isSaved_1 (by decide) rfl rfl ?_
  refine G_iload_n 1 dX10_isSaved_4 rfl rfl ?_
  refine G_iald (y2_47) dX10_isSaved_5 ?_
  refine G_iload_n 3 dX10_isSaved_6 rfl rfl ?_
  refine G_isub dX10_isSaved_7 ?_
  refine G_vi (fun y1 => ?_)
  refine G_istore (lv' := [(4, .int y1), (0, .ref (ad X 0)), (1, .int a1), (2, .int a2), (3, .int a3)]) dX10_isSaved_8 (by decide) rfl ?_
  exact G_sub [1, 2, 3, 4, 0] rfl (o_X10_isSaved_10 FU a1 a2 a3 y1 M)
-- X10_saves
def f_X10_saves_122 (k36 : Int32 → Int32 → Int32 → gM → Option (Unit × gM)) (x1 : Int32) (x2 : Int32) (x3 : Int32) (x4 : Int32) (M : gM) : Option (Unit × gM) := (if x4 = 0 then (g_ck x3 2079 (g_m (sI M 55 (tn x3) (zb (0 : Int32))) (fun M5 => (k36 x1 (1 : Int32) (x3 + 1) M5)))) else (k36 x1 x2 (x3 + 1) M))
set_option maxRecDepth 100000 in
set_option maxHeartbeats 4000000 in
theorem o_X10_saves_122 {X : gX} {k36 : Int32 → Int32 → Int32 → gM → Option (Unit × gM)} (hk36 : ∀ (x1 : Int32) (x2 : Int32) (x3 : Int32) (M : gM), G Y2 jX10_saves X (g_fin g_ev) 36 [(0, .ref (ad X 0)), (1, .int x1), (2, .int x2), (3, .int x3)] [] M (k36 x1 x2 x3 M)) (x1 : Int32) (x2 : Int32) (x3 : Int32) (x4 : Int32) (M : gM) : G Y2 jX10_saves X (g_fin g_ev) 122 [(0, .ref (ad X 0)), (1, .int x1), (2, .int x2), (3, .int x3), (4, .int x4)] [] M (f_X10_saves_122 k36 x1 x2 x3 x4 M) := by
  rw [f_X10_saves_122]
  refine G_iload 4 dX10_saves_122 rfl ?_
  refine G_if_eq (tgt := 130) dX10_saves_124 (by decide) ?_ ?_
  · refine G_aload_n 0 dX10_saves_130 rfl rfl ?_
    refine G_get 85 clX10 (y2_0) fl_X10_182 dX10_saves_131 (by decide) rfl rfl ?_
    refine G_iload_n 3 dX10_saves_134 rfl rfl ?_
    refine G_iconst (v := 0) dX10_saves_135 (by decide) ?_
    refine G_zast (y2_55) dX10_saves_136 ?_
    refine G_m (fun M5 => ?_)
    refine G_iconst (v := 1) dX10_saves_137 (by decide) ?_
    refine G_istore_n (lv' := [(2, .int 1), (0, .ref (ad X 0)), (1, .int x1), (3, .int x3), (4, .int x4)]) dX10_saves_138 rfl (by decide) rfl ?_
    refine G_iinc (v := x3 + 1) (lv' := [(3, .int (x3 + 1)), (2, .int 1), (0, .ref (ad X 0)), (1, .int x1), (4, .int x4)]) 3 dX10_saves_139 rfl rfl (by decide) rfl ?_
    refine G_goto (tgt := 36) dX10_saves_142 (by decide) ?_
    exact G_sub [2, 3, 1, 0] rfl (hk36 x1 (1 : Int32) (x3 + 1) M5)
  · refine G_goto (tgt := 139) dX10_saves_127 (by decide) ?_
    refine G_iinc (v := x3 + 1) (lv' := [(3, .int (x3 + 1)), (0, .ref (ad X 0)), (1, .int x1), (2, .int x2), (4, .int x4)]) 3 dX10_saves_139 rfl rfl (by decide) rfl ?_
    refine G_goto (tgt := 36) dX10_saves_142 (by decide) ?_
    exact G_sub [1, 2, 3, 0] rfl (hk36 x1 x2 (x3 + 1) M)
def f_X10_saves_69 (k36 : Int32 → Int32 → Int32 → gM → Option (Unit × gM)) : Nat → Int32 → Int32 → Int32 → Int32 → Int32 → gM → Option (Unit × gM)
  | 0, _, _, _, _, _, _ => none
  | n + 1, x1, x2, x3, x4, x5, M => (g_b (f_X10_actsOf M) (fun r4 M3 => (if r4 ≤ x5 then (f_X10_saves_122 k36 x1 x2 x3 x4 M3) else (if x4 = 0 then (g_ck (((6 : Int32) * x3) + x5) 12474 (if (M3.1 49 (tn (((6 : Int32) * x3) + x5))) = 0 then (f_X10_saves_69 k36 n x1 x2 x3 (0 : Int32) (x5 + 1) M3) else (g_b (f_X10_isSaved x3 x5 x1 M3) (fun r7 M6 => (if r7 then (f_X10_saves_69 k36 n x1 x2 x3 (1 : Int32) (x5 + 1) M6) else (f_X10_saves_69 k36 n x1 x2 x3 (0 : Int32) (x5 + 1) M6)))))) else (f_X10_saves_122 k36 x1 x2 x3 x4 M3)))))
set_option maxRecDepth 100000 in
set_option maxHeartbeats 4000000 in
theorem o_X10_saves_69 {X : gX} {k36 : Int32 → Int32 → Int32 → gM → Option (Unit × gM)} (hk36 : ∀ (x1 : Int32) (x2 : Int32) (x3 : Int32) (M : gM), G Y2 jX10_saves X (g_fin g_ev) 36 [(0, .ref (ad X 0)), (1, .int x1), (2, .int x2), (3, .int x3)] [] M (k36 x1 x2 x3 M)) : ∀ (n : Nat) (x1 : Int32) (x2 : Int32) (x3 : Int32) (x4 : Int32) (x5 : Int32) (M : gM), G Y2 jX10_saves X (g_fin g_ev) 69 [(0, .ref (ad X 0)), (1, .int x1), (2, .int x2), (3, .int x3), (4, .int x4), (5, .int x5)] [] M (f_X10_saves_69 k36 n x1 x2 x3 x4 x5 M) := by
  intro n
  induction n with
  | zero => intro x1 x2 x3 x4 x5 M; exact G_none
  | succ n ih =>
    intro x1 x2 x3 x4 x5 M
    rw [f_X10_saves_69]
    refine G_iload 5 dX10_saves_69 rfl ?_
    refine G_aload_n 0 dX10_saves_71 rfl rfl ?_
    refine G_cVi (As := []) (rest := [.int x5]) (ok_X10_actsOf M) rfl (y2_0) rfl mv_X10_482 dX10_saves_72 rfl rfl (Nat.le_of_ble_eq_true rfl) (g_fitN (by decide) (by decide)) (fun r4 M3 => ?_)
    refine G_icmp_ge (tgt := 122) dX10_saves_75 (by decide) ?_ ?_
    · exact G_sub [0, 1, 2, 3, 4] rfl (o_X10_saves_122 hk36 x1 x2 x3 x4 M3)
    · refine G_iload 4 dX10_saves_78 rfl ?_
      refine G_if_ne (tgt := 122) dX10_saves_80 (by decide) ?_ ?_
      · exact G_sub [0, 1, 2, 3, 4] rfl (o_X10_saves_122 hk36 x1 x2 x3 x4 M3)
      · refine G_aload_n 0 dX10_saves_83 rfl rfl ?_
        refine G_get 79 clX10 (y2_0) fl_X10_163 dX10_saves_84 (by decide) rfl rfl ?_
        refine G_bipush (v := 6) dX10_saves_87 (by decide) ?_
        refine G_iload_n 3 dX10_saves_89 rfl rfl ?_
        refine G_imul dX10_saves_90 ?_
        refine G_iload 5 dX10_saves_91 rfl ?_
        refine G_iadd dX10_saves_93 ?_
        refine G_zald (y2_49) dX10_saves_94 ?_
        refine G_if_eq (tgt := 113) dX10_saves_95 (by decide) ?_ ?_
        · refine G_iconst (v := 0) dX10_saves_113 (by decide) ?_
          refine G_istore (lv' := [(4, .int 0), (0, .ref (ad X 0)), (1, .int x1), (2, .int x2), (3, .int x3), (5, .int x5)]) dX10_saves_114 (by decide) rfl ?_
          refine G_iinc (v := x5 + 1) (lv' := [(5, .int (x5 + 1)), (4, .int 0), (0, .ref (ad X 0)), (1, .int x1), (2, .int x2), (3, .int x3)]) 5 dX10_saves_116 rfl rfl (by decide) rfl ?_
          refine G_goto (tgt := 69) dX10_saves_119 (by decide) ?_
          exact G_sub [2, 3, 4, 5, 1, 0] rfl (ih x1 x2 x3 (0 : Int32) (x5 + 1) M3)
        · refine G_aload_n 0 dX10_saves_98 rfl rfl ?_
          refine G_iload_n 3 dX10_saves_99 rfl rfl ?_
          refine G_iload 5 dX10_saves_100 rfl ?_
          refine G_iload_n 1 dX10_saves_102 rfl rfl ?_
          refine G_cVb (As := [.int x3, .int x5, .int x1]) (rest := []) (ok_X10_isSaved x3 x5 x1 M3) rfl (y2_0) rfl mv_X10_534 dX10_saves_103 rfl rfl (Nat.le_of_ble_eq_true rfl) (g_fitN (by decide) (by decide)) (fun r7 M6 => ?_)
          refine G_ifB_eq (tgt := 113) dX10_saves_106 (by decide) ?_ ?_
          · refine G_iconst (v := 0) dX10_saves_113 (by decide) ?_
            refine G_istore (lv' := [(4, .int 0), (0, .ref (ad X 0)), (1, .int x1), (2, .int x2), (3, .int x3), (5, .int x5)]) dX10_saves_114 (by decide) rfl ?_
            refine G_iinc (v := x5 + 1) (lv' := [(5, .int (x5 + 1)), (4, .int 0), (0, .ref (ad X 0)), (1, .int x1), (2, .int x2), (3, .int x3)]) 5 dX10_saves_116 rfl rfl (by decide) rfl ?_
            refine G_goto (tgt := 69) dX10_saves_119 (by decide) ?_
            exact G_sub [2, 3, 4, 5, 1, 0] rfl (ih x1 x2 x3 (0 : Int32) (x5 + 1) M6)
          · refine G_iconst (v := 1) dX10_saves_109 (by decide) ?_
            refine G_goto (tgt := 114) dX10_saves_110 (by decide) ?_
            refine G_istore (lv' := [(4, .int 1), (0, .ref (ad X 0)), (1, .int x1), (2, .int x2), (3, .int x3), (5, .int x5)]) dX10_saves_114 (by decide) rfl ?_
            refine G_iinc (v := x5 + 1) (lv' := [(5, .int (x5 + 1)), (4, .int 1), (0, .ref (ad X 0)), (1, .int x1), (2, .int x2), (3, .int x3)]) 5 dX10_saves_116 rfl rfl (by decide) rfl ?_
            refine G_goto (tgt := 69) dX10_saves_119 (by decide) ?_
            exact G_sub [2, 3, 4, 5, 1, 0] rfl (ih x1 x2 x3 (1 : Int32) (x5 + 1) M6)
def f_X10_saves_36 (k28 : Int32 → Int32 → gM → Option (Unit × gM)) : Nat → Int32 → Int32 → Int32 → gM → Option (Unit × gM)
  | 0, _, _, _, _ => none
  | n + 1, x1, x2, x3, M => (if (2079 : Int32) ≤ x3 then (k28 x1 x2 M) else (g_ck x3 2079 (if (M.1 55 (tn x3)) = 0 then (f_X10_saves_36 k28 n x1 x2 (x3 + 1) M) else (g_b (f_X10_isOver x3 M) (fun r2 M1 => (if r2 then (f_X10_saves_36 k28 n x1 x2 (x3 + 1) M1) else (f_X10_saves_69 (f_X10_saves_36 k28 n) FU x1 x2 x3 (0 : Int32) (0 : Int32) M1)))))))
set_option maxRecDepth 100000 in
set_option maxHeartbeats 4000000 in
theorem o_X10_saves_36 {X : gX} {k28 : Int32 → Int32 → gM → Option (Unit × gM)} (hk28 : ∀ (x1 : Int32) (x2 : Int32) (M : gM), G Y2 jX10_saves X (g_fin g_ev) 28 [(0, .ref (ad X 0)), (1, .int x1), (2, .int x2)] [] M (k28 x1 x2 M)) : ∀ (n : Nat) (x1 : Int32) (x2 : Int32) (x3 : Int32) (M : gM), G Y2 jX10_saves X (g_fin g_ev) 36 [(0, .ref (ad X 0)), (1, .int x1), (2, .int x2), (3, .int x3)] [] M (f_X10_saves_36 k28 n x1 x2 x3 M) := by
  intro n
  induction n with
  | zero => intro x1 x2 x3 M; exact G_none
  | succ n ih =>
    intro x1 x2 x3 M
    rw [f_X10_saves_36]
    refine G_iload_n 3 dX10_saves_36 rfl rfl ?_
    refine G_sipush (v := 2079) dX10_saves_37 (by decide) ?_
    refine G_icmp_ge (tgt := 145) dX10_saves_40 (by decide) ?_ ?_
    · refine G_goto (tgt := 28) dX10_saves_145 (by decide) ?_
      exact G_sub [0, 1, 2] rfl (hk28 x1 x2 M)
    · refine G_aload_n 0 dX10_saves_43 rfl rfl ?_
      refine G_get 85 clX10 (y2_0) fl_X10_182 dX10_saves_44 (by decide) rfl rfl ?_
      refine G_iload_n 3 dX10_saves_47 rfl rfl ?_
      refine G_zald (y2_55) dX10_saves_48 ?_
      refine G_if_eq (tgt := 139) dX10_saves_49 (by decide) ?_ ?_
      · refine G_iinc (v := x3 + 1) (lv' := [(3, .int (x3 + 1)), (0, .ref (ad X 0)), (1, .int x1), (2, .int x2)]) 3 dX10_saves_139 rfl rfl (by decide) rfl ?_
        refine G_goto (tgt := 36) dX10_saves_142 (by decide) ?_
        exact G_sub [1, 2, 3, 0] rfl (ih x1 x2 (x3 + 1) M)
      · refine G_aload_n 0 dX10_saves_52 rfl rfl ?_
        refine G_iload_n 3 dX10_saves_53 rfl rfl ?_
        refine G_cVb (As := [.int x3]) (rest := []) (ok_X10_isOver x3 M) rfl (y2_0) rfl mv_X10_460 dX10_saves_54 rfl rfl (Nat.le_of_ble_eq_true rfl) (g_fitN (by decide) (by decide)) (fun r2 M1 => ?_)
        refine G_ifB_eq (tgt := 63) dX10_saves_57 (by decide) ?_ ?_
        · refine G_iconst (v := 0) dX10_saves_63 (by decide) ?_
          refine G_istore (lv' := [(4, .int 0), (0, .ref (ad X 0)), (1, .int x1), (2, .int x2), (3, .int x3)]) dX10_saves_64 (by decide) rfl ?_
          refine G_iconst (v := 0) dX10_saves_66 (by decide) ?_
          refine G_istore (lv' := [(5, .int 0), (4, .int 0), (0, .ref (ad X 0)), (1, .int x1), (2, .int x2), (3, .int x3)]) dX10_saves_67 (by decide) rfl ?_
          exact G_sub [2, 3, 4, 5, 1, 0] rfl (o_X10_saves_69 ih FU x1 x2 x3 (0 : Int32) (0 : Int32) M1)
        · refine G_goto (tgt := 139) dX10_saves_60 (by decide) ?_
          refine G_iinc (v := x3 + 1) (lv' := [(3, .int (x3 + 1)), (0, .ref (ad X 0)), (1, .int x1), (2, .int x2)]) 3 dX10_saves_139 rfl rfl (by decide) rfl ?_
          refine G_goto (tgt := 36) dX10_saves_142 (by decide) ?_
          exact G_sub [1, 2, 3, 0] rfl (ih x1 x2 (x3 + 1) M1)
def f_X10_saves_28 : Nat → Int32 → Int32 → gM → Option (Unit × gM)
  | 0, _, _, _ => none
  | n + 1, x1, x2, M => (if x2 = 0 then (some ((), M)) else (f_X10_saves_36 (f_X10_saves_28 n) FU x1 (0 : Int32) (0 : Int32) M))
set_option maxRecDepth 100000 in
set_option maxHeartbeats 4000000 in
theorem o_X10_saves_28 {X : gX} : ∀ (n : Nat) (x1 : Int32) (x2 : Int32) (M : gM), G Y2 jX10_saves X (g_fin g_ev) 28 [(0, .ref (ad X 0)), (1, .int x1), (2, .int x2)] [] M (f_X10_saves_28 n x1 x2 M) := by
  intro n
  induction n with
  | zero => intro x1 x2 M; exact G_none
  | succ n ih =>
    intro x1 x2 M
    rw [f_X10_saves_28]
    refine G_iload_n 2 dX10_saves_28 rfl rfl ?_
    refine G_if_eq (tgt := 148) dX10_saves_29 (by decide) ?_ ?_
    · exact G_vret rfl dX10_saves_148
    · refine G_iconst (v := 0) dX10_saves_32 (by decide) ?_
      refine G_istore_n (lv' := [(2, .int 0), (0, .ref (ad X 0)), (1, .int x1)]) dX10_saves_33 rfl (by decide) rfl ?_
      refine G_iconst (v := 0) dX10_saves_34 (by decide) ?_
      refine G_istore_n (lv' := [(3, .int 0), (2, .int 0), (0, .ref (ad X 0)), (1, .int x1)]) dX10_saves_35 rfl (by decide) rfl ?_
      exact G_sub [2, 3, 1, 0] rfl (o_X10_saves_36 ih FU x1 (0 : Int32) (0 : Int32) M)
def f_X10_saves_2 : Nat → Int32 → Int32 → gM → Option (Unit × gM)
  | 0, _, _, _ => none
  | n + 1, x1, x2, M => (if (2079 : Int32) ≤ x2 then (f_X10_saves_28 FU x1 (1 : Int32) M) else (g_b (f_X10_isState x2 M) (fun r9 M8 => (g_ck x2 2079 (g_m (sI M8 55 (tn x2) (zb (b2i r9))) (fun M10 => (f_X10_saves_2 n x1 (x2 + 1) M10)))))))
set_option maxRecDepth 100000 in
set_option maxHeartbeats 4000000 in
theorem o_X10_saves_2 {X : gX} : ∀ (n : Nat) (x1 : Int32) (x2 : Int32) (M : gM), G Y2 jX10_saves X (g_fin g_ev) 2 [(0, .ref (ad X 0)), (1, .int x1), (2, .int x2)] [] M (f_X10_saves_2 n x1 x2 M) := by
  intro n
  induction n with
  | zero => intro x1 x2 M; exact G_none
  | succ n ih =>
    intro x1 x2 M
    rw [f_X10_saves_2]
    refine G_iload_n 2 dX10_saves_2 rfl rfl ?_
    refine G_sipush (v := 2079) dX10_saves_3 (by decide) ?_
    refine G_icmp_ge (tgt := 26) dX10_saves_6 (by decide) ?_ ?_
    · refine G_iconst (v := 1) dX10_saves_26 (by decide) ?_
      refine G_istore_n (lv' := [(2, .int 1), (0, .ref (ad X 0)), (1, .int x1)]) dX10_saves_27 rfl (by decide) rfl ?_
      exact G_sub [1, 2, 0] rfl (o_X10_saves_28 FU x1 (1 : Int32) M)
    · refine G_aload_n 0 dX10_saves_9 rfl rfl ?_
      refine G_get 85 clX10 (y2_0) fl_X10_182 dX10_saves_10 (by decide) rfl rfl ?_
      refine G_iload_n 2 dX10_saves_13 rfl rfl ?_
      refine G_aload_n 0 dX10_saves_14 rfl rfl ?_
      refine G_iload_n 2 dX10_saves_15 rfl rfl ?_
      refine G_cVb (As := [.int x2]) (rest := [.int x2, .ref (ad X 55)]) (ok_X10_isState x2 M) rfl (y2_0) rfl mv_X10_476 dX10_saves_16 rfl rfl (Nat.le_of_ble_eq_true rfl) (g_fitN (by decide) (by decide)) (fun r9 M8 => ?_)
      refine G_zast (y2_55) dX10_saves_19 ?_
      refine G_m (fun M10 => ?_)
      refine G_iinc (v := x2 + 1) (lv' := [(2, .int (x2 + 1)), (0, .ref (ad X 0)), (1, .int x1)]) 2 dX10_saves_20 rfl rfl (by decide) rfl ?_
      refine G_goto (tgt := 2) dX10_saves_23 (by decide) ?_
      exact G_sub [1, 2, 0] rfl (ih x1 (x2 + 1) M10)
def f_X10_saves (a1 : Int32) (M : gM) : Option (Unit × gM) := (f_X10_saves_2 FU a1 (0 : Int32) M)
set_option maxRecDepth 100000 in
set_option maxHeartbeats 4000000 in
theorem ok_X10_saves (a1 : Int32) (M : gM) : g_met Y2 yX10_saves jX10_saves g_ev (fun Z => [.ref (Z.2.1 0), .int a1]) M (f_X10_saves a1 M) := by
  refine g_enter (fun Z => [(0, .ref (Z.2.1 0)), (1, .int a1)]) (by decide) rfl (fun Z => Nat.le_of_ble_eq_true rfl) (fun Z => rfl) (fun X => ?_)
  rw [f_X10_saves]
  refine G_iconst (v := 0) dX10_saves_0 (by decide) ?_
  refine G_istore_n (lv' := [(2, .int 0), (0, .ref (ad X 0)), (1, .int a1)]) dX10_saves_1 rfl (by decide) rfl ?_
  exact G_sub [1, 2, 0] rfl (o_X10_saves_2 FU a1 (0 : Int32) M)
-- X10_borne
def f_X10_borne_64 (k51 : Int32 → Int32 → gM → Option (Int32 × gM)) : Nat → Int32 → Int32 → Int32 → gM → Option (Int32 × gM)
  | 0, _, _, _, _ => none
  | n + 1, x1, x2, x3, M => (if (2079 : Int32) ≤ x3 then (k51 x1 (x2 + 1) M) else (g_ck x3 2079 (if (M.1 55 (tn x3)) = 0 then (f_X10_borne_64 k51 n x1 x2 (x3 + 1) M) else (g_ck x3 2079 (g_m (sI M 53 (tn x3) x2) (fun M8 => (f_X10_borne_64 k51 n x1 x2 (x3 + 1) M8)))))))
set_option maxRecDepth 100000 in
set_option maxHeartbeats 4000000 in
theorem o_X10_borne_64 {X : gX} {k51 : Int32 → Int32 → gM → Option (Int32 × gM)} (hk51 : ∀ (x1 : Int32) (x2 : Int32) (M : gM), G Y2 jX10_borne X (g_fin g_ei) 51 [(0, .ref (ad X 0)), (1, .int x1), (2, .int x2)] [] M (k51 x1 x2 M)) : ∀ (n : Nat) (x1 : Int32) (x2 : Int32) (x3 : Int32) (M : gM), G Y2 jX10_borne X (g_fin g_ei) 64 [(0, .ref (ad X 0)), (1, .int x1), (2, .int x2), (3, .int x3)] [] M (f_X10_borne_64 k51 n x1 x2 x3 M) := by
  intro n
  induction n with
  | zero => intro x1 x2 x3 M; exact G_none
  | succ n ih =>
    intro x1 x2 x3 M
    rw [f_X10_borne_64]
    refine G_iload_n 3 dX10_borne_64 rfl rfl ?_
    refine G_sipush (v := 2079) dX10_borne_65 (by decide) ?_
    refine G_icmp_ge (tgt := 93) dX10_borne_68 (by decide) ?_ ?_
    · refine G_iinc (v := x2 + 1) (lv' := [(2, .int (x2 + 1)), (0, .ref (ad X 0)), (1, .int x1), (3, .int x3)]) 2 dX10_borne_93 rfl rfl (by decide) rfl ?_
      refine G_goto (tgt := 51) dX10_borne_96 (by decide) ?_
      exact G_sub [1, 2, 0] rfl (hk51 x1 (x2 + 1) M)
    · refine G_aload_n 0 dX10_borne_71 rfl rfl ?_
      refine G_get 85 clX10 (y2_0) fl_X10_182 dX10_borne_72 (by decide) rfl rfl ?_
      refine G_iload_n 3 dX10_borne_75 rfl rfl ?_
      refine G_zald (y2_55) dX10_borne_76 ?_
      refine G_if_eq (tgt := 87) dX10_borne_77 (by decide) ?_ ?_
      · refine G_iinc (v := x3 + 1) (lv' := [(3, .int (x3 + 1)), (0, .ref (ad X 0)), (1, .int x1), (2, .int x2)]) 3 dX10_borne_87 rfl rfl (by decide) rfl ?_
        refine G_goto (tgt := 64) dX10_borne_90 (by decide) ?_
        exact G_sub [1, 2, 3, 0] rfl (ih x1 x2 (x3 + 1) M)
      · refine G_aload_n 0 dX10_borne_80 rfl rfl ?_
        refine G_get 83 clX10 (y2_0) fl_X10_176 dX10_borne_81 (by decide) rfl rfl ?_
        refine G_iload_n 3 dX10_borne_84 rfl rfl ?_
        refine G_iload_n 2 dX10_borne_85 rfl rfl ?_
        refine G_iast (y2_53) dX10_borne_86 ?_
        refine G_m (fun M8 => ?_)
        refine G_iinc (v := x3 + 1) (lv' := [(3, .int (x3 + 1)), (0, .ref (ad X 0)), (1, .int x1), (2, .int x2)]) 3 dX10_borne_87 rfl rfl (by decide) rfl ?_
        refine G_goto (tgt := 64) dX10_borne_90 (by decide) ?_
        exact G_sub [1, 2, 3, 0] rfl (ih x1 x2 (x3 + 1) M8)
def f_X10_borne_51 : Nat → Int32 → Int32 → gM → Option (Int32 × gM)
  | 0, _, _, _ => none
  | n + 1, x1, x2, M => (if (7 : Int32) ≤ x2 then (g_ck x1 2079 (some ((M.1 53 (tn x1)), M))) else (g_b (f_X10_saves x2 M) (fun r7 M6 => (f_X10_borne_64 (f_X10_borne_51 n) FU x1 x2 (0 : Int32) M6))))
set_option maxRecDepth 100000 in
set_option maxHeartbeats 4000000 in
theorem o_X10_borne_51 {X : gX} : ∀ (n : Nat) (x1 : Int32) (x2 : Int32) (M : gM), G Y2 jX10_borne X (g_fin g_ei) 51 [(0, .ref (ad X 0)), (1, .int x1), (2, .int x2)] [] M (f_X10_borne_51 n x1 x2 M) := by
  intro n
  induction n with
  | zero => intro x1 x2 M; exact G_none
  | succ n ih =>
    intro x1 x2 M
    rw [f_X10_borne_51]
    refine G_iload_n 2 dX10_borne_51 rfl rfl ?_
    refine G_bipush (v := 7) dX10_borne_52 (by decide) ?_
    refine G_icmp_ge (tgt := 99) dX10_borne_54 (by decide) ?_ ?_
    · refine G_aload_n 0 dX10_borne_99 rfl rfl ?_
      refine G_get 83 clX10 (y2_0) fl_X10_176 dX10_borne_100 (by decide) rfl rfl ?_
      refine G_iload_n 1 dX10_borne_103 rfl rfl ?_
      refine G_iald (y2_53) dX10_borne_104 ?_
      exact G_iret rfl dX10_borne_105
    · refine G_aload_n 0 dX10_borne_57 rfl rfl ?_
      refine G_iload_n 2 dX10_borne_58 rfl rfl ?_
      refine G_cVv (As := [.int x2]) (rest := []) (ok_X10_saves x2 M) rfl (y2_0) rfl mv_X10_537 dX10_borne_59 rfl rfl (Nat.le_of_ble_eq_true rfl) (g_fitN (by decide) (by decide)) (fun r7 M6 => ?_)
      refine G_iconst (v := 0) dX10_borne_62 (by decide) ?_
      refine G_istore_n (lv' := [(3, .int 0), (0, .ref (ad X 0)), (1, .int x1), (2, .int x2)]) dX10_borne_63 rfl (by decide) rfl ?_
      exact G_sub [1, 2, 3, 0] rfl (o_X10_borne_64 ih FU x1 x2 (0 : Int32) M6)
def f_X10_borne_28 : Nat → Int32 → Int32 → gM → Option (Int32 × gM)
  | 0, _, _, _ => none
  | n + 1, x1, x2, M => (if (2079 : Int32) ≤ x2 then (f_X10_borne_51 FU x1 (0 : Int32) M) else (g_ck x2 2079 (g_m (sI M 53 (tn x2) ((-2) : Int32)) (fun M9 => (f_X10_borne_28 n x1 (x2 + 1) M9)))))
set_option maxRecDepth 100000 in
set_option maxHeartbeats 4000000 in
theorem o_X10_borne_28 {X : gX} : ∀ (n : Nat) (x1 : Int32) (x2 : Int32) (M : gM), G Y2 jX10_borne X (g_fin g_ei) 28 [(0, .ref (ad X 0)), (1, .int x1), (2, .int x2)] [] M (f_X10_borne_28 n x1 x2 M) := by
  intro n
  induction n with
  | zero => intro x1 x2 M; exact G_none
  | succ n ih =>
    intro x1 x2 M
    rw [f_X10_borne_28]
    refine G_iload_n 2 dX10_borne_28 rfl rfl ?_
    refine G_sipush (v := 2079) dX10_borne_29 (by decide) ?_
    refine G_icmp_ge (tgt := 49) dX10_borne_32 (by decide) ?_ ?_
    · refine G_iconst (v := 0) dX10_borne_49 (by decide) ?_
      refine G_istore_n (lv' := [(2, .int 0), (0, .ref (ad X 0)), (1, .int x1)]) dX10_borne_50 rfl (by decide) rfl ?_
      exact G_sub [1, 2, 0] rfl (o_X10_borne_51 FU x1 (0 : Int32) M)
    · refine G_aload_n 0 dX10_borne_35 rfl rfl ?_
      refine G_get 83 clX10 (y2_0) fl_X10_176 dX10_borne_36 (by decide) rfl rfl ?_
      refine G_iload_n 2 dX10_borne_39 rfl rfl ?_
      refine G_bipush (v := (-2)) dX10_borne_40 (by decide) ?_
      refine G_iast (y2_53) dX10_borne_42 ?_
      refine G_m (fun M9 => ?_)
      refine G_iinc (v := x2 + 1) (lv' := [(2, .int (x2 + 1)), (0, .ref (ad X 0)), (1, .int x1)]) 2 dX10_borne_43 rfl rfl (by decide) rfl ?_
      refine G_goto (tgt := 28) dX10_borne_46 (by decide) ?_
      exact G_sub [1, 2, 0] rfl (ih x1 (x2 + 1) M9)
def f_X10_borne (a1 : Int32) (M : gM) : Option (Int32 × gM) := (g_b (f_X10_isState a1 M) (fun r2 M1 => (if r2 then (g_b (f_X10_lay M1) (fun r4 M3 => (if (M3.1 0 74) = 0 then (g_m (sI M3 0 74 (1 : Int32)) (fun M5 => (f_X10_borne_28 FU a1 (0 : Int32) M5))) else (g_ck a1 2079 (some ((M3.1 53 (tn a1)), M3)))))) else (some (((-1) : Int32), M1)))))
set_option maxRecDepth 100000 in
set_option maxHeartbeats 4000000 in
theorem ok_X10_borne (a1 : Int32) (M : gM) : g_met Y2 yX10_borne jX10_borne g_ei (fun Z => [.ref (Z.2.1 0), .int a1]) M (f_X10_borne a1 M) := by
  refine g_enter (fun Z => [(0, .ref (Z.2.1 0)), (1, .int a1)]) (by decide) rfl (fun Z => Nat.le_of_ble_eq_true rfl) (fun Z => rfl) (fun X => ?_)
  rw [f_X10_borne]
  refine G_aload_n 0 dX10_borne_0 rfl rfl ?_
  refine G_iload_n 1 dX10_borne_1 rfl rfl ?_
  refine G_cVb (As := [.int a1]) (rest := []) (ok_X10_isState a1 M) rfl (y2_0) rfl mv_X10_476 dX10_borne_2 rfl rfl (Nat.le_of_ble_eq_true rfl) (g_fitN (by decide) (by decide)) (fun r2 M1 => ?_)
  refine G_ifB_ne (tgt := 10) dX10_borne_5 (by decide) ?_ ?_
  · refine G_aload_n 0 dX10_borne_10 rfl rfl ?_
    refine G_cVv (As := []) (rest := []) (ok_X10_lay M1) rfl (y2_0) rfl mv_X10_516 dX10_borne_11 rfl rfl (Nat.le_of_ble_eq_true rfl) (g_fitN (by decide) (by decide)) (fun r4 M3 => ?_)
    refine G_aload_n 0 dX10_borne_14 rfl rfl ?_
    refine G_get 74 clX10 (y2_0) fl_X10_492 dX10_borne_15 (by decide) rfl rfl ?_
    refine G_if_ne (tgt := 99) dX10_borne_18 (by decide) ?_ ?_
    · refine G_aload_n 0 dX10_borne_99 rfl rfl ?_
      refine G_get 83 clX10 (y2_0) fl_X10_176 dX10_borne_100 (by decide) rfl rfl ?_
      refine G_iload_n 1 dX10_borne_103 rfl rfl ?_
      refine G_iald (y2_53) dX10_borne_104 ?_
      exact G_iret rfl dX10_borne_105
    · refine G_aload_n 0 dX10_borne_21 rfl rfl ?_
      refine G_iconst (v := 1) dX10_borne_22 (by decide) ?_
      refine G_putZ 74 clX10 (y2_0) fl_X10_492 dX10_borne_23 (by decide) rfl rfl rfl ⟨rfl, rfl⟩ ?_
      refine G_m (fun M5 => ?_)
      refine G_iconst (v := 0) dX10_borne_26 (by decide) ?_
      refine G_istore_n (lv' := [(2, .int 0), (0, .ref (ad X 0)), (1, .int a1)]) dX10_borne_27 rfl (by decide) rfl ?_
      exact G_sub [1, 2, 0] rfl (o_X10_borne_28 FU a1 (0 : Int32) M5)
  · refine G_iconst (v := (-1)) dX10_borne_8 (by decide) ?_
    exact G_iret rfl dX10_borne_9
-- X10_poles
def f_X10_poles_73 (k55 : Int32 → Int32 → gM → Option (Int32 × gM)) : Nat → Int32 → Int32 → Int32 → gM → Option (Int32 × gM)
  | 0, _, _, _, _ => none
  | n + 1, x1, x2, x3, M => (if (2079 : Int32) ≤ x3 then (g_m (sI M 0 47 ((M.1 0 47) - (1 : Int32))) (fun M12 => (k55 x1 x2 M12))) else (g_ck x3 2079 (if (M.1 55 (tn x3)) = 0 then (f_X10_poles_73 k55 n x1 x2 (x3 + 1) M) else (g_ck x3 2079 (g_m (sI M 54 (tn x3) (M.1 0 47)) (fun M13 => (f_X10_poles_73 k55 n x1 x2 (x3 + 1) M13)))))))
set_option maxRecDepth 100000 in
set_option maxHeartbeats 4000000 in
theorem o_X10_poles_73 {X : gX} {k55 : Int32 → Int32 → gM → Option (Int32 × gM)} (hk55 : ∀ (x1 : Int32) (x2 : Int32) (M : gM), G Y2 jX10_poles X (g_fin g_ei) 55 [(0, .ref (ad X 0)), (1, .int x1), (2, .int x2)] [] M (k55 x1 x2 M)) : ∀ (n : Nat) (x1 : Int32) (x2 : Int32) (x3 : Int32) (M : gM), G Y2 jX10_poles X (g_fin g_ei) 73 [(0, .ref (ad X 0)), (1, .int x1), (2, .int x2), (3, .int x3)] [] M (f_X10_poles_73 k55 n x1 x2 x3 M) := by
  intro n
  induction n with
  | zero => intro x1 x2 x3 M; exact G_none
  | succ n ih =>
    intro x1 x2 x3 M
    rw [f_X10_poles_73]
    refine G_iload_n 3 dX10_poles_73 rfl rfl ?_
    refine G_sipush (v := 2079) dX10_poles_74 (by decide) ?_
    refine G_icmp_ge (tgt := 105) dX10_poles_77 (by decide) ?_ ?_
    · refine G_aload_n 0 dX10_poles_105 rfl rfl ?_
      refine G_dup dX10_poles_106 rfl ?_
      refine G_get 47 clX10 (y2_0) fl_X10_127 dX10_poles_107 (by decide) rfl rfl ?_
      refine G_iconst (v := 1) dX10_poles_110 (by decide) ?_
      refine G_isub dX10_poles_111 ?_
      refine G_putI 47 clX10 (y2_0) fl_X10_127 dX10_poles_112 (by decide) rfl rfl rfl ?_
      refine G_m (fun M12 => ?_)
      refine G_goto (tgt := 55) dX10_poles_115 (by decide) ?_
      exact G_sub [0, 1, 2] rfl (hk55 x1 x2 M12)
    · refine G_aload_n 0 dX10_poles_80 rfl rfl ?_
      refine G_get 85 clX10 (y2_0) fl_X10_182 dX10_poles_81 (by decide) rfl rfl ?_
      refine G_iload_n 3 dX10_poles_84 rfl rfl ?_
      refine G_zald (y2_55) dX10_poles_85 ?_
      refine G_if_eq (tgt := 99) dX10_poles_86 (by decide) ?_ ?_
      · refine G_iinc (v := x3 + 1) (lv' := [(3, .int (x3 + 1)), (0, .ref (ad X 0)), (1, .int x1), (2, .int x2)]) 3 dX10_poles_99 rfl rfl (by decide) rfl ?_
        refine G_goto (tgt := 73) dX10_poles_102 (by decide) ?_
        exact G_sub [1, 2, 3, 0] rfl (ih x1 x2 (x3 + 1) M)
      · refine G_aload_n 0 dX10_poles_89 rfl rfl ?_
        refine G_get 84 clX10 (y2_0) fl_X10_179 dX10_poles_90 (by decide) rfl rfl ?_
        refine G_iload_n 3 dX10_poles_93 rfl rfl ?_
        refine G_aload_n 0 dX10_poles_94 rfl rfl ?_
        refine G_get 47 clX10 (y2_0) fl_X10_127 dX10_poles_95 (by decide) rfl rfl ?_
        refine G_iast (y2_54) dX10_poles_98 ?_
        refine G_m (fun M13 => ?_)
        refine G_iinc (v := x3 + 1) (lv' := [(3, .int (x3 + 1)), (0, .ref (ad X 0)), (1, .int x1), (2, .int x2)]) 3 dX10_poles_99 rfl rfl (by decide) rfl ?_
        refine G_goto (tgt := 73) dX10_poles_102 (by decide) ?_
        exact G_sub [1, 2, 3, 0] rfl (ih x1 x2 (x3 + 1) M13)
def f_X10_poles_55 : Nat → Int32 → Int32 → gM → Option (Int32 × gM)
  | 0, _, _, _ => none
  | n + 1, x1, x2, M => (if (M.1 0 47) ≤ 0 then (g_m (sI M 0 47 x2) (fun M6 => (g_m (sI M6 0 72 (0 : Int32)) (fun M7 => (g_ck x1 2079 (some ((M7.1 54 (tn x1)), M7))))))) else (g_b (f_X10_layAll M) (fun r9 M8 => (g_b (f_X10_saves (0 : Int32) M8) (fun r11 M10 => (f_X10_poles_73 (f_X10_poles_55 n) FU x1 x2 (0 : Int32) M10))))))
set_option maxRecDepth 100000 in
set_option maxHeartbeats 4000000 in
theorem o_X10_poles_55 {X : gX} : ∀ (n : Nat) (x1 : Int32) (x2 : Int32) (M : gM), G Y2 jX10_poles X (g_fin g_ei) 55 [(0, .ref (ad X 0)), (1, .int x1), (2, .int x2)] [] M (f_X10_poles_55 n x1 x2 M) := by
  intro n
  induction n with
  | zero => intro x1 x2 M; exact G_none
  | succ n ih =>
    intro x1 x2 M
    rw [f_X10_poles_55]
    refine G_aload_n 0 dX10_poles_55 rfl rfl ?_
    refine G_get 47 clX10 (y2_0) fl_X10_127 dX10_poles_56 (by decide) rfl rfl ?_
    refine G_if_le (tgt := 118) dX10_poles_59 (by decide) ?_ ?_
    · refine G_aload_n 0 dX10_poles_118 rfl rfl ?_
      refine G_iload_n 2 dX10_poles_119 rfl rfl ?_
      refine G_putI 47 clX10 (y2_0) fl_X10_127 dX10_poles_120 (by decide) rfl rfl rfl ?_
      refine G_m (fun M6 => ?_)
      refine G_aload_n 0 dX10_poles_123 rfl rfl ?_
      refine G_iconst (v := 0) dX10_poles_124 (by decide) ?_
      refine G_putZ 72 clX10 (y2_0) fl_X10_410 dX10_poles_125 (by decide) rfl rfl rfl ⟨rfl, rfl⟩ ?_
      refine G_m (fun M7 => ?_)
      refine G_aload_n 0 dX10_poles_128 rfl rfl ?_
      refine G_get 84 clX10 (y2_0) fl_X10_179 dX10_poles_129 (by decide) rfl rfl ?_
      refine G_iload_n 1 dX10_poles_132 rfl rfl ?_
      refine G_iald (y2_54) dX10_poles_133 ?_
      exact G_iret rfl dX10_poles_134
    · refine G_aload_n 0 dX10_poles_62 rfl rfl ?_
      refine G_cVv (As := []) (rest := []) (ok_X10_layAll M) rfl (y2_0) rfl mv_X10_501 dX10_poles_63 rfl rfl (Nat.le_of_ble_eq_true rfl) (g_fitN (by decide) (by decide)) (fun r9 M8 => ?_)
      refine G_aload_n 0 dX10_poles_66 rfl rfl ?_
      refine G_iconst (v := 0) dX10_poles_67 (by decide) ?_
      refine G_cVv (As := [.int 0]) (rest := []) (ok_X10_saves (0 : Int32) M8) rfl (y2_0) rfl mv_X10_537 dX10_poles_68 rfl rfl (Nat.le_of_ble_eq_true rfl) (g_fitN (by decide) (by decide)) (fun r11 M10 => ?_)
      refine G_iconst (v := 0) dX10_poles_71 (by decide) ?_
      refine G_istore_n (lv' := [(3, .int 0), (0, .ref (ad X 0)), (1, .int x1), (2, .int x2)]) dX10_poles_72 rfl (by decide) rfl ?_
      exact G_sub [1, 2, 3, 0] rfl (o_X10_poles_73 ih FU x1 x2 (0 : Int32) M10)
def f_X10_poles_29 : Nat → Int32 → Int32 → Int32 → gM → Option (Int32 × gM)
  | 0, _, _, _, _ => none
  | n + 1, x1, x2, x3, M => (if (2079 : Int32) ≤ x3 then (g_m (sI M 0 47 (4 : Int32)) (fun M5 => (f_X10_poles_55 FU x1 x2 M5))) else (g_ck x3 2079 (g_m (sI M 54 (tn x3) ((-2) : Int32)) (fun M14 => (f_X10_poles_29 n x1 x2 (x3 + 1) M14)))))
set_option maxRecDepth 100000 in
set_option maxHeartbeats 4000000 in
theorem o_X10_poles_29 {X : gX} : ∀ (n : Nat) (x1 : Int32) (x2 : Int32) (x3 : Int32) (M : gM), G Y2 jX10_poles X (g_fin g_ei) 29 [(0, .ref (ad X 0)), (1, .int x1), (2, .int x2), (3, .int x3)] [] M (f_X10_poles_29 n x1 x2 x3 M) := by
  intro n
  induction n with
  | zero => intro x1 x2 x3 M; exact G_none
  | succ n ih =>
    intro x1 x2 x3 M
    rw [f_X10_poles_29]
    refine G_iload_n 3 dX10_poles_29 rfl rfl ?_
    refine G_sipush (v := 2079) dX10_poles_30 (by decide) ?_
    refine G_icmp_ge (tgt := 50) dX10_poles_33 (by decide) ?_ ?_
    · refine G_aload_n 0 dX10_poles_50 rfl rfl ?_
      refine G_iconst (v := 4) dX10_poles_51 (by decide) ?_
      refine G_putI 47 clX10 (y2_0) fl_X10_127 dX10_poles_52 (by decide) rfl rfl rfl ?_
      refine G_m (fun M5 => ?_)
      exact G_sub [0, 1, 2] rfl (o_X10_poles_55 FU x1 x2 M5)
    · refine G_aload_n 0 dX10_poles_36 rfl rfl ?_
      refine G_get 84 clX10 (y2_0) fl_X10_179 dX10_poles_37 (by decide) rfl rfl ?_
      refine G_iload_n 3 dX10_poles_40 rfl rfl ?_
      refine G_bipush (v := (-2)) dX10_poles_41 (by decide) ?_
      refine G_iast (y2_54) dX10_poles_43 ?_
      refine G_m (fun M14 => ?_)
      refine G_iinc (v := x3 + 1) (lv' := [(3, .int (x3 + 1)), (0, .ref (ad X 0)), (1, .int x1), (2, .int x2)]) 3 dX10_poles_44 rfl rfl (by decide) rfl ?_
      refine G_goto (tgt := 29) dX10_poles_47 (by decide) ?_
      exact G_sub [1, 2, 3, 0] rfl (ih x1 x2 (x3 + 1) M14)
def f_X10_poles (a1 : Int32) (M : gM) : Option (Int32 × gM) := (g_b (f_X10_isState a1 M) (fun r2 M1 => (if r2 then (if (M1.1 0 73) = 0 then (g_m (sI M1 0 73 (1 : Int32)) (fun M3 => (g_v (M3.1 0 47) (fun y4 => (f_X10_poles_29 FU a1 y4 (0 : Int32) M3))))) else (g_ck a1 2079 (some ((M1.1 54 (tn a1)), M1)))) else (some (((-1) : Int32), M1)))))
set_option maxRecDepth 100000 in
set_option maxHeartbeats 4000000 in
theorem ok_X10_poles (a1 : Int32) (M : gM) : g_met Y2 yX10_poles jX10_poles g_ei (fun Z => [.ref (Z.2.1 0), .int a1]) M (f_X10_poles a1 M) := by
  refine g_enter (fun Z => [(0, .ref (Z.2.1 0)), (1, .int a1)]) (by decide) rfl (fun Z => Nat.le_of_ble_eq_true rfl) (fun Z => rfl) (fun X => ?_)
  rw [f_X10_poles]
  refine G_aload_n 0 dX10_poles_0 rfl rfl ?_
  refine G_iload_n 1 dX10_poles_1 rfl rfl ?_
  refine G_cVb (As := [.int a1]) (rest := []) (ok_X10_isState a1 M) rfl (y2_0) rfl mv_X10_476 dX10_poles_2 rfl rfl (Nat.le_of_ble_eq_true rfl) (g_fitN (by decide) (by decide)) (fun r2 M1 => ?_)
  refine G_ifB_ne (tgt := 10) dX10_poles_5 (by decide) ?_ ?_
  · refine G_aload_n 0 dX10_poles_10 rfl rfl ?_
    refine G_get 73 clX10 (y2_0) fl_X10_413 dX10_poles_11 (by decide) rfl rfl ?_
    refine G_if_ne (tgt := 128) dX10_poles_14 (by decide) ?_ ?_
    · refine G_aload_n 0 dX10_poles_128 rfl rfl ?_
      refine G_get 84 clX10 (y2_0) fl_X10_179 dX10_poles_129 (by decide) rfl rfl ?_
      refine G_iload_n 1 dX10_poles_132 rfl rfl ?_
      refine G_iald (y2_54) dX10_poles_133 ?_
      exact G_iret rfl dX10_poles_134
    · refine G_aload_n 0 dX10_poles_17 rfl rfl ?_
      refine G_iconst (v := 1) dX10_poles_18 (by decide) ?_
      refine G_putZ 73 clX10 (y2_0) fl_X10_413 dX10_poles_19 (by decide) rfl rfl rfl ⟨rfl, rfl⟩ ?_
      refine G_m (fun M3 => ?_)
      refine G_aload_n 0 dX10_poles_22 rfl rfl ?_
      refine G_get 47 clX10 (y2_0) fl_X10_127 dX10_poles_23 (by decide) rfl rfl ?_
      refine G_vi (fun y4 => ?_)
      refine G_istore_n (lv' := [(2, .int y4), (0, .ref (ad X 0)), (1, .int a1)]) dX10_poles_26 rfl (by decide) rfl ?_
      refine G_iconst (v := 0) dX10_poles_27 (by decide) ?_
      refine G_istore_n (lv' := [(3, .int 0), (2, .int y4), (0, .ref (ad X 0)), (1, .int a1)]) dX10_poles_28 rfl (by decide) rfl ?_
      exact G_sub [2, 3, 1, 0] rfl (o_X10_poles_29 FU a1 y4 (0 : Int32) M3)
  · refine G_iconst (v := (-1)) dX10_poles_8 (by decide) ?_
    exact G_iret rfl dX10_poles_9
-- X10_forecast
def f_X10_forecast (a1 : Int32) (M : gM) : Option (Int32 × gM) := (if (M.1 0 48) = (24 : Int32) then (some (((-1) : Int32), M)) else (if a1 < ((-12) : Int32) then (some (((-1) : Int32), M)) else (if a1 ≤ (12 : Int32) then (g_ck (M.1 0 48) 24 (g_m (sI M 38 (tn (M.1 0 48)) a1) (fun M1 => (g_m (sI M1 0 48 ((M1.1 0 48) + (1 : Int32))) (fun M2 => (some ((M2.1 0 48), M2))))))) else (some (((-1) : Int32), M)))))
set_option maxRecDepth 100000 in
set_option maxHeartbeats 4000000 in
theorem ok_X10_forecast (a1 : Int32) (M : gM) : g_met Y2 yX10_forecast jX10_forecast g_ei (fun Z => [.ref (Z.2.1 0), .int a1]) M (f_X10_forecast a1 M) := by
  refine g_enter (fun Z => [(0, .ref (Z.2.1 0)), (1, .int a1)]) (by decide) rfl (fun Z => Nat.le_of_ble_eq_true rfl) (fun Z => rfl) (fun X => ?_)
  rw [f_X10_forecast]
  refine G_aload_n 0 dX10_forecast_0 rfl rfl ?_
  refine G_get 48 clX10 (y2_0) fl_X10_394 dX10_forecast_1 (by decide) rfl rfl ?_
  refine G_bipush (v := 24) dX10_forecast_4 (by decide) ?_
  refine G_icmp_eq (tgt := 21) dX10_forecast_6 (by decide) ?_ ?_
  · refine G_iconst (v := (-1)) dX10_forecast_21 (by decide) ?_
    exact G_iret rfl dX10_forecast_22
  · refine G_iload_n 1 dX10_forecast_9 rfl rfl ?_
    refine G_bipush (v := (-12)) dX10_forecast_10 (by decide) ?_
    refine G_icmp_lt (tgt := 21) dX10_forecast_12 (by decide) ?_ ?_
    · refine G_iconst (v := (-1)) dX10_forecast_21 (by decide) ?_
      exact G_iret rfl dX10_forecast_22
    · refine G_iload_n 1 dX10_forecast_15 rfl rfl ?_
      refine G_bipush (v := 12) dX10_forecast_16 (by decide) ?_
      refine G_icmp_le (tgt := 23) dX10_forecast_18 (by decide) ?_ ?_
      · refine G_aload_n 0 dX10_forecast_23 rfl rfl ?_
        refine G_get 49 clX10 (y2_0) fl_X10_130 dX10_forecast_24 (by decide) rfl rfl ?_
        refine G_aload_n 0 dX10_forecast_27 rfl rfl ?_
        refine G_get 48 clX10 (y2_0) fl_X10_394 dX10_forecast_28 (by decide) rfl rfl ?_
        refine G_iload_n 1 dX10_forecast_31 rfl rfl ?_
        refine G_iast (y2_38) dX10_forecast_32 ?_
        refine G_m (fun M1 => ?_)
        refine G_aload_n 0 dX10_forecast_33 rfl rfl ?_
        refine G_dup dX10_forecast_34 rfl ?_
        refine G_get 48 clX10 (y2_0) fl_X10_394 dX10_forecast_35 (by decide) rfl rfl ?_
        refine G_iconst (v := 1) dX10_forecast_38 (by decide) ?_
        refine G_iadd dX10_forecast_39 ?_
        refine G_putI 48 clX10 (y2_0) fl_X10_394 dX10_forecast_40 (by decide) rfl rfl rfl ?_
        refine G_m (fun M2 => ?_)
        refine G_aload_n 0 dX10_forecast_43 rfl rfl ?_
        refine G_get 48 clX10 (y2_0) fl_X10_394 dX10_forecast_44 (by decide) rfl rfl ?_
        exact G_iret rfl dX10_forecast_47
      · refine G_iconst (v := (-1)) dX10_forecast_21 (by decide) ?_
        exact G_iret rfl dX10_forecast_22
-- X10_clear
def f_X10_clear (M : gM) : Option (Unit × gM) := (g_m (sI M 0 48 (0 : Int32)) (fun M1 => (some ((), M1))))
set_option maxRecDepth 100000 in
set_option maxHeartbeats 4000000 in
theorem ok_X10_clear (M : gM) : g_met Y2 yX10_clear jX10_clear g_ev (fun Z => [.ref (Z.2.1 0)]) M (f_X10_clear M) := by
  refine g_enter (fun Z => [(0, .ref (Z.2.1 0))]) (by decide) rfl (fun Z => Nat.le_of_ble_eq_true rfl) (fun Z => rfl) (fun X => ?_)
  rw [f_X10_clear]
  refine G_aload_n 0 dX10_clear_0 rfl rfl ?_
  refine G_iconst (v := 0) dX10_clear_1 (by decide) ?_
  refine G_putI 48 clX10 (y2_0) fl_X10_394 dX10_clear_2 (by decide) rfl rfl rfl ?_
  refine G_m (fun M1 => ?_)
  exact G_vret rfl dX10_clear_5
-- X10_knownOf
def f_X10_knownOf_349 (k289 : Int32 → Int32 → Int32 → Int32 → gM → Option (Int32 × gM)) (x2 : Int32) (x3 : Int32) (x4 : Int32) (x5 : Int32) (s0 : Int32) (M : gM) : Option (Int32 × gM) := (if s0 = ((-2) : Int32) then (k289 x2 x3 x4 (x5 + 1) M) else (g_ck ((((2079 : Int32) * x3) + (2079 : Int32)) + s0) 51975 (if (M.1 60 (tn ((((2079 : Int32) * x3) + (2079 : Int32)) + s0))) = 0 then (k289 x2 x3 x4 (x5 + 1) M) else (g_ck (((2079 : Int32) * x3) + x4) 51975 (g_m (sI M 60 (tn (((2079 : Int32) * x3) + x4)) (zb (1 : Int32))) (fun M9 => (k289 x2 x3 x4 (x5 + 1) M9)))))))
set_option maxRecDepth 100000 in
set_option maxHeartbeats 4000000 in
theorem o_X10_knownOf_349 {X : gX} {k289 : Int32 → Int32 → Int32 → Int32 → gM → Option (Int32 × gM)} (hk289 : ∀ (x2 : Int32) (x3 : Int32) (x4 : Int32) (x5 : Int32) (M : gM), G Y2 jX10_knownOf X (g_fin g_ei) 289 [(0, .ref (ad X 0)), (2, .int x2), (3, .int x3), (4, .int x4), (5, .int x5)] [] M (k289 x2 x3 x4 x5 M)) (x2 : Int32) (x3 : Int32) (x4 : Int32) (x5 : Int32) (s0 : Int32) (M : gM) : G Y2 jX10_knownOf X (g_fin g_ei) 349 [(0, .ref (ad X 0)), (2, .int x2), (3, .int x3), (4, .int x4), (5, .int x5)] [.int s0] M (f_X10_knownOf_349 k289 x2 x3 x4 x5 s0 M) := by
  rw [f_X10_knownOf_349]
  refine G_istore (lv' := [(6, .int s0), (0, .ref (ad X 0)), (2, .int x2), (3, .int x3), (4, .int x4), (5, .int x5)]) dX10_knownOf_349 (by decide) rfl ?_
  refine G_iload 0 dX10_knownOf_351 rfl ?_
  refine G_bipush (v := (-2)) dX10_knownOf_353 (by decide) ?_
  refine G_icmp_eq (tgt := 392) dX10_knownOf_355 (by decide) ?_ ?_
  · refine G_iinc (v := x5 + 1) (lv' := [(5, .int (x5 + 1)), (6, .int s0), (0, .ref (ad X 0)), (2, .int x2), (3, .int x3), (4, .int x4)]) 5 dX10_knownOf_392 rfl rfl (by decide) rfl ?_
    refine G_goto (tgt := 289) dX10_knownOf_395 (by decide) ?_
    exact G_sub [2, 3, 4, 5, 0] rfl (hk289 x2 x3 x4 (x5 + 1) M)
  · refine G_aload_n 1 dX10_knownOf_358 rfl rfl ?_
    refine G_get 90 clX10 (y2_0) fl_X10_198 dX10_knownOf_359 (by decide) rfl rfl ?_
    refine G_sipush (v := 2079) dX10_knownOf_362 (by decide) ?_
    refine G_iload_n 3 dX10_knownOf_365 rfl rfl ?_
    refine G_imul dX10_knownOf_366 ?_
    refine G_sipush (v := 2079) dX10_knownOf_367 (by decide) ?_
    refine G_iadd dX10_knownOf_370 ?_
    refine G_iload 0 dX10_knownOf_371 rfl ?_
    refine G_iadd dX10_knownOf_373 ?_
    refine G_zald (y2_60) dX10_knownOf_374 ?_
    refine G_if_eq (tgt := 392) dX10_knownOf_375 (by decide) ?_ ?_
    · refine G_iinc (v := x5 + 1) (lv' := [(5, .int (x5 + 1)), (6, .int s0), (0, .ref (ad X 0)), (2, .int x2), (3, .int x3), (4, .int x4)]) 5 dX10_knownOf_392 rfl rfl (by decide) rfl ?_
      refine G_goto (tgt := 289) dX10_knownOf_395 (by decide) ?_
      exact G_sub [2, 3, 4, 5, 0] rfl (hk289 x2 x3 x4 (x5 + 1) M)
    · refine G_aload_n 1 dX10_knownOf_378 rfl rfl ?_
      refine G_get 90 clX10 (y2_0) fl_X10_198 dX10_knownOf_379 (by decide) rfl rfl ?_
      refine G_sipush (v := 2079) dX10_knownOf_382 (by decide) ?_
      refine G_iload_n 3 dX10_knownOf_385 rfl rfl ?_
      refine G_imul dX10_knownOf_386 ?_
      refine G_iload 4 dX10_knownOf_387 rfl ?_
      refine G_iadd dX10_knownOf_389 ?_
      refine G_iconst (v := 1) dX10_knownOf_390 (by decide) ?_
      refine G_zast (y2_60) dX10_knownOf_391 ?_
      refine G_m (fun M9 => ?_)
      refine G_iinc (v := x5 + 1) (lv' := [(5, .int (x5 + 1)), (6, .int s0), (0, .ref (ad X 0)), (2, .int x2), (3, .int x3), (4, .int x4)]) 5 dX10_knownOf_392 rfl rfl (by decide) rfl ?_
      refine G_goto (tgt := 289) dX10_knownOf_395 (by decide) ?_
      exact G_sub [2, 3, 4, 5, 0] rfl (hk289 x2 x3 x4 (x5 + 1) M9)
def f_X10_knownOf_289 (k278 : Int32 → Int32 → Int32 → gM → Option (Int32 × gM)) : Nat → Int32 → Int32 → Int32 → Int32 → gM → Option (Int32 × gM)
  | 0, _, _, _, _, _ => none
  | n + 1, x2, x3, x4, x5, M => (g_b (f_X10_actsOf M) (fun r8 M7 => (if r8 ≤ x5 then (k278 x2 x3 (x4 + 1) M7) else (g_ck (((2079 : Int32) * x3) + x4) 51975 (if (M7.1 59 (tn (((2079 : Int32) * x3) + x4))) = 0 then (k278 x2 x3 (x4 + 1) M7) else (g_ck (((6 : Int32) * x4) + x5) 12474 (if (M7.1 49 (tn (((6 : Int32) * x4) + x5))) = 0 then (f_X10_knownOf_349 (f_X10_knownOf_289 k278 n) x2 x3 x4 x5 ((-2) : Int32) M7) else (g_ck x3 24 (g_b (f_X10_leads x4 x5 (M7.1 38 (tn x3)) M7) (fun r11 M10 => (f_X10_knownOf_349 (f_X10_knownOf_289 k278 n) x2 x3 x4 x5 r11 M10)))))))))))
set_option maxRecDepth 100000 in
set_option maxHeartbeats 4000000 in
theorem o_X10_knownOf_289 {X : gX} {k278 : Int32 → Int32 → Int32 → gM → Option (Int32 × gM)} (hk278 : ∀ (x2 : Int32) (x3 : Int32) (x4 : Int32) (M : gM), G Y2 jX10_knownOf X (g_fin g_ei) 278 [(0, .ref (ad X 0)), (2, .int x2), (3, .int x3), (4, .int x4)] [] M (k278 x2 x3 x4 M)) : ∀ (n : Nat) (x2 : Int32) (x3 : Int32) (x4 : Int32) (x5 : Int32) (M : gM), G Y2 jX10_knownOf X (g_fin g_ei) 289 [(0, .ref (ad X 0)), (2, .int x2), (3, .int x3), (4, .int x4), (5, .int x5)] [] M (f_X10_knownOf_289 k278 n x2 x3 x4 x5 M) := by
  intro n
  induction n with
  | zero => intro x2 x3 x4 x5 M; exact G_none
  | succ n ih =>
    intro x2 x3 x4 x5 M
    rw [f_X10_knownOf_289]
    refine G_iload 4 dX10_knownOf_289 rfl ?_
    refine G_aload_n 0 dX10_knownOf_291 rfl rfl ?_
    refine G_cVi (As := []) (rest := [.int x5]) (ok_X10_actsOf M) rfl (y2_0) rfl mv_X10_482 dX10_knownOf_292 rfl rfl (Nat.le_of_ble_eq_true rfl) (g_fitN (by decide) (by decide)) (fun r8 M7 => ?_)
    refine G_icmp_ge (tgt := 398) dX10_knownOf_295 (by decide) ?_ ?_
    · refine G_iinc (v := x4 + 1) (lv' := [(4, .int (x4 + 1)), (0, .ref (ad X 0)), (2, .int x2), (3, .int x3), (5, .int x5)]) 3 dX10_knownOf_398 rfl rfl (by decide) rfl ?_
      refine G_goto (tgt := 278) dX10_knownOf_401 (by decide) ?_
      exact G_sub [1, 2, 3, 0] rfl (hk278 x2 x3 (x4 + 1) M7)
    · refine G_aload_n 0 dX10_knownOf_298 rfl rfl ?_
      refine G_get 89 clX10 (y2_0) fl_X10_195 dX10_knownOf_299 (by decide) rfl rfl ?_
      refine G_sipush (v := 2079) dX10_knownOf_302 (by decide) ?_
      refine G_iload_n 2 dX10_knownOf_305 rfl rfl ?_
      refine G_imul dX10_knownOf_306 ?_
      refine G_iload 3 dX10_knownOf_307 rfl ?_
      refine G_iadd dX10_knownOf_309 ?_
      refine G_zald (y2_59) dX10_knownOf_310 ?_
      refine G_if_eq (tgt := 398) dX10_knownOf_311 (by decide) ?_ ?_
      · refine G_iinc (v := x4 + 1) (lv' := [(4, .int (x4 + 1)), (0, .ref (ad X 0)), (2, .int x2), (3, .int x3), (5, .int x5)]) 3 dX10_knownOf_398 rfl rfl (by decide) rfl ?_
        refine G_goto (tgt := 278) dX10_knownOf_401 (by decide) ?_
        exact G_sub [1, 2, 3, 0] rfl (hk278 x2 x3 (x4 + 1) M7)
      · refine G_aload_n 0 dX10_knownOf_314 rfl rfl ?_
        refine G_get 79 clX10 (y2_0) fl_X10_163 dX10_knownOf_315 (by decide) rfl rfl ?_
        refine G_bipush (v := 6) dX10_knownOf_318 (by decide) ?_
        refine G_iload 3 dX10_knownOf_320 rfl ?_
        refine G_imul dX10_knownOf_322 ?_
        refine G_iload 4 dX10_knownOf_323 rfl ?_
        refine G_iadd dX10_knownOf_325 ?_
        refine G_zald (y2_49) dX10_knownOf_326 ?_
        refine G_if_eq (tgt := 347) dX10_knownOf_327 (by decide) ?_ ?_
        · refine G_bipush (v := (-2)) dX10_knownOf_347 (by decide) ?_
          exact G_sub [0, 1, 2, 3, 4] rfl (o_X10_knownOf_349 ih x2 x3 x4 x5 ((-2) : Int32) M7)
        · refine G_aload_n 0 dX10_knownOf_330 rfl rfl ?_
          refine G_iload 3 dX10_knownOf_331 rfl ?_
          refine G_iload 4 dX10_knownOf_333 rfl ?_
          refine G_aload_n 0 dX10_knownOf_335 rfl rfl ?_
          refine G_get 49 clX10 (y2_0) fl_X10_130 dX10_knownOf_336 (by decide) rfl rfl ?_
          refine G_iload_n 2 dX10_knownOf_339 rfl rfl ?_
          refine G_iald (y2_38) dX10_knownOf_340 ?_
          refine G_cVi (As := [.int x4, .int x5, .int (M7.1 38 (tn x3))]) (rest := []) (ok_X10_leads x4 x5 (M7.1 38 (tn x3)) M7) rfl (y2_0) rfl mv_X10_507 dX10_knownOf_341 rfl rfl (Nat.le_of_ble_eq_true rfl) (g_fitN (by decide) (by decide)) (fun r11 M10 => ?_)
          refine G_goto (tgt := 349) dX10_knownOf_344 (by decide) ?_
          exact G_sub [0, 1, 2, 3, 4] rfl (o_X10_knownOf_349 ih x2 x3 x4 x5 r11 M10)
def f_X10_knownOf_278 (k271 : Int32 → Int32 → gM → Option (Int32 × gM)) : Nat → Int32 → Int32 → Int32 → gM → Option (Int32 × gM)
  | 0, _, _, _, _ => none
  | n + 1, x2, x3, x4, M => (if (2079 : Int32) ≤ x4 then (k271 x2 (x3 + (-1)) M) else (f_X10_knownOf_289 (f_X10_knownOf_278 k271 n) FU x2 x3 x4 (0 : Int32) M))
set_option maxRecDepth 100000 in
set_option maxHeartbeats 4000000 in
theorem o_X10_knownOf_278 {X : gX} {k271 : Int32 → Int32 → gM → Option (Int32 × gM)} (hk271 : ∀ (x2 : Int32) (x3 : Int32) (M : gM), G Y2 jX10_knownOf X (g_fin g_ei) 271 [(0, .ref (ad X 0)), (2, .int x2), (3, .int x3)] [] M (k271 x2 x3 M)) : ∀ (n : Nat) (x2 : Int32) (x3 : Int32) (x4 : Int32) (M : gM), G Y2 jX10_knownOf X (g_fin g_ei) 278 [(0, .ref (ad X 0)), (2, .int x2), (3, .int x3), (4, .int x4)] [] M (f_X10_knownOf_278 k271 n x2 x3 x4 M) := by
  intro n
  induction n with
  | zero => intro x2 x3 x4 M; exact G_none
  | succ n ih =>
    intro x2 x3 x4 M
    rw [f_X10_knownOf_278]
    refine G_iload 3 dX10_knownOf_278 rfl ?_
    refine G_sipush (v := 2079) dX10_knownOf_280 (by decide) ?_
    refine G_icmp_ge (tgt := 404) dX10_knownOf_283 (by decide) ?_ ?_
    · refine G_iinc (v := x3 + (-1)) (lv' := [(3, .int (x3 + (-1))), (0, .ref (ad X 0)), (2, .int x2), (4, .int x4)]) 2 dX10_knownOf_404 rfl rfl (by decide) rfl ?_
      refine G_goto (tgt := 271) dX10_knownOf_407 (by decide) ?_
      exact G_sub [1, 2, 0] rfl (hk271 x2 (x3 + (-1)) M)
    · refine G_iconst (v := 0) dX10_knownOf_286 (by decide) ?_
      refine G_istore (lv' := [(5, .int 0), (0, .ref (ad X 0)), (2, .int x2), (3, .int x3), (4, .int x4)]) dX10_knownOf_287 (by decide) rfl ?_
      exact G_sub [1, 2, 3, 4, 0] rfl (o_X10_knownOf_289 ih FU x2 x3 x4 (0 : Int32) M)
def f_X10_knownOf_271 : Nat → Int32 → Int32 → gM → Option (Int32 × gM)
  | 0, _, _, _ => none
  | n + 1, x2, x3, M => (if x3 < 0 then (some (x2, M)) else (f_X10_knownOf_278 (f_X10_knownOf_271 n) FU x2 x3 (0 : Int32) M))
set_option maxRecDepth 100000 in
set_option maxHeartbeats 4000000 in
theorem o_X10_knownOf_271 {X : gX} : ∀ (n : Nat) (x2 : Int32) (x3 : Int32) (M : gM), G Y2 jX10_knownOf X (g_fin g_ei) 271 [(0, .ref (ad X 0)), (2, .int x2), (3, .int x3)] [] M (f_X10_knownOf_271 n x2 x3 M) := by
  intro n
  induction n with
  | zero => intro x2 x3 M; exact G_none
  | succ n ih =>
    intro x2 x3 M
    rw [f_X10_knownOf_271]
    refine G_iload_n 2 dX10_knownOf_271 rfl rfl ?_
    refine G_if_lt (tgt := 410) dX10_knownOf_272 (by decide) ?_ ?_
    · refine G_iload_n 1 dX10_knownOf_410 rfl rfl ?_
      exact G_iret rfl dX10_knownOf_411
    · refine G_iconst (v := 0) dX10_knownOf_275 (by decide) ?_
      refine G_istore (lv' := [(4, .int 0), (0, .ref (ad X 0)), (2, .int x2), (3, .int x3)]) dX10_knownOf_276 (by decide) rfl ?_
      exact G_sub [1, 2, 3, 0] rfl (o_X10_knownOf_278 ih FU x2 x3 (0 : Int32) M)
def f_X10_knownOf_214 : Nat → Int32 → Int32 → gM → Option (Int32 × gM)
  | 0, _, _, _ => none
  | n + 1, x2, x3, M => (if (2079 : Int32) ≤ x3 then (g_v (x2 - (1 : Int32)) (fun y6 => (f_X10_knownOf_271 FU x2 y6 M))) else (g_ck (((2079 : Int32) * x2) + x3) 51975 (if (M.1 59 (tn (((2079 : Int32) * x2) + x3))) = 0 then (g_ck (((2079 : Int32) * x2) + x3) 51975 (g_m (sI M 60 (tn (((2079 : Int32) * x2) + x3)) (zb (0 : Int32))) (fun M12 => (f_X10_knownOf_214 n x2 (x3 + 1) M12)))) else (g_b (f_X10_isOver x3 M) (fun r14 M13 => (if r14 then (g_ck (((2079 : Int32) * x2) + x3) 51975 (g_m (sI M13 60 (tn (((2079 : Int32) * x2) + x3)) (zb (1 : Int32))) (fun M16 => (f_X10_knownOf_214 n x2 (x3 + 1) M16)))) else (g_ck (((2079 : Int32) * x2) + x3) 51975 (g_m (sI M13 60 (tn (((2079 : Int32) * x2) + x3)) (zb (0 : Int32))) (fun M15 => (f_X10_knownOf_214 n x2 (x3 + 1) M15))))))))))
set_option maxRecDepth 100000 in
set_option maxHeartbeats 4000000 in
theorem o_X10_knownOf_214 {X : gX} : ∀ (n : Nat) (x2 : Int32) (x3 : Int32) (M : gM), G Y2 jX10_knownOf X (g_fin g_ei) 214 [(0, .ref (ad X 0)), (2, .int x2), (3, .int x3)] [] M (f_X10_knownOf_214 n x2 x3 M) := by
  intro n
  induction n with
  | zero => intro x2 x3 M; exact G_none
  | succ n ih =>
    intro x2 x3 M
    rw [f_X10_knownOf_214]
    refine G_iload_n 2 dX10_knownOf_214 rfl rfl ?_
    refine G_sipush (v := 2079) dX10_knownOf_215 (by decide) ?_
    refine G_icmp_ge (tgt := 267) dX10_knownOf_218 (by decide) ?_ ?_
    · refine G_iload_n 1 dX10_knownOf_267 rfl rfl ?_
      refine G_iconst (v := 1) dX10_knownOf_268 (by decide) ?_
      refine G_isub dX10_knownOf_269 ?_
      refine G_vi (fun y6 => ?_)
      refine G_istore_n (lv' := [(3, .int y6), (0, .ref (ad X 0)), (2, .int x2)]) dX10_knownOf_270 rfl (by decide) rfl ?_
      exact G_sub [1, 2, 0] rfl (o_X10_knownOf_271 FU x2 y6 M)
    · refine G_aload_n 0 dX10_knownOf_221 rfl rfl ?_
      refine G_get 90 clX10 (y2_0) fl_X10_198 dX10_knownOf_222 (by decide) rfl rfl ?_
      refine G_sipush (v := 2079) dX10_knownOf_225 (by decide) ?_
      refine G_iload_n 1 dX10_knownOf_228 rfl rfl ?_
      refine G_imul dX10_knownOf_229 ?_
      refine G_iload_n 2 dX10_knownOf_230 rfl rfl ?_
      refine G_iadd dX10_knownOf_231 ?_
      refine G_aload_n 0 dX10_knownOf_232 rfl rfl ?_
      refine G_get 89 clX10 (y2_0) fl_X10_195 dX10_knownOf_233 (by decide) rfl rfl ?_
      refine G_sipush (v := 2079) dX10_knownOf_236 (by decide) ?_
      refine G_iload_n 1 dX10_knownOf_239 rfl rfl ?_
      refine G_imul dX10_knownOf_240 ?_
      refine G_iload_n 2 dX10_knownOf_241 rfl rfl ?_
      refine G_iadd dX10_knownOf_242 ?_
      refine G_zald (y2_59) dX10_knownOf_243 ?_
      refine G_if_eq (tgt := 259) dX10_knownOf_244 (by decide) ?_ ?_
      · refine G_iconst (v := 0) dX10_knownOf_259 (by decide) ?_
        refine G_zast (y2_60) dX10_knownOf_260 ?_
        refine G_m (fun M12 => ?_)
        refine G_iinc (v := x3 + 1) (lv' := [(3, .int (x3 + 1)), (0, .ref (ad X 0)), (2, .int x2)]) 2 dX10_knownOf_261 rfl rfl (by decide) rfl ?_
        refine G_goto (tgt := 214) dX10_knownOf_264 (by decide) ?_
        exact G_sub [1, 2, 0] rfl (ih x2 (x3 + 1) M12)
      · refine G_aload_n 0 dX10_knownOf_247 rfl rfl ?_
        refine G_iload_n 2 dX10_knownOf_248 rfl rfl ?_
        refine G_cVb (As := [.int x3]) (rest := [.int (((2079 : Int32) * x2) + x3), .ref (ad X 60)]) (ok_X10_isOver x3 M) rfl (y2_0) rfl mv_X10_460 dX10_knownOf_249 rfl rfl (Nat.le_of_ble_eq_true rfl) (g_fitN (by decide) (by decide)) (fun r14 M13 => ?_)
        refine G_ifB_eq (tgt := 259) dX10_knownOf_252 (by decide) ?_ ?_
        · refine G_iconst (v := 0) dX10_knownOf_259 (by decide) ?_
          refine G_zast (y2_60) dX10_knownOf_260 ?_
          refine G_m (fun M15 => ?_)
          refine G_iinc (v := x3 + 1) (lv' := [(3, .int (x3 + 1)), (0, .ref (ad X 0)), (2, .int x2)]) 2 dX10_knownOf_261 rfl rfl (by decide) rfl ?_
          refine G_goto (tgt := 214) dX10_knownOf_264 (by decide) ?_
          exact G_sub [1, 2, 0] rfl (ih x2 (x3 + 1) M15)
        · refine G_iconst (v := 1) dX10_knownOf_255 (by decide) ?_
          refine G_goto (tgt := 260) dX10_knownOf_256 (by decide) ?_
          refine G_zast (y2_60) dX10_knownOf_260 ?_
          refine G_m (fun M16 => ?_)
          refine G_iinc (v := x3 + 1) (lv' := [(3, .int (x3 + 1)), (0, .ref (ad X 0)), (2, .int x2)]) 2 dX10_knownOf_261 rfl rfl (by decide) rfl ?_
          refine G_goto (tgt := 214) dX10_knownOf_264 (by decide) ?_
          exact G_sub [1, 2, 0] rfl (ih x2 (x3 + 1) M16)
def f_X10_knownOf_205 (x2 : Int32) (M : gM) : Option (Int32 × gM) := (if 0 ≤ x2 then (f_X10_knownOf_214 FU x2 (0 : Int32) M) else (some (((-2) : Int32), M)))
set_option maxRecDepth 100000 in
set_option maxHeartbeats 4000000 in
theorem o_X10_knownOf_205 {X : gX} (x2 : Int32) (M : gM) : G Y2 jX10_knownOf X (g_fin g_ei) 205 [(0, .ref (ad X 0)), (2, .int x2)] [] M (f_X10_knownOf_205 x2 M) := by
  rw [f_X10_knownOf_205]
  refine G_iload_n 1 dX10_knownOf_205 rfl rfl ?_
  refine G_if_ge (tgt := 212) dX10_knownOf_206 (by decide) ?_ ?_
  · refine G_iconst (v := 0) dX10_knownOf_212 (by decide) ?_
    refine G_istore_n (lv' := [(3, .int 0), (0, .ref (ad X 0)), (2, .int x2)]) dX10_knownOf_213 rfl (by decide) rfl ?_
    exact G_sub [1, 2, 0] rfl (o_X10_knownOf_214 FU x2 (0 : Int32) M)
  · refine G_bipush (v := (-2)) dX10_knownOf_209 (by decide) ?_
    exact G_iret rfl dX10_knownOf_211
def f_X10_knownOf_144 (k100 : Int32 → Int32 → Int32 → Int32 → gM → Option (Int32 × gM)) (x2 : Int32) (x3 : Int32) (x4 : Int32) (x5 : Int32) (s0 : Int32) (M : gM) : Option (Int32 × gM) := (if s0 = ((-2) : Int32) then (k100 x2 x3 x4 (x5 + 1) M) else (g_ck ((((2079 : Int32) * x3) + (2079 : Int32)) + s0) 51975 (g_m (sI M 59 (tn ((((2079 : Int32) * x3) + (2079 : Int32)) + s0)) (zb (1 : Int32))) (fun M19 => (g_b (f_X10_isOver s0 M19) (fun r21 M20 => (if r21 then (g_v (x3 + (1 : Int32)) (fun y22 => (k100 y22 x3 x4 (x5 + 1) M20))) else (k100 x2 x3 x4 (x5 + 1) M20))))))))
set_option maxRecDepth 100000 in
set_option maxHeartbeats 4000000 in
theorem o_X10_knownOf_144 {X : gX} {k100 : Int32 → Int32 → Int32 → Int32 → gM → Option (Int32 × gM)} (hk100 : ∀ (x2 : Int32) (x3 : Int32) (x4 : Int32) (x5 : Int32) (M : gM), G Y2 jX10_knownOf X (g_fin g_ei) 100 [(0, .ref (ad X 0)), (2, .int x2), (3, .int x3), (4, .int x4), (5, .int x5)] [] M (k100 x2 x3 x4 x5 M)) (x2 : Int32) (x3 : Int32) (x4 : Int32) (x5 : Int32) (s0 : Int32) (M : gM) : G Y2 jX10_knownOf X (g_fin g_ei) 144 [(0, .ref (ad X 0)), (2, .int x2), (3, .int x3), (4, .int x4), (5, .int x5)] [.int s0] M (f_X10_knownOf_144 k100 x2 x3 x4 x5 s0 M) := by
  rw [f_X10_knownOf_144]
  refine G_istore (lv' := [(6, .int s0), (0, .ref (ad X 0)), (2, .int x2), (3, .int x3), (4, .int x4), (5, .int x5)]) dX10_knownOf_144 (by decide) rfl ?_
  refine G_iload 0 dX10_knownOf_146 rfl ?_
  refine G_bipush (v := (-2)) dX10_knownOf_148 (by decide) ?_
  refine G_icmp_ne (tgt := 156) dX10_knownOf_150 (by decide) ?_ ?_
  · refine G_aload_n 1 dX10_knownOf_156 rfl rfl ?_
    refine G_get 89 clX10 (y2_0) fl_X10_195 dX10_knownOf_157 (by decide) rfl rfl ?_
    refine G_sipush (v := 2079) dX10_knownOf_160 (by decide) ?_
    refine G_iload_n 3 dX10_knownOf_163 rfl rfl ?_
    refine G_imul dX10_knownOf_164 ?_
    refine G_sipush (v := 2079) dX10_knownOf_165 (by decide) ?_
    refine G_iadd dX10_knownOf_168 ?_
    refine G_iload 0 dX10_knownOf_169 rfl ?_
    refine G_iadd dX10_knownOf_171 ?_
    refine G_iconst (v := 1) dX10_knownOf_172 (by decide) ?_
    refine G_zast (y2_59) dX10_knownOf_173 ?_
    refine G_m (fun M19 => ?_)
    refine G_aload_n 1 dX10_knownOf_174 rfl rfl ?_
    refine G_iload 0 dX10_knownOf_175 rfl ?_
    refine G_cVb (As := [.int s0]) (rest := []) (ok_X10_isOver s0 M19) rfl (y2_0) rfl mv_X10_460 dX10_knownOf_177 rfl rfl (Nat.le_of_ble_eq_true rfl) (g_fitN (by decide) (by decide)) (fun r21 M20 => ?_)
    refine G_ifB_eq (tgt := 187) dX10_knownOf_180 (by decide) ?_ ?_
    · refine G_iinc (v := x5 + 1) (lv' := [(5, .int (x5 + 1)), (6, .int s0), (0, .ref (ad X 0)), (2, .int x2), (3, .int x3), (4, .int x4)]) 5 dX10_knownOf_187 rfl rfl (by decide) rfl ?_
      refine G_goto (tgt := 100) dX10_knownOf_190 (by decide) ?_
      exact G_sub [2, 3, 4, 5, 0] rfl (hk100 x2 x3 x4 (x5 + 1) M20)
    · refine G_iload_n 3 dX10_knownOf_183 rfl rfl ?_
      refine G_iconst (v := 1) dX10_knownOf_184 (by decide) ?_
      refine G_iadd dX10_knownOf_185 ?_
      refine G_vi (fun y22 => ?_)
      refine G_istore_n (lv' := [(2, .int y22), (6, .int s0), (0, .ref (ad X 0)), (3, .int x3), (4, .int x4), (5, .int x5)]) dX10_knownOf_186 rfl (by decide) rfl ?_
      refine G_iinc (v := x5 + 1) (lv' := [(5, .int (x5 + 1)), (2, .int y22), (6, .int s0), (0, .ref (ad X 0)), (3, .int x3), (4, .int x4)]) 5 dX10_knownOf_187 rfl rfl (by decide) rfl ?_
      refine G_goto (tgt := 100) dX10_knownOf_190 (by decide) ?_
      exact G_sub [3, 1, 4, 5, 0] rfl (hk100 y22 x3 x4 (x5 + 1) M20)
  · refine G_goto (tgt := 187) dX10_knownOf_153 (by decide) ?_
    refine G_iinc (v := x5 + 1) (lv' := [(5, .int (x5 + 1)), (6, .int s0), (0, .ref (ad X 0)), (2, .int x2), (3, .int x3), (4, .int x4)]) 5 dX10_knownOf_187 rfl rfl (by decide) rfl ?_
    refine G_goto (tgt := 100) dX10_knownOf_190 (by decide) ?_
    exact G_sub [2, 3, 4, 5, 0] rfl (hk100 x2 x3 x4 (x5 + 1) M)
def f_X10_knownOf_100 (k70 : Int32 → Int32 → Int32 → gM → Option (Int32 × gM)) : Nat → Int32 → Int32 → Int32 → Int32 → gM → Option (Int32 × gM)
  | 0, _, _, _, _, _ => none
  | n + 1, x2, x3, x4, x5, M => (g_b (f_X10_actsOf M) (fun r18 M17 => (if r18 ≤ x5 then (k70 x2 x3 (x4 + 1) M17) else (g_ck (((6 : Int32) * x4) + x5) 12474 (if (M17.1 49 (tn (((6 : Int32) * x4) + x5))) = 0 then (f_X10_knownOf_144 (f_X10_knownOf_100 k70 n) x2 x3 x4 x5 ((-2) : Int32) M17) else (g_ck x3 24 (g_b (f_X10_leads x4 x5 (M17.1 38 (tn x3)) M17) (fun r24 M23 => (f_X10_knownOf_144 (f_X10_knownOf_100 k70 n) x2 x3 x4 x5 r24 M23)))))))))
set_option maxRecDepth 100000 in
set_option maxHeartbeats 4000000 in
theorem o_X10_knownOf_100 {X : gX} {k70 : Int32 → Int32 → Int32 → gM → Option (Int32 × gM)} (hk70 : ∀ (x2 : Int32) (x3 : Int32) (x4 : Int32) (M : gM), G Y2 jX10_knownOf X (g_fin g_ei) 70 [(0, .ref (ad X 0)), (2, .int x2), (3, .int x3), (4, .int x4)] [] M (k70 x2 x3 x4 M)) : ∀ (n : Nat) (x2 : Int32) (x3 : Int32) (x4 : Int32) (x5 : Int32) (M : gM), G Y2 jX10_knownOf X (g_fin g_ei) 100 [(0, .ref (ad X 0)), (2, .int x2), (3, .int x3), (4, .int x4), (5, .int x5)] [] M (f_X10_knownOf_100 k70 n x2 x3 x4 x5 M) := by
  intro n
  induction n with
  | zero => intro x2 x3 x4 x5 M; exact G_none
  | succ n ih =>
    intro x2 x3 x4 x5 M
    rw [f_X10_knownOf_100]
    refine G_iload 4 dX10_knownOf_100 rfl ?_
    refine G_aload_n 0 dX10_knownOf_102 rfl rfl ?_
    refine G_cVi (As := []) (rest := [.int x5]) (ok_X10_actsOf M) rfl (y2_0) rfl mv_X10_482 dX10_knownOf_103 rfl rfl (Nat.le_of_ble_eq_true rfl) (g_fitN (by decide) (by decide)) (fun r18 M17 => ?_)
    refine G_icmp_ge (tgt := 193) dX10_knownOf_106 (by decide) ?_ ?_
    · refine G_iinc (v := x4 + 1) (lv' := [(4, .int (x4 + 1)), (0, .ref (ad X 0)), (2, .int x2), (3, .int x3), (5, .int x5)]) 3 dX10_knownOf_193 rfl rfl (by decide) rfl ?_
      refine G_goto (tgt := 70) dX10_knownOf_196 (by decide) ?_
      exact G_sub [1, 2, 3, 0] rfl (hk70 x2 x3 (x4 + 1) M17)
    · refine G_aload_n 0 dX10_knownOf_109 rfl rfl ?_
      refine G_get 79 clX10 (y2_0) fl_X10_163 dX10_knownOf_110 (by decide) rfl rfl ?_
      refine G_bipush (v := 6) dX10_knownOf_113 (by decide) ?_
      refine G_iload 3 dX10_knownOf_115 rfl ?_
      refine G_imul dX10_knownOf_117 ?_
      refine G_iload 4 dX10_knownOf_118 rfl ?_
      refine G_iadd dX10_knownOf_120 ?_
      refine G_zald (y2_49) dX10_knownOf_121 ?_
      refine G_if_eq (tgt := 142) dX10_knownOf_122 (by decide) ?_ ?_
      · refine G_bipush (v := (-2)) dX10_knownOf_142 (by decide) ?_
        exact G_sub [0, 1, 2, 3, 4] rfl (o_X10_knownOf_144 ih x2 x3 x4 x5 ((-2) : Int32) M17)
      · refine G_aload_n 0 dX10_knownOf_125 rfl rfl ?_
        refine G_iload 3 dX10_knownOf_126 rfl ?_
        refine G_iload 4 dX10_knownOf_128 rfl ?_
        refine G_aload_n 0 dX10_knownOf_130 rfl rfl ?_
        refine G_get 49 clX10 (y2_0) fl_X10_130 dX10_knownOf_131 (by decide) rfl rfl ?_
        refine G_iload_n 2 dX10_knownOf_134 rfl rfl ?_
        refine G_iald (y2_38) dX10_knownOf_135 ?_
        refine G_cVi (As := [.int x4, .int x5, .int (M17.1 38 (tn x3))]) (rest := []) (ok_X10_leads x4 x5 (M17.1 38 (tn x3)) M17) rfl (y2_0) rfl mv_X10_507 dX10_knownOf_136 rfl rfl (Nat.le_of_ble_eq_true rfl) (g_fitN (by decide) (by decide)) (fun r24 M23 => ?_)
        refine G_goto (tgt := 144) dX10_knownOf_139 (by decide) ?_
        exact G_sub [0, 1, 2, 3, 4] rfl (o_X10_knownOf_144 ih x2 x3 x4 x5 r24 M23)
def f_X10_knownOf_70 (k55 : Int32 → Int32 → gM → Option (Int32 × gM)) : Nat → Int32 → Int32 → Int32 → gM → Option (Int32 × gM)
  | 0, _, _, _, _ => none
  | n + 1, x2, x3, x4, M => (if (2079 : Int32) ≤ x4 then (k55 x2 (x3 + 1) M) else (g_ck (((2079 : Int32) * x3) + x4) 51975 (if (M.1 59 (tn (((2079 : Int32) * x3) + x4))) = 0 then (f_X10_knownOf_70 k55 n x2 x3 (x4 + 1) M) else (f_X10_knownOf_100 (f_X10_knownOf_70 k55 n) FU x2 x3 x4 (0 : Int32) M))))
set_option maxRecDepth 100000 in
set_option maxHeartbeats 4000000 in
theorem o_X10_knownOf_70 {X : gX} {k55 : Int32 → Int32 → gM → Option (Int32 × gM)} (hk55 : ∀ (x2 : Int32) (x3 : Int32) (M : gM), G Y2 jX10_knownOf X (g_fin g_ei) 55 [(0, .ref (ad X 0)), (2, .int x2), (3, .int x3)] [] M (k55 x2 x3 M)) : ∀ (n : Nat) (x2 : Int32) (x3 : Int32) (x4 : Int32) (M : gM), G Y2 jX10_knownOf X (g_fin g_ei) 70 [(0, .ref (ad X 0)), (2, .int x2), (3, .int x3), (4, .int x4)] [] M (f_X10_knownOf_70 k55 n x2 x3 x4 M) := by
  intro n
  induction n with
  | zero => intro x2 x3 x4 M; exact G_none
  | succ n ih =>
    intro x2 x3 x4 M
    rw [f_X10_knownOf_70]
    refine G_iload 3 dX10_knownOf_70 rfl ?_
    refine G_sipush (v := 2079) dX10_knownOf_72 (by decide) ?_
    refine G_icmp_ge (tgt := 199) dX10_knownOf_75 (by decide) ?_ ?_
    · refine G_iinc (v := x3 + 1) (lv' := [(3, .int (x3 + 1)), (0, .ref (ad X 0)), (2, .int x2), (4, .int x4)]) 2 dX10_knownOf_199 rfl rfl (by decide) rfl ?_
      refine G_goto (tgt := 55) dX10_knownOf_202 (by decide) ?_
      exact G_sub [1, 2, 0] rfl (hk55 x2 (x3 + 1) M)
    · refine G_aload_n 0 dX10_knownOf_78 rfl rfl ?_
      refine G_get 89 clX10 (y2_0) fl_X10_195 dX10_knownOf_79 (by decide) rfl rfl ?_
      refine G_sipush (v := 2079) dX10_knownOf_82 (by decide) ?_
      refine G_iload_n 2 dX10_knownOf_85 rfl rfl ?_
      refine G_imul dX10_knownOf_86 ?_
      refine G_iload 3 dX10_knownOf_87 rfl ?_
      refine G_iadd dX10_knownOf_89 ?_
      refine G_zald (y2_59) dX10_knownOf_90 ?_
      refine G_if_ne (tgt := 97) dX10_knownOf_91 (by decide) ?_ ?_
      · refine G_iconst (v := 0) dX10_knownOf_97 (by decide) ?_
        refine G_istore (lv' := [(5, .int 0), (0, .ref (ad X 0)), (2, .int x2), (3, .int x3), (4, .int x4)]) dX10_knownOf_98 (by decide) rfl ?_
        exact G_sub [1, 2, 3, 4, 0] rfl (o_X10_knownOf_100 ih FU x2 x3 x4 (0 : Int32) M)
      · refine G_goto (tgt := 193) dX10_knownOf_94 (by decide) ?_
        refine G_iinc (v := x4 + 1) (lv' := [(4, .int (x4 + 1)), (0, .ref (ad X 0)), (2, .int x2), (3, .int x3)]) 3 dX10_knownOf_193 rfl rfl (by decide) rfl ?_
        refine G_goto (tgt := 70) dX10_knownOf_196 (by decide) ?_
        exact G_sub [1, 2, 3, 0] rfl (ih x2 x3 (x4 + 1) M)
def f_X10_knownOf_55 : Nat → Int32 → Int32 → gM → Option (Int32 × gM)
  | 0, _, _, _ => none
  | n + 1, x2, x3, M => (if (M.1 0 48) ≤ x3 then (f_X10_knownOf_205 x2 M) else (if 0 ≤ x2 then (f_X10_knownOf_205 x2 M) else (f_X10_knownOf_70 (f_X10_knownOf_55 n) FU x2 x3 (0 : Int32) M)))
set_option maxRecDepth 100000 in
set_option maxHeartbeats 4000000 in
theorem o_X10_knownOf_55 {X : gX} : ∀ (n : Nat) (x2 : Int32) (x3 : Int32) (M : gM), G Y2 jX10_knownOf X (g_fin g_ei) 55 [(0, .ref (ad X 0)), (2, .int x2), (3, .int x3)] [] M (f_X10_knownOf_55 n x2 x3 M) := by
  intro n
  induction n with
  | zero => intro x2 x3 M; exact G_none
  | succ n ih =>
    intro x2 x3 M
    rw [f_X10_knownOf_55]
    refine G_iload_n 2 dX10_knownOf_55 rfl rfl ?_
    refine G_aload_n 0 dX10_knownOf_56 rfl rfl ?_
    refine G_get 48 clX10 (y2_0) fl_X10_394 dX10_knownOf_57 (by decide) rfl rfl ?_
    refine G_icmp_ge (tgt := 205) dX10_knownOf_60 (by decide) ?_ ?_
    · exact G_sub [0, 1] rfl (o_X10_knownOf_205 x2 M)
    · refine G_iload_n 1 dX10_knownOf_63 rfl rfl ?_
      refine G_if_ge (tgt := 205) dX10_knownOf_64 (by decide) ?_ ?_
      · exact G_sub [0, 1] rfl (o_X10_knownOf_205 x2 M)
      · refine G_iconst (v := 0) dX10_knownOf_67 (by decide) ?_
        refine G_istore (lv' := [(4, .int 0), (0, .ref (ad X 0)), (2, .int x2), (3, .int x3)]) dX10_knownOf_68 (by decide) rfl ?_
        exact G_sub [1, 2, 3, 0] rfl (o_X10_knownOf_70 ih FU x2 x3 (0 : Int32) M)
def f_X10_knownOf_6 : Nat → Int32 → Int32 → gM → Option (Int32 × gM)
  | 0, _, _, _ => none
  | n + 1, x1, x2, M => (if (51975 : Int32) ≤ x2 then (g_ck x1 51975 (g_m (sI M 59 (tn x1) (zb (1 : Int32))) (fun M3 => (g_b (f_X10_isOver x1 M3) (fun r5 M4 => (if r5 then (f_X10_knownOf_55 FU (0 : Int32) (0 : Int32) M4) else (f_X10_knownOf_55 FU ((-1) : Int32) (0 : Int32) M4))))))) else (g_ck x2 51975 (g_m (sI M 59 (tn x2) (zb (0 : Int32))) (fun M25 => (g_ck x2 51975 (g_m (sI M25 60 (tn x2) (zb (0 : Int32))) (fun M26 => (f_X10_knownOf_6 n x1 (x2 + 1) M26))))))))
set_option maxRecDepth 100000 in
set_option maxHeartbeats 4000000 in
theorem o_X10_knownOf_6 {X : gX} : ∀ (n : Nat) (x1 : Int32) (x2 : Int32) (M : gM), G Y2 jX10_knownOf X (g_fin g_ei) 6 [(0, .ref (ad X 0)), (1, .int x1), (2, .int x2)] [] M (f_X10_knownOf_6 n x1 x2 M) := by
  intro n
  induction n with
  | zero => intro x1 x2 M; exact G_none
  | succ n ih =>
    intro x1 x2 M
    rw [f_X10_knownOf_6]
    refine G_iload_n 2 dX10_knownOf_6 rfl rfl ?_
    refine G_ldc (v := 51975) ci_X10_194 dX10_knownOf_7 ?_
    refine G_icmp_ge (tgt := 32) dX10_knownOf_9 (by decide) ?_ ?_
    · refine G_aload_n 0 dX10_knownOf_32 rfl rfl ?_
      refine G_get 89 clX10 (y2_0) fl_X10_195 dX10_knownOf_33 (by decide) rfl rfl ?_
      refine G_iload_n 1 dX10_knownOf_36 rfl rfl ?_
      refine G_iconst (v := 1) dX10_knownOf_37 (by decide) ?_
      refine G_zast (y2_59) dX10_knownOf_38 ?_
      refine G_m (fun M3 => ?_)
      refine G_aload_n 0 dX10_knownOf_39 rfl rfl ?_
      refine G_iload_n 1 dX10_knownOf_40 rfl rfl ?_
      refine G_cVb (As := [.int x1]) (rest := []) (ok_X10_isOver x1 M3) rfl (y2_0) rfl mv_X10_460 dX10_knownOf_41 rfl rfl (Nat.le_of_ble_eq_true rfl) (g_fitN (by decide) (by decide)) (fun r5 M4 => ?_)
      refine G_ifB_eq (tgt := 51) dX10_knownOf_44 (by decide) ?_ ?_
      · refine G_iconst (v := (-1)) dX10_knownOf_51 (by decide) ?_
        refine G_istore_n (lv' := [(2, .int (-1)), (0, .ref (ad X 0)), (1, .int x1)]) dX10_knownOf_52 rfl (by decide) rfl ?_
        refine G_iconst (v := 0) dX10_knownOf_53 (by decide) ?_
        refine G_istore_n (lv' := [(3, .int 0), (2, .int (-1)), (0, .ref (ad X 0)), (1, .int x1)]) dX10_knownOf_54 rfl (by decide) rfl ?_
        exact G_sub [2, 1, 0] rfl (o_X10_knownOf_55 FU ((-1) : Int32) (0 : Int32) M4)
      · refine G_iconst (v := 0) dX10_knownOf_47 (by decide) ?_
        refine G_goto (tgt := 52) dX10_knownOf_48 (by decide) ?_
        refine G_istore_n (lv' := [(2, .int 0), (0, .ref (ad X 0)), (1, .int x1)]) dX10_knownOf_52 rfl (by decide) rfl ?_
        refine G_iconst (v := 0) dX10_knownOf_53 (by decide) ?_
        refine G_istore_n (lv' := [(3, .int 0), (2, .int 0), (0, .ref (ad X 0)), (1, .int x1)]) dX10_knownOf_54 rfl (by decide) rfl ?_
        exact G_sub [2, 1, 0] rfl (o_X10_knownOf_55 FU (0 : Int32) (0 : Int32) M4)
    · refine G_aload_n 0 dX10_knownOf_12 rfl rfl ?_
      refine G_get 89 clX10 (y2_0) fl_X10_195 dX10_knownOf_13 (by decide) rfl rfl ?_
      refine G_iload_n 2 dX10_knownOf_16 rfl rfl ?_
      refine G_iconst (v := 0) dX10_knownOf_17 (by decide) ?_
      refine G_zast (y2_59) dX10_knownOf_18 ?_
      refine G_m (fun M25 => ?_)
      refine G_aload_n 0 dX10_knownOf_19 rfl rfl ?_
      refine G_get 90 clX10 (y2_0) fl_X10_198 dX10_knownOf_20 (by decide) rfl rfl ?_
      refine G_iload_n 2 dX10_knownOf_23 rfl rfl ?_
      refine G_iconst (v := 0) dX10_knownOf_24 (by decide) ?_
      refine G_zast (y2_60) dX10_knownOf_25 ?_
      refine G_m (fun M26 => ?_)
      refine G_iinc (v := x2 + 1) (lv' := [(2, .int (x2 + 1)), (0, .ref (ad X 0)), (1, .int x1)]) 2 dX10_knownOf_26 rfl rfl (by decide) rfl ?_
      refine G_goto (tgt := 6) dX10_knownOf_29 (by decide) ?_
      exact G_sub [1, 2, 0] rfl (ih x1 (x2 + 1) M26)
def f_X10_knownOf (a1 : Int32) (M : gM) : Option (Int32 × gM) := (g_b (f_X10_lay M) (fun r2 M1 => (f_X10_knownOf_6 FU a1 (0 : Int32) M1)))
set_option maxRecDepth 100000 in
set_option maxHeartbeats 4000000 in
theorem ok_X10_knownOf (a1 : Int32) (M : gM) : g_met Y2 yX10_knownOf jX10_knownOf g_ei (fun Z => [.ref (Z.2.1 0), .int a1]) M (f_X10_knownOf a1 M) := by
  refine g_enter (fun Z => [(0, .ref (Z.2.1 0)), (1, .int a1)]) (by decide) rfl (fun Z => Nat.le_of_ble_eq_true rfl) (fun Z => rfl) (fun X => ?_)
  rw [f_X10_knownOf]
  refine G_aload_n 0 dX10_knownOf_0 rfl rfl ?_
  refine G_cVv (As := []) (rest := []) (ok_X10_lay M) rfl (y2_0) rfl mv_X10_516 dX10_knownOf_1 rfl rfl (Nat.le_of_ble_eq_true rfl) (g_fitN (by decide) (by decide)) (fun r2 M1 => ?_)
  refine G_iconst (v := 0) dX10_knownOf_4 (by decide) ?_
  refine G_istore_n (lv' := [(2, .int 0), (0, .ref (ad X 0)), (1, .int a1)]) dX10_knownOf_5 rfl (by decide) rfl ?_
  exact G_sub [1, 2, 0] rfl (o_X10_knownOf_6 FU a1 (0 : Int32) M1)
-- X10_known
def f_X10_known (a1 : Int32) (M : gM) : Option (Int32 × gM) := (g_b (f_X10_isState a1 M) (fun r2 M1 => (if r2 then (g_b (f_X10_knownOf a1 M1) (fun r4 M3 => (some (r4, M3)))) else (some (((-1) : Int32), M1)))))
set_option maxRecDepth 100000 in
set_option maxHeartbeats 4000000 in
theorem ok_X10_known (a1 : Int32) (M : gM) : g_met Y2 yX10_known jX10_known g_ei (fun Z => [.ref (Z.2.1 0), .int a1]) M (f_X10_known a1 M) := by
  refine g_enter (fun Z => [(0, .ref (Z.2.1 0)), (1, .int a1)]) (by decide) rfl (fun Z => Nat.le_of_ble_eq_true rfl) (fun Z => rfl) (fun X => ?_)
  rw [f_X10_known]
  refine G_aload_n 0 dX10_known_0 rfl rfl ?_
  refine G_iload_n 1 dX10_known_1 rfl rfl ?_
  refine G_cVb (As := [.int a1]) (rest := []) (ok_X10_isState a1 M) rfl (y2_0) rfl mv_X10_476 dX10_known_2 rfl rfl (Nat.le_of_ble_eq_true rfl) (g_fitN (by decide) (by decide)) (fun r2 M1 => ?_)
  refine G_ifB_eq (tgt := 16) dX10_known_5 (by decide) ?_ ?_
  · refine G_iconst (v := (-1)) dX10_known_16 (by decide) ?_
    exact G_iret rfl dX10_known_17
  · refine G_aload_n 0 dX10_known_8 rfl rfl ?_
    refine G_iload_n 1 dX10_known_9 rfl rfl ?_
    refine G_cVi (As := [.int a1]) (rest := []) (ok_X10_knownOf a1 M1) rfl (y2_0) rfl mv_X10_540 dX10_known_10 rfl rfl (Nat.le_of_ble_eq_true rfl) (g_fitN (by decide) (by decide)) (fun r4 M3 => ?_)
    refine G_goto (tgt := 17) dX10_known_13 (by decide) ?_
    exact G_iret rfl dX10_known_17
-- X10_knownAct
def f_X10_knownAct_98 (k57 : Int32 → Int32 → Int32 → Int32 → Int32 → Int32 → gM → Option (Int32 × gM)) (x2 : Int32) (x4 : Int32) (x5 : Int32) (x6 : Int32) (x7 : Int32) (x8 : Int32) (s0 : Int32) (M : gM) : Option (Int32 × gM) := (if s0 = ((-2) : Int32) then (k57 x2 x4 x5 x6 x7 (x8 + (-1)) M) else (g_ck ((((2079 : Int32) * x6) + (2079 : Int32)) + s0) 51975 (if (M.1 60 (tn ((((2079 : Int32) * x6) + (2079 : Int32)) + s0))) = 0 then (k57 x2 x4 x5 x6 x7 (x8 + (-1)) M) else (k57 x2 x4 x8 x6 s0 (x8 + (-1)) M))))
set_option maxRecDepth 100000 in
set_option maxHeartbeats 4000000 in
theorem o_X10_knownAct_98 {X : gX} {k57 : Int32 → Int32 → Int32 → Int32 → Int32 → Int32 → gM → Option (Int32 × gM)} (hk57 : ∀ (x2 : Int32) (x4 : Int32) (x5 : Int32) (x6 : Int32) (x7 : Int32) (x8 : Int32) (M : gM), G Y2 jX10_knownAct X (g_fin g_ei) 57 [(0, .ref (ad X 0)), (2, .int x2), (4, .int x4), (5, .int x5), (6, .int x6), (7, .int x7), (8, .int x8)] [] M (k57 x2 x4 x5 x6 x7 x8 M)) (x2 : Int32) (x4 : Int32) (x5 : Int32) (x6 : Int32) (x7 : Int32) (x8 : Int32) (s0 : Int32) (M : gM) : G Y2 jX10_knownAct X (g_fin g_ei) 98 [(0, .ref (ad X 0)), (2, .int x2), (4, .int x4), (5, .int x5), (6, .int x6), (7, .int x7), (8, .int x8)] [.int s0] M (f_X10_knownAct_98 k57 x2 x4 x5 x6 x7 x8 s0 M) := by
  rw [f_X10_knownAct_98]
  refine G_istore (lv' := [(9, .int s0), (0, .ref (ad X 0)), (2, .int x2), (4, .int x4), (5, .int x5), (6, .int x6), (7, .int x7), (8, .int x8)]) dX10_knownAct_98 (by decide) rfl ?_
  refine G_iload 0 dX10_knownAct_100 rfl ?_
  refine G_bipush (v := (-2)) dX10_knownAct_102 (by decide) ?_
  refine G_icmp_eq (tgt := 139) dX10_knownAct_104 (by decide) ?_ ?_
  · refine G_iinc (v := x8 + (-1)) (lv' := [(8, .int (x8 + (-1))), (9, .int s0), (0, .ref (ad X 0)), (2, .int x2), (4, .int x4), (5, .int x5), (6, .int x6), (7, .int x7)]) 7 dX10_knownAct_139 rfl rfl (by decide) rfl ?_
    refine G_goto (tgt := 57) dX10_knownAct_142 (by decide) ?_
    exact G_sub [2, 3, 4, 5, 6, 7, 0] rfl (hk57 x2 x4 x5 x6 x7 (x8 + (-1)) M)
  · refine G_aload_n 1 dX10_knownAct_107 rfl rfl ?_
    refine G_get 90 clX10 (y2_0) fl_X10_198 dX10_knownAct_108 (by decide) rfl rfl ?_
    refine G_sipush (v := 2079) dX10_knownAct_111 (by decide) ?_
    refine G_iload 5 dX10_knownAct_114 rfl ?_
    refine G_imul dX10_knownAct_116 ?_
    refine G_sipush (v := 2079) dX10_knownAct_117 (by decide) ?_
    refine G_iadd dX10_knownAct_120 ?_
    refine G_iload 0 dX10_knownAct_121 rfl ?_
    refine G_iadd dX10_knownAct_123 ?_
    refine G_zald (y2_60) dX10_knownAct_124 ?_
    refine G_if_ne (tgt := 131) dX10_knownAct_125 (by decide) ?_ ?_
    · refine G_iload 7 dX10_knownAct_131 rfl ?_
      refine G_istore (lv' := [(5, .int x8), (9, .int s0), (0, .ref (ad X 0)), (2, .int x2), (4, .int x4), (6, .int x6), (7, .int x7), (8, .int x8)]) dX10_knownAct_133 (by decide) rfl ?_
      refine G_iload 1 dX10_knownAct_135 rfl ?_
      refine G_istore (lv' := [(7, .int s0), (5, .int x8), (9, .int s0), (0, .ref (ad X 0)), (2, .int x2), (4, .int x4), (6, .int x6), (8, .int x8)]) dX10_knownAct_137 (by decide) rfl ?_
      refine G_iinc (v := x8 + (-1)) (lv' := [(8, .int (x8 + (-1))), (7, .int s0), (5, .int x8), (9, .int s0), (0, .ref (ad X 0)), (2, .int x2), (4, .int x4), (6, .int x6)]) 7 dX10_knownAct_139 rfl rfl (by decide) rfl ?_
      refine G_goto (tgt := 57) dX10_knownAct_142 (by decide) ?_
      exact G_sub [4, 5, 6, 2, 7, 1, 0] rfl (hk57 x2 x4 x8 x6 s0 (x8 + (-1)) M)
    · refine G_goto (tgt := 139) dX10_knownAct_128 (by decide) ?_
      refine G_iinc (v := x8 + (-1)) (lv' := [(8, .int (x8 + (-1))), (9, .int s0), (0, .ref (ad X 0)), (2, .int x2), (4, .int x4), (5, .int x5), (6, .int x6), (7, .int x7)]) 7 dX10_knownAct_139 rfl rfl (by decide) rfl ?_
      refine G_goto (tgt := 57) dX10_knownAct_142 (by decide) ?_
      exact G_sub [2, 3, 4, 5, 6, 7, 0] rfl (hk57 x2 x4 x5 x6 x7 (x8 + (-1)) M)
def f_X10_knownAct_57 (k36 : Int32 → Int32 → Int32 → Int32 → gM → Option (Int32 × gM)) : Nat → Int32 → Int32 → Int32 → Int32 → Int32 → Int32 → gM → Option (Int32 × gM)
  | 0, _, _, _, _, _, _, _ => none
  | n + 1, x2, x4, x5, x6, x7, x8, M => (if x8 < 0 then (k36 x2 x7 x5 (x6 + 1) M) else (g_ck (((6 : Int32) * x4) + x8) 12474 (if (M.1 49 (tn (((6 : Int32) * x4) + x8))) = 0 then (f_X10_knownAct_98 (f_X10_knownAct_57 k36 n) x2 x4 x5 x6 x7 x8 ((-2) : Int32) M) else (g_ck x6 24 (g_b (f_X10_leads x4 x8 (M.1 38 (tn x6)) M) (fun r9 M8 => (f_X10_knownAct_98 (f_X10_knownAct_57 k36 n) x2 x4 x5 x6 x7 x8 r9 M8)))))))
set_option maxRecDepth 100000 in
set_option maxHeartbeats 4000000 in
theorem o_X10_knownAct_57 {X : gX} {k36 : Int32 → Int32 → Int32 → Int32 → gM → Option (Int32 × gM)} (hk36 : ∀ (x2 : Int32) (x4 : Int32) (x5 : Int32) (x6 : Int32) (M : gM), G Y2 jX10_knownAct X (g_fin g_ei) 36 [(0, .ref (ad X 0)), (2, .int x2), (4, .int x4), (5, .int x5), (6, .int x6)] [] M (k36 x2 x4 x5 x6 M)) : ∀ (n : Nat) (x2 : Int32) (x4 : Int32) (x5 : Int32) (x6 : Int32) (x7 : Int32) (x8 : Int32) (M : gM), G Y2 jX10_knownAct X (g_fin g_ei) 57 [(0, .ref (ad X 0)), (2, .int x2), (4, .int x4), (5, .int x5), (6, .int x6), (7, .int x7), (8, .int x8)] [] M (f_X10_knownAct_57 k36 n x2 x4 x5 x6 x7 x8 M) := by
  intro n
  induction n with
  | zero => intro x2 x4 x5 x6 x7 x8 M; exact G_none
  | succ n ih =>
    intro x2 x4 x5 x6 x7 x8 M
    rw [f_X10_knownAct_57]
    refine G_iload 6 dX10_knownAct_57 rfl ?_
    refine G_if_lt (tgt := 145) dX10_knownAct_59 (by decide) ?_ ?_
    · refine G_iload 5 dX10_knownAct_145 rfl ?_
      refine G_istore (lv' := [(4, .int x7), (0, .ref (ad X 0)), (2, .int x2), (5, .int x5), (6, .int x6), (7, .int x7), (8, .int x8)]) dX10_knownAct_147 (by decide) rfl ?_
      refine G_iinc (v := x6 + 1) (lv' := [(6, .int (x6 + 1)), (4, .int x7), (0, .ref (ad X 0)), (2, .int x2), (5, .int x5), (7, .int x7), (8, .int x8)]) 4 dX10_knownAct_149 rfl rfl (by decide) rfl ?_
      refine G_goto (tgt := 36) dX10_knownAct_152 (by decide) ?_
      exact G_sub [2, 3, 1, 4, 0] rfl (hk36 x2 x7 x5 (x6 + 1) M)
    · refine G_aload_n 0 dX10_knownAct_62 rfl rfl ?_
      refine G_get 79 clX10 (y2_0) fl_X10_163 dX10_knownAct_63 (by decide) rfl rfl ?_
      refine G_bipush (v := 6) dX10_knownAct_66 (by decide) ?_
      refine G_iload 2 dX10_knownAct_68 rfl ?_
      refine G_imul dX10_knownAct_70 ?_
      refine G_iload 6 dX10_knownAct_71 rfl ?_
      refine G_iadd dX10_knownAct_73 ?_
      refine G_zald (y2_49) dX10_knownAct_74 ?_
      refine G_if_eq (tgt := 96) dX10_knownAct_75 (by decide) ?_ ?_
      · refine G_bipush (v := (-2)) dX10_knownAct_96 (by decide) ?_
        exact G_sub [0, 1, 2, 3, 4, 5, 6] rfl (o_X10_knownAct_98 ih x2 x4 x5 x6 x7 x8 ((-2) : Int32) M)
      · refine G_aload_n 0 dX10_knownAct_78 rfl rfl ?_
        refine G_iload 2 dX10_knownAct_79 rfl ?_
        refine G_iload 6 dX10_knownAct_81 rfl ?_
        refine G_aload_n 0 dX10_knownAct_83 rfl rfl ?_
        refine G_get 49 clX10 (y2_0) fl_X10_130 dX10_knownAct_84 (by decide) rfl rfl ?_
        refine G_iload 4 dX10_knownAct_87 rfl ?_
        refine G_iald (y2_38) dX10_knownAct_89 ?_
        refine G_cVi (As := [.int x4, .int x8, .int (M.1 38 (tn x6))]) (rest := []) (ok_X10_leads x4 x8 (M.1 38 (tn x6)) M) rfl (y2_0) rfl mv_X10_507 dX10_knownAct_90 rfl rfl (Nat.le_of_ble_eq_true rfl) (g_fitN (by decide) (by decide)) (fun r9 M8 => ?_)
        refine G_goto (tgt := 98) dX10_knownAct_93 (by decide) ?_
        exact G_sub [0, 1, 2, 3, 4, 5, 6] rfl (o_X10_knownAct_98 ih x2 x4 x5 x6 x7 x8 r9 M8)
def f_X10_knownAct_36 : Nat → Int32 → Int32 → Int32 → Int32 → gM → Option (Int32 × gM)
  | 0, _, _, _, _, _ => none
  | n + 1, x2, x4, x5, x6, M => (if x2 < x6 then (some (x5, M)) else (g_b (f_X10_actsOf M) (fun r6 M5 => (g_v (r6 - (1 : Int32)) (fun y7 => (f_X10_knownAct_57 (f_X10_knownAct_36 n) FU x2 x4 ((-1) : Int32) x6 x4 y7 M5))))))
set_option maxRecDepth 100000 in
set_option maxHeartbeats 4000000 in
theorem o_X10_knownAct_36 {X : gX} : ∀ (n : Nat) (x2 : Int32) (x4 : Int32) (x5 : Int32) (x6 : Int32) (M : gM), G Y2 jX10_knownAct X (g_fin g_ei) 36 [(0, .ref (ad X 0)), (2, .int x2), (4, .int x4), (5, .int x5), (6, .int x6)] [] M (f_X10_knownAct_36 n x2 x4 x5 x6 M) := by
  intro n
  induction n with
  | zero => intro x2 x4 x5 x6 M; exact G_none
  | succ n ih =>
    intro x2 x4 x5 x6 M
    rw [f_X10_knownAct_36]
    refine G_iload 4 dX10_knownAct_36 rfl ?_
    refine G_iload_n 1 dX10_knownAct_38 rfl rfl ?_
    refine G_icmp_gt (tgt := 155) dX10_knownAct_39 (by decide) ?_ ?_
    · refine G_iload 3 dX10_knownAct_155 rfl ?_
      exact G_iret rfl dX10_knownAct_157
    · refine G_iconst (v := (-1)) dX10_knownAct_42 (by decide) ?_
      refine G_istore (lv' := [(5, .int (-1)), (0, .ref (ad X 0)), (2, .int x2), (4, .int x4), (6, .int x6)]) dX10_knownAct_43 (by decide) rfl ?_
      refine G_iload 3 dX10_knownAct_45 rfl ?_
      refine G_istore (lv' := [(7, .int x4), (5, .int (-1)), (0, .ref (ad X 0)), (2, .int x2), (4, .int x4), (6, .int x6)]) dX10_knownAct_47 (by decide) rfl ?_
      refine G_aload_n 2 dX10_knownAct_49 rfl rfl ?_
      refine G_cVi (As := []) (rest := []) (ok_X10_actsOf M) rfl (y2_0) rfl mv_X10_482 dX10_knownAct_50 rfl rfl (Nat.le_of_ble_eq_true rfl) (g_fitN (by decide) (by decide)) (fun r6 M5 => ?_)
      refine G_iconst (v := 1) dX10_knownAct_53 (by decide) ?_
      refine G_isub dX10_knownAct_54 ?_
      refine G_vi (fun y7 => ?_)
      refine G_istore (lv' := [(8, .int y7), (7, .int x4), (5, .int (-1)), (0, .ref (ad X 0)), (2, .int x2), (4, .int x4), (6, .int x6)]) dX10_knownAct_55 (by decide) rfl ?_
      exact G_sub [3, 4, 5, 2, 6, 1, 0] rfl (o_X10_knownAct_57 ih FU x2 x4 ((-1) : Int32) x6 x4 y7 M5)
def f_X10_knownAct (a1 : Int32) (a2 : Int32) (M : gM) : Option (Int32 × gM) := (g_b (f_X10_isState a1 M) (fun r2 M1 => (if r2 then (g_b (f_X10_knownOf a1 M1) (fun r4 M3 => (if a2 < 0 then (some (((-1) : Int32), M3)) else (if a2 < r4 then (f_X10_knownAct_36 FU a2 a1 ((-1) : Int32) (0 : Int32) M3) else (some (((-1) : Int32), M3)))))) else (some (((-1) : Int32), M1)))))
set_option maxRecDepth 100000 in
set_option maxHeartbeats 4000000 in
theorem ok_X10_knownAct (a1 : Int32) (a2 : Int32) (M : gM) : g_met Y2 yX10_knownAct jX10_knownAct g_ei (fun Z => [.ref (Z.2.1 0), .int a1, .int a2]) M (f_X10_knownAct a1 a2 M) := by
  refine g_enter (fun Z => [(0, .ref (Z.2.1 0)), (1, .int a1), (2, .int a2)]) (by decide) rfl (fun Z => Nat.le_of_ble_eq_true rfl) (fun Z => rfl) (fun X => ?_)
  rw [f_X10_knownAct]
  refine G_aload_n 0 dX10_knownAct_0 rfl rfl ?_
  refine G_iload_n 1 dX10_knownAct_1 rfl rfl ?_
  refine G_cVb (As := [.int a1]) (rest := []) (ok_X10_isState a1 M) rfl (y2_0) rfl mv_X10_476 dX10_knownAct_2 rfl rfl (Nat.le_of_ble_eq_true rfl) (g_fitN (by decide) (by decide)) (fun r2 M1 => ?_)
  refine G_ifB_ne (tgt := 10) dX10_knownAct_5 (by decide) ?_ ?_
  · refine G_aload_n 0 dX10_knownAct_10 rfl rfl ?_
    refine G_iload_n 1 dX10_knownAct_11 rfl rfl ?_
    refine G_cVi (As := [.int a1]) (rest := []) (ok_X10_knownOf a1 M1) rfl (y2_0) rfl mv_X10_540 dX10_knownAct_12 rfl rfl (Nat.le_of_ble_eq_true rfl) (g_fitN (by decide) (by decide)) (fun r4 M3 => ?_)
    refine G_istore_n (lv' := [(3, .int r4), (0, .ref (ad X 0)), (1, .int a1), (2, .int a2)]) dX10_knownAct_15 rfl (by decide) rfl ?_
    refine G_iload_n 3 dX10_knownAct_16 rfl rfl ?_
    refine G_if_lt (tgt := 25) dX10_knownAct_17 (by decide) ?_ ?_
    · refine G_iconst (v := (-1)) dX10_knownAct_25 (by decide) ?_
      exact G_iret rfl dX10_knownAct_26
    · refine G_iload_n 3 dX10_knownAct_20 rfl rfl ?_
      refine G_iload_n 0 dX10_knownAct_21 rfl rfl ?_
      refine G_icmp_lt (tgt := 27) dX10_knownAct_22 (by decide) ?_ ?_
      · refine G_iload_n 2 dX10_knownAct_27 rfl rfl ?_
        refine G_istore (lv' := [(4, .int a1), (3, .int r4), (0, .ref (ad X 0)), (1, .int a1), (2, .int a2)]) dX10_knownAct_28 (by decide) rfl ?_
        refine G_iconst (v := (-1)) dX10_knownAct_30 (by decide) ?_
        refine G_istore (lv' := [(5, .int (-1)), (4, .int a1), (3, .int r4), (0, .ref (ad X 0)), (1, .int a1), (2, .int a2)]) dX10_knownAct_31 (by decide) rfl ?_
        refine G_iconst (v := 0) dX10_knownAct_33 (by decide) ?_
        refine G_istore (lv' := [(6, .int 0), (5, .int (-1)), (4, .int a1), (3, .int r4), (0, .ref (ad X 0)), (1, .int a1), (2, .int a2)]) dX10_knownAct_34 (by decide) rfl ?_
        exact G_sub [4, 6, 2, 1, 0] rfl (o_X10_knownAct_36 FU a2 a1 ((-1) : Int32) (0 : Int32) M3)
      · refine G_iconst (v := (-1)) dX10_knownAct_25 (by decide) ?_
        exact G_iret rfl dX10_knownAct_26
  · refine G_iconst (v := (-1)) dX10_knownAct_8 (by decide) ?_
    exact G_iret rfl dX10_knownAct_9
-- X10_goesBlindly
def f_X10_goesBlindly_92 (k28 : Int32 → Int32 → gM → Option (Bool × gM)) : Nat → Int32 → Int32 → Int32 → gM → Option (Bool × gM)
  | 0, _, _, _, _ => none
  | n + 1, x1, x2, x3, M => (g_ck x2 2079 (if (M.1 48 (tn x2)) < x3 then (k28 x1 (x2 + 1) M) else (g_b (f_X10_leads x2 x1 x3 M) (fun r5 M4 => (if r5 = ((-2) : Int32) then (some (false, M4)) else (g_ck ((2079 : Int32) + r5) 4158 (g_m (sI M4 61 (tn ((2079 : Int32) + r5)) (zb (1 : Int32))) (fun M6 => (f_X10_goesBlindly_92 k28 n x1 x2 (x3 + 1) M6)))))))))
set_option maxRecDepth 100000 in
set_option maxHeartbeats 4000000 in
theorem o_X10_goesBlindly_92 {X : gX} {k28 : Int32 → Int32 → gM → Option (Bool × gM)} (hk28 : ∀ (x1 : Int32) (x2 : Int32) (M : gM), G Y2 jX10_goesBlindly X (g_fin g_eb) 28 [(0, .ref (ad X 0)), (1, .int x1), (2, .int x2)] [] M (k28 x1 x2 M)) : ∀ (n : Nat) (x1 : Int32) (x2 : Int32) (x3 : Int32) (M : gM), G Y2 jX10_goesBlindly X (g_fin g_eb) 92 [(0, .ref (ad X 0)), (1, .int x1), (2, .int x2), (3, .int x3)] [] M (f_X10_goesBlindly_92 k28 n x1 x2 x3 M) := by
  intro n
  induction n with
  | zero => intro x1 x2 x3 M; exact G_none
  | succ n ih =>
    intro x1 x2 x3 M
    rw [f_X10_goesBlindly_92]
    refine G_iload_n 3 dX10_goesBlindly_92 rfl rfl ?_
    refine G_aload_n 0 dX10_goesBlindly_93 rfl rfl ?_
    refine G_get 78 clX10 (y2_0) fl_X10_160 dX10_goesBlindly_94 (by decide) rfl rfl ?_
    refine G_iload_n 2 dX10_goesBlindly_97 rfl rfl ?_
    refine G_iald (y2_48) dX10_goesBlindly_98 ?_
    refine G_icmp_gt (tgt := 138) dX10_goesBlindly_99 (by decide) ?_ ?_
    · refine G_iinc (v := x2 + 1) (lv' := [(2, .int (x2 + 1)), (0, .ref (ad X 0)), (1, .int x1), (3, .int x3)]) 2 dX10_goesBlindly_138 rfl rfl (by decide) rfl ?_
      refine G_goto (tgt := 28) dX10_goesBlindly_141 (by decide) ?_
      exact G_sub [1, 2, 0] rfl (hk28 x1 (x2 + 1) M)
    · refine G_aload_n 0 dX10_goesBlindly_102 rfl rfl ?_
      refine G_iload_n 2 dX10_goesBlindly_103 rfl rfl ?_
      refine G_iload_n 1 dX10_goesBlindly_104 rfl rfl ?_
      refine G_iload_n 3 dX10_goesBlindly_105 rfl rfl ?_
      refine G_cVi (As := [.int x2, .int x1, .int x3]) (rest := []) (ok_X10_leads x2 x1 x3 M) rfl (y2_0) rfl mv_X10_507 dX10_goesBlindly_106 rfl rfl (Nat.le_of_ble_eq_true rfl) (g_fitN (by decide) (by decide)) (fun r5 M4 => ?_)
      refine G_istore (lv' := [(4, .int r5), (0, .ref (ad X 0)), (1, .int x1), (2, .int x2), (3, .int x3)]) dX10_goesBlindly_109 (by decide) rfl ?_
      refine G_iload 0 dX10_goesBlindly_111 rfl ?_
      refine G_bipush (v := (-2)) dX10_goesBlindly_113 (by decide) ?_
      refine G_icmp_ne (tgt := 120) dX10_goesBlindly_115 (by decide) ?_ ?_
      · refine G_aload_n 1 dX10_goesBlindly_120 rfl rfl ?_
        refine G_get 91 clX10 (y2_0) fl_X10_201 dX10_goesBlindly_121 (by decide) rfl rfl ?_
        refine G_sipush (v := 2079) dX10_goesBlindly_124 (by decide) ?_
        refine G_iload 0 dX10_goesBlindly_127 rfl ?_
        refine G_iadd dX10_goesBlindly_129 ?_
        refine G_iconst (v := 1) dX10_goesBlindly_130 (by decide) ?_
        refine G_zast (y2_61) dX10_goesBlindly_131 ?_
        refine G_m (fun M6 => ?_)
        refine G_iinc (v := x3 + 1) (lv' := [(3, .int (x3 + 1)), (4, .int r5), (0, .ref (ad X 0)), (1, .int x1), (2, .int x2)]) 4 dX10_goesBlindly_132 rfl rfl (by decide) rfl ?_
        refine G_goto (tgt := 92) dX10_goesBlindly_135 (by decide) ?_
        exact G_sub [2, 3, 4, 0] rfl (ih x1 x2 (x3 + 1) M6)
      · refine G_iconst (v := 0) dX10_goesBlindly_118 (by decide) ?_
        exact G_zret (b := false) rfl dX10_goesBlindly_119
def f_X10_goesBlindly_28 : Nat → Int32 → Int32 → gM → Option (Bool × gM)
  | 0, _, _, _ => none
  | n + 1, x1, x2, M => (if (2079 : Int32) ≤ x2 then (some (true, M)) else (g_ck x2 4158 (if (M.1 61 (tn x2)) = 0 then (f_X10_goesBlindly_28 n x1 (x2 + 1) M) else (g_b (f_X10_isOver x2 M) (fun r2 M1 => (if r2 then (g_ck ((2079 : Int32) + x2) 4158 (g_m (sI M1 61 (tn ((2079 : Int32) + x2)) (zb (1 : Int32))) (fun M7 => (f_X10_goesBlindly_28 n x1 (x2 + 1) M7)))) else (g_ck (((6 : Int32) * x2) + x1) 12474 (if (M1.1 49 (tn (((6 : Int32) * x2) + x1))) = 0 then (some (false, M1)) else (g_ck x2 2079 (g_v (M1.1 47 (tn x2)) (fun y3 => (f_X10_goesBlindly_92 (f_X10_goesBlindly_28 n) FU x1 x2 y3 M1))))))))))))
set_option maxRecDepth 100000 in
set_option maxHeartbeats 4000000 in
theorem o_X10_goesBlindly_28 {X : gX} : ∀ (n : Nat) (x1 : Int32) (x2 : Int32) (M : gM), G Y2 jX10_goesBlindly X (g_fin g_eb) 28 [(0, .ref (ad X 0)), (1, .int x1), (2, .int x2)] [] M (f_X10_goesBlindly_28 n x1 x2 M) := by
  intro n
  induction n with
  | zero => intro x1 x2 M; exact G_none
  | succ n ih =>
    intro x1 x2 M
    rw [f_X10_goesBlindly_28]
    refine G_iload_n 2 dX10_goesBlindly_28 rfl rfl ?_
    refine G_sipush (v := 2079) dX10_goesBlindly_29 (by decide) ?_
    refine G_icmp_ge (tgt := 144) dX10_goesBlindly_32 (by decide) ?_ ?_
    · refine G_iconst (v := 1) dX10_goesBlindly_144 (by decide) ?_
      exact G_zret (b := true) rfl dX10_goesBlindly_145
    · refine G_aload_n 0 dX10_goesBlindly_35 rfl rfl ?_
      refine G_get 91 clX10 (y2_0) fl_X10_201 dX10_goesBlindly_36 (by decide) rfl rfl ?_
      refine G_iload_n 2 dX10_goesBlindly_39 rfl rfl ?_
      refine G_zald (y2_61) dX10_goesBlindly_40 ?_
      refine G_if_ne (tgt := 47) dX10_goesBlindly_41 (by decide) ?_ ?_
      · refine G_aload_n 0 dX10_goesBlindly_47 rfl rfl ?_
        refine G_iload_n 2 dX10_goesBlindly_48 rfl rfl ?_
        refine G_cVb (As := [.int x2]) (rest := []) (ok_X10_isOver x2 M) rfl (y2_0) rfl mv_X10_460 dX10_goesBlindly_49 rfl rfl (Nat.le_of_ble_eq_true rfl) (g_fitN (by decide) (by decide)) (fun r2 M1 => ?_)
        refine G_ifB_eq (tgt := 69) dX10_goesBlindly_52 (by decide) ?_ ?_
        · refine G_aload_n 0 dX10_goesBlindly_69 rfl rfl ?_
          refine G_get 79 clX10 (y2_0) fl_X10_163 dX10_goesBlindly_70 (by decide) rfl rfl ?_
          refine G_bipush (v := 6) dX10_goesBlindly_73 (by decide) ?_
          refine G_iload_n 2 dX10_goesBlindly_75 rfl rfl ?_
          refine G_imul dX10_goesBlindly_76 ?_
          refine G_iload_n 1 dX10_goesBlindly_77 rfl rfl ?_
          refine G_iadd dX10_goesBlindly_78 ?_
          refine G_zald (y2_49) dX10_goesBlindly_79 ?_
          refine G_if_ne (tgt := 85) dX10_goesBlindly_80 (by decide) ?_ ?_
          · refine G_aload_n 0 dX10_goesBlindly_85 rfl rfl ?_
            refine G_get 77 clX10 (y2_0) fl_X10_157 dX10_goesBlindly_86 (by decide) rfl rfl ?_
            refine G_iload_n 2 dX10_goesBlindly_89 rfl rfl ?_
            refine G_iald (y2_47) dX10_goesBlindly_90 ?_
            refine G_vi (fun y3 => ?_)
            refine G_istore_n (lv' := [(3, .int y3), (0, .ref (ad X 0)), (1, .int x1), (2, .int x2)]) dX10_goesBlindly_91 rfl (by decide) rfl ?_
            exact G_sub [1, 2, 3, 0] rfl (o_X10_goesBlindly_92 ih FU x1 x2 y3 M1)
          · refine G_iconst (v := 0) dX10_goesBlindly_83 (by decide) ?_
            exact G_zret (b := false) rfl dX10_goesBlindly_84
        · refine G_aload_n 0 dX10_goesBlindly_55 rfl rfl ?_
          refine G_get 91 clX10 (y2_0) fl_X10_201 dX10_goesBlindly_56 (by decide) rfl rfl ?_
          refine G_sipush (v := 2079) dX10_goesBlindly_59 (by decide) ?_
          refine G_iload_n 2 dX10_goesBlindly_62 rfl rfl ?_
          refine G_iadd dX10_goesBlindly_63 ?_
          refine G_iconst (v := 1) dX10_goesBlindly_64 (by decide) ?_
          refine G_zast (y2_61) dX10_goesBlindly_65 ?_
          refine G_m (fun M7 => ?_)
          refine G_goto (tgt := 138) dX10_goesBlindly_66 (by decide) ?_
          refine G_iinc (v := x2 + 1) (lv' := [(2, .int (x2 + 1)), (0, .ref (ad X 0)), (1, .int x1)]) 2 dX10_goesBlindly_138 rfl rfl (by decide) rfl ?_
          refine G_goto (tgt := 28) dX10_goesBlindly_141 (by decide) ?_
          exact G_sub [1, 2, 0] rfl (ih x1 (x2 + 1) M7)
      · refine G_goto (tgt := 138) dX10_goesBlindly_44 (by decide) ?_
        refine G_iinc (v := x2 + 1) (lv' := [(2, .int (x2 + 1)), (0, .ref (ad X 0)), (1, .int x1)]) 2 dX10_goesBlindly_138 rfl rfl (by decide) rfl ?_
        refine G_goto (tgt := 28) dX10_goesBlindly_141 (by decide) ?_
        exact G_sub [1, 2, 0] rfl (ih x1 (x2 + 1) M)
def f_X10_goesBlindly_2 : Nat → Int32 → Int32 → gM → Option (Bool × gM)
  | 0, _, _, _ => none
  | n + 1, x1, x2, M => (if (2079 : Int32) ≤ x2 then (f_X10_goesBlindly_28 FU x1 (0 : Int32) M) else (g_ck ((2079 : Int32) + x2) 4158 (g_m (sI M 61 (tn ((2079 : Int32) + x2)) (zb (0 : Int32))) (fun M8 => (f_X10_goesBlindly_2 n x1 (x2 + 1) M8)))))
set_option maxRecDepth 100000 in
set_option maxHeartbeats 4000000 in
theorem o_X10_goesBlindly_2 {X : gX} : ∀ (n : Nat) (x1 : Int32) (x2 : Int32) (M : gM), G Y2 jX10_goesBlindly X (g_fin g_eb) 2 [(0, .ref (ad X 0)), (1, .int x1), (2, .int x2)] [] M (f_X10_goesBlindly_2 n x1 x2 M) := by
  intro n
  induction n with
  | zero => intro x1 x2 M; exact G_none
  | succ n ih =>
    intro x1 x2 M
    rw [f_X10_goesBlindly_2]
    refine G_iload_n 2 dX10_goesBlindly_2 rfl rfl ?_
    refine G_sipush (v := 2079) dX10_goesBlindly_3 (by decide) ?_
    refine G_icmp_ge (tgt := 26) dX10_goesBlindly_6 (by decide) ?_ ?_
    · refine G_iconst (v := 0) dX10_goesBlindly_26 (by decide) ?_
      refine G_istore_n (lv' := [(2, .int 0), (0, .ref (ad X 0)), (1, .int x1)]) dX10_goesBlindly_27 rfl (by decide) rfl ?_
      exact G_sub [1, 2, 0] rfl (o_X10_goesBlindly_28 FU x1 (0 : Int32) M)
    · refine G_aload_n 0 dX10_goesBlindly_9 rfl rfl ?_
      refine G_get 91 clX10 (y2_0) fl_X10_201 dX10_goesBlindly_10 (by decide) rfl rfl ?_
      refine G_sipush (v := 2079) dX10_goesBlindly_13 (by decide) ?_
      refine G_iload_n 2 dX10_goesBlindly_16 rfl rfl ?_
      refine G_iadd dX10_goesBlindly_17 ?_
      refine G_iconst (v := 0) dX10_goesBlindly_18 (by decide) ?_
      refine G_zast (y2_61) dX10_goesBlindly_19 ?_
      refine G_m (fun M8 => ?_)
      refine G_iinc (v := x2 + 1) (lv' := [(2, .int (x2 + 1)), (0, .ref (ad X 0)), (1, .int x1)]) 2 dX10_goesBlindly_20 rfl rfl (by decide) rfl ?_
      refine G_goto (tgt := 2) dX10_goesBlindly_23 (by decide) ?_
      exact G_sub [1, 2, 0] rfl (ih x1 (x2 + 1) M8)
def f_X10_goesBlindly (a1 : Int32) (M : gM) : Option (Bool × gM) := (f_X10_goesBlindly_2 FU a1 (0 : Int32) M)
set_option maxRecDepth 100000 in
set_option maxHeartbeats 4000000 in
theorem ok_X10_goesBlindly (a1 : Int32) (M : gM) : g_met Y2 yX10_goesBlindly jX10_goesBlindly g_eb (fun Z => [.ref (Z.2.1 0), .int a1]) M (f_X10_goesBlindly a1 M) := by
  refine g_enter (fun Z => [(0, .ref (Z.2.1 0)), (1, .int a1)]) (by decide) rfl (fun Z => Nat.le_of_ble_eq_true rfl) (fun Z => rfl) (fun X => ?_)
  rw [f_X10_goesBlindly]
  refine G_iconst (v := 0) dX10_goesBlindly_0 (by decide) ?_
  refine G_istore_n (lv' := [(2, .int 0), (0, .ref (ad X 0)), (1, .int a1)]) dX10_goesBlindly_1 rfl (by decide) rfl ?_
  exact G_sub [1, 2, 0] rfl (o_X10_goesBlindly_2 FU a1 (0 : Int32) M)
-- X10_isBlindly
def f_X10_isBlindly_118 (k69 : Int32 → Int32 → Int32 → Int32 → Int32 → gM → Option (Bool × gM)) : Nat → Int32 → Int32 → Int32 → Int32 → Int32 → Int32 → gM → Option (Bool × gM)
  | 0, _, _, _, _, _, _, _ => none
  | n + 1, x2, x3, x4, x5, x6, x8, M => (if (2079 : Int32) ≤ x8 then (k69 x2 x3 x4 x5 (x6 + 1) M) else (g_ck ((2079 : Int32) + x8) 4158 (g_ck x8 4158 (g_m (sI M 61 (tn x8) (zb (M.1 61 (tn ((2079 : Int32) + x8))))) (fun M6 => (f_X10_isBlindly_118 k69 n x2 x3 x4 x5 x6 (x8 + 1) M6))))))
set_option maxRecDepth 100000 in
set_option maxHeartbeats 4000000 in
theorem o_X10_isBlindly_118 {X : gX} {k69 : Int32 → Int32 → Int32 → Int32 → Int32 → gM → Option (Bool × gM)} (hk69 : ∀ (x2 : Int32) (x3 : Int32) (x4 : Int32) (x5 : Int32) (x6 : Int32) (M : gM), G Y2 jX10_isBlindly X (g_fin g_eb) 69 [(0, .ref (ad X 0)), (2, .int x2), (3, .int x3), (4, .int x4), (5, .int x5), (6, .int x6)] [] M (k69 x2 x3 x4 x5 x6 M)) : ∀ (n : Nat) (x2 : Int32) (x3 : Int32) (x4 : Int32) (x5 : Int32) (x6 : Int32) (x8 : Int32) (M : gM), G Y2 jX10_isBlindly X (g_fin g_eb) 118 [(0, .ref (ad X 0)), (2, .int x2), (3, .int x3), (4, .int x4), (5, .int x5), (6, .int x6), (8, .int x8)] [] M (f_X10_isBlindly_118 k69 n x2 x3 x4 x5 x6 x8 M) := by
  intro n
  induction n with
  | zero => intro x2 x3 x4 x5 x6 x8 M; exact G_none
  | succ n ih =>
    intro x2 x3 x4 x5 x6 x8 M
    rw [f_X10_isBlindly_118]
    refine G_iload 6 dX10_isBlindly_118 rfl ?_
    refine G_sipush (v := 2079) dX10_isBlindly_120 (by decide) ?_
    refine G_icmp_ge (tgt := 150) dX10_isBlindly_123 (by decide) ?_ ?_
    · refine G_iinc (v := x6 + 1) (lv' := [(6, .int (x6 + 1)), (0, .ref (ad X 0)), (2, .int x2), (3, .int x3), (4, .int x4), (5, .int x5), (8, .int x8)]) 5 dX10_isBlindly_150 rfl rfl (by decide) rfl ?_
      refine G_goto (tgt := 69) dX10_isBlindly_153 (by decide) ?_
      exact G_sub [1, 2, 3, 4, 5, 0] rfl (hk69 x2 x3 x4 x5 (x6 + 1) M)
    · refine G_aload_n 0 dX10_isBlindly_126 rfl rfl ?_
      refine G_get 91 clX10 (y2_0) fl_X10_201 dX10_isBlindly_127 (by decide) rfl rfl ?_
      refine G_iload 6 dX10_isBlindly_130 rfl ?_
      refine G_aload_n 0 dX10_isBlindly_132 rfl rfl ?_
      refine G_get 91 clX10 (y2_0) fl_X10_201 dX10_isBlindly_133 (by decide) rfl rfl ?_
      refine G_sipush (v := 2079) dX10_isBlindly_136 (by decide) ?_
      refine G_iload 6 dX10_isBlindly_139 rfl ?_
      refine G_iadd dX10_isBlindly_141 ?_
      refine G_zald (y2_61) dX10_isBlindly_142 ?_
      refine G_zast (y2_61) dX10_isBlindly_143 ?_
      refine G_m (fun M6 => ?_)
      refine G_iinc (v := x8 + 1) (lv' := [(8, .int (x8 + 1)), (0, .ref (ad X 0)), (2, .int x2), (3, .int x3), (4, .int x4), (5, .int x5), (6, .int x6)]) 6 dX10_isBlindly_144 rfl rfl (by decide) rfl ?_
      refine G_goto (tgt := 118) dX10_isBlindly_147 (by decide) ?_
      exact G_sub [1, 2, 3, 4, 5, 6, 0] rfl (ih x2 x3 x4 x5 x6 (x8 + 1) M6)
def f_X10_isBlindly_102 (k69 : Int32 → Int32 → Int32 → Int32 → Int32 → gM → Option (Bool × gM)) (x2 : Int32) (x3 : Int32) (x4 : Int32) (x6 : Int32) (x7 : Int32) (s0 : Int32) (M : gM) : Option (Bool × gM) := (g_b (f_X10_goesBlindly x7 M) (fun r5 M4 => (if r5 then (f_X10_isBlindly_118 k69 FU x2 x3 x4 s0 x6 (0 : Int32) M4) else (some (false, M4)))))
set_option maxRecDepth 100000 in
set_option maxHeartbeats 4000000 in
theorem o_X10_isBlindly_102 {X : gX} {k69 : Int32 → Int32 → Int32 → Int32 → Int32 → gM → Option (Bool × gM)} (hk69 : ∀ (x2 : Int32) (x3 : Int32) (x4 : Int32) (x5 : Int32) (x6 : Int32) (M : gM), G Y2 jX10_isBlindly X (g_fin g_eb) 69 [(0, .ref (ad X 0)), (2, .int x2), (3, .int x3), (4, .int x4), (5, .int x5), (6, .int x6)] [] M (k69 x2 x3 x4 x5 x6 M)) (x2 : Int32) (x3 : Int32) (x4 : Int32) (x6 : Int32) (x7 : Int32) (s0 : Int32) (M : gM) : G Y2 jX10_isBlindly X (g_fin g_eb) 102 [(0, .ref (ad X 0)), (2, .int x2), (3, .int x3), (4, .int x4), (6, .int x6), (7, .int x7)] [.int s0] M (f_X10_isBlindly_102 k69 x2 x3 x4 x6 x7 s0 M) := by
  rw [f_X10_isBlindly_102]
  refine G_istore (lv' := [(5, .int s0), (0, .ref (ad X 0)), (2, .int x2), (3, .int x3), (4, .int x4), (6, .int x6), (7, .int x7)]) dX10_isBlindly_102 (by decide) rfl ?_
  refine G_aload_n 1 dX10_isBlindly_104 rfl rfl ?_
  refine G_iload 6 dX10_isBlindly_105 rfl ?_
  refine G_cVb (As := [.int x7]) (rest := []) (ok_X10_goesBlindly x7 M) rfl (y2_0) rfl mv_X10_543 dX10_isBlindly_107 rfl rfl (Nat.le_of_ble_eq_true rfl) (g_fitN (by decide) (by decide)) (fun r5 M4 => ?_)
  refine G_ifB_ne (tgt := 115) dX10_isBlindly_110 (by decide) ?_ ?_
  · refine G_iconst (v := 0) dX10_isBlindly_115 (by decide) ?_
    refine G_istore (lv' := [(8, .int 0), (5, .int s0), (0, .ref (ad X 0)), (2, .int x2), (3, .int x3), (4, .int x4), (6, .int x6), (7, .int x7)]) dX10_isBlindly_116 (by decide) rfl ?_
    exact G_sub [2, 3, 4, 5, 1, 6, 0] rfl (o_X10_isBlindly_118 hk69 FU x2 x3 x4 s0 x6 (0 : Int32) M4)
  · refine G_iconst (v := 0) dX10_isBlindly_113 (by decide) ?_
    exact G_zret (b := false) rfl dX10_isBlindly_114
def f_X10_isBlindly_69 : Nat → Int32 → Int32 → Int32 → Int32 → Int32 → gM → Option (Bool × gM)
  | 0, _, _, _, _, _, _ => none
  | n + 1, x2, x3, x4, x5, x6, M => (if x2 ≤ x6 then (some (true, M)) else (g_nz x5 (g_nz x4 (g_v ((x3 / x5) - (x3 / x5) / x4 * x4) (fun y3 => (if (x2 - (1 : Int32)) ≤ x6 then (f_X10_isBlindly_102 (f_X10_isBlindly_69 n) x2 x3 x4 x6 y3 x5 M) else (g_nz x4 (f_X10_isBlindly_102 (f_X10_isBlindly_69 n) x2 x3 x4 x6 y3 (x5 / x4) M))))))))
set_option maxRecDepth 100000 in
set_option maxHeartbeats 4000000 in
theorem o_X10_isBlindly_69 {X : gX} : ∀ (n : Nat) (x2 : Int32) (x3 : Int32) (x4 : Int32) (x5 : Int32) (x6 : Int32) (M : gM), G Y2 jX10_isBlindly X (g_fin g_eb) 69 [(0, .ref (ad X 0)), (2, .int x2), (3, .int x3), (4, .int x4), (5, .int x5), (6, .int x6)] [] M (f_X10_isBlindly_69 n x2 x3 x4 x5 x6 M) := by
  intro n
  induction n with
  | zero => intro x2 x3 x4 x5 x6 M; exact G_none
  | succ n ih =>
    intro x2 x3 x4 x5 x6 M
    rw [f_X10_isBlindly_69]
    refine G_iload 5 dX10_isBlindly_69 rfl ?_
    refine G_iload_n 1 dX10_isBlindly_71 rfl rfl ?_
    refine G_icmp_ge (tgt := 156) dX10_isBlindly_72 (by decide) ?_ ?_
    · refine G_iconst (v := 1) dX10_isBlindly_156 (by decide) ?_
      exact G_zret (b := true) rfl dX10_isBlindly_157
    · refine G_iload_n 2 dX10_isBlindly_75 rfl rfl ?_
      refine G_iload 4 dX10_isBlindly_76 rfl ?_
      refine G_idiv dX10_isBlindly_78 ?_
      refine G_iload 3 dX10_isBlindly_79 rfl ?_
      refine G_irem dX10_isBlindly_81 ?_
      refine G_vi (fun y3 => ?_)
      refine G_istore (lv' := [(7, .int y3), (0, .ref (ad X 0)), (2, .int x2), (3, .int x3), (4, .int x4), (5, .int x5), (6, .int x6)]) dX10_isBlindly_82 (by decide) rfl ?_
      refine G_iload 6 dX10_isBlindly_84 rfl ?_
      refine G_iload_n 2 dX10_isBlindly_86 rfl rfl ?_
      refine G_iconst (v := 1) dX10_isBlindly_87 (by decide) ?_
      refine G_isub dX10_isBlindly_88 ?_
      refine G_icmp_ge (tgt := 100) dX10_isBlindly_89 (by decide) ?_ ?_
      · refine G_iload 5 dX10_isBlindly_100 rfl ?_
        exact G_sub [1, 2, 3, 4, 6, 0] rfl (o_X10_isBlindly_102 ih x2 x3 x4 x6 y3 x5 M)
      · refine G_iload 5 dX10_isBlindly_92 rfl ?_
        refine G_iload 4 dX10_isBlindly_94 rfl ?_
        refine G_idiv dX10_isBlindly_96 ?_
        refine G_goto (tgt := 102) dX10_isBlindly_97 (by decide) ?_
        exact G_sub [1, 2, 3, 4, 6, 0] rfl (o_X10_isBlindly_102 ih x2 x3 x4 x6 y3 (x5 / x4) M)
def f_X10_isBlindly_47 : Nat → Int32 → Int32 → Int32 → Int32 → Int32 → gM → Option (Bool × gM)
  | 0, _, _, _, _, _, _ => none
  | n + 1, x2, x3, x4, x5, x6, M => (if x2 ≤ x6 then (f_X10_isBlindly_69 FU x2 x3 x4 x5 (0 : Int32) M) else (g_v (x5 * x4) (fun y7 => (f_X10_isBlindly_47 n x2 x3 x4 y7 (x6 + 1) M))))
set_option maxRecDepth 100000 in
set_option maxHeartbeats 4000000 in
theorem o_X10_isBlindly_47 {X : gX} : ∀ (n : Nat) (x2 : Int32) (x3 : Int32) (x4 : Int32) (x5 : Int32) (x6 : Int32) (M : gM), G Y2 jX10_isBlindly X (g_fin g_eb) 47 [(0, .ref (ad X 0)), (2, .int x2), (3, .int x3), (4, .int x4), (5, .int x5), (6, .int x6)] [] M (f_X10_isBlindly_47 n x2 x3 x4 x5 x6 M) := by
  intro n
  induction n with
  | zero => intro x2 x3 x4 x5 x6 M; exact G_none
  | succ n ih =>
    intro x2 x3 x4 x5 x6 M
    rw [f_X10_isBlindly_47]
    refine G_iload 5 dX10_isBlindly_47 rfl ?_
    refine G_iload_n 1 dX10_isBlindly_49 rfl rfl ?_
    refine G_icmp_ge (tgt := 66) dX10_isBlindly_50 (by decide) ?_ ?_
    · refine G_iconst (v := 0) dX10_isBlindly_66 (by decide) ?_
      refine G_istore (lv' := [(6, .int 0), (0, .ref (ad X 0)), (2, .int x2), (3, .int x3), (4, .int x4), (5, .int x5)]) dX10_isBlindly_67 (by decide) rfl ?_
      exact G_sub [1, 2, 3, 4, 5, 0] rfl (o_X10_isBlindly_69 FU x2 x3 x4 x5 (0 : Int32) M)
    · refine G_iload 4 dX10_isBlindly_53 rfl ?_
      refine G_iload 3 dX10_isBlindly_55 rfl ?_
      refine G_imul dX10_isBlindly_57 ?_
      refine G_vi (fun y7 => ?_)
      refine G_istore (lv' := [(5, .int y7), (0, .ref (ad X 0)), (2, .int x2), (3, .int x3), (4, .int x4), (6, .int x6)]) dX10_isBlindly_58 (by decide) rfl ?_
      refine G_iinc (v := x6 + 1) (lv' := [(6, .int (x6 + 1)), (5, .int y7), (0, .ref (ad X 0)), (2, .int x2), (3, .int x3), (4, .int x4)]) 5 dX10_isBlindly_60 rfl rfl (by decide) rfl ?_
      refine G_goto (tgt := 47) dX10_isBlindly_63 (by decide) ?_
      exact G_sub [2, 3, 4, 5, 1, 0] rfl (ih x2 x3 x4 y7 (x6 + 1) M)
def f_X10_isBlindly_9 : Nat → Int32 → Int32 → Int32 → Int32 → Int32 → gM → Option (Bool × gM)
  | 0, _, _, _, _, _, _ => none
  | n + 1, x1, x2, x3, x4, x5, M => (if (2079 : Int32) ≤ x5 then (f_X10_isBlindly_47 FU x2 x3 x4 (1 : Int32) (1 : Int32) M) else (if x5 = x1 then (g_ck x5 4158 (g_m (sI M 61 (tn x5) (zb (1 : Int32))) (fun M9 => (f_X10_isBlindly_9 n x1 x2 x3 x4 (x5 + 1) M9)))) else (g_ck x5 4158 (g_m (sI M 61 (tn x5) (zb (0 : Int32))) (fun M8 => (f_X10_isBlindly_9 n x1 x2 x3 x4 (x5 + 1) M8))))))
set_option maxRecDepth 100000 in
set_option maxHeartbeats 4000000 in
theorem o_X10_isBlindly_9 {X : gX} : ∀ (n : Nat) (x1 : Int32) (x2 : Int32) (x3 : Int32) (x4 : Int32) (x5 : Int32) (M : gM), G Y2 jX10_isBlindly X (g_fin g_eb) 9 [(0, .ref (ad X 0)), (1, .int x1), (2, .int x2), (3, .int x3), (4, .int x4), (5, .int x5)] [] M (f_X10_isBlindly_9 n x1 x2 x3 x4 x5 M) := by
  intro n
  induction n with
  | zero => intro x1 x2 x3 x4 x5 M; exact G_none
  | succ n ih =>
    intro x1 x2 x3 x4 x5 M
    rw [f_X10_isBlindly_9]
    refine G_iload 5 dX10_isBlindly_9 rfl ?_
    refine G_sipush (v := 2079) dX10_isBlindly_11 (by decide) ?_
    refine G_icmp_ge (tgt := 41) dX10_isBlindly_14 (by decide) ?_ ?_
    · refine G_iconst (v := 1) dX10_isBlindly_41 (by decide) ?_
      refine G_istore (lv' := [(5, .int 1), (0, .ref (ad X 0)), (1, .int x1), (2, .int x2), (3, .int x3), (4, .int x4)]) dX10_isBlindly_42 (by decide) rfl ?_
      refine G_iconst (v := 1) dX10_isBlindly_44 (by decide) ?_
      refine G_istore (lv' := [(6, .int 1), (5, .int 1), (0, .ref (ad X 0)), (1, .int x1), (2, .int x2), (3, .int x3), (4, .int x4)]) dX10_isBlindly_45 (by decide) rfl ?_
      exact G_sub [2, 4, 5, 6, 1, 0] rfl (o_X10_isBlindly_47 FU x2 x3 x4 (1 : Int32) (1 : Int32) M)
    · refine G_aload_n 0 dX10_isBlindly_17 rfl rfl ?_
      refine G_get 91 clX10 (y2_0) fl_X10_201 dX10_isBlindly_18 (by decide) rfl rfl ?_
      refine G_iload 5 dX10_isBlindly_21 rfl ?_
      refine G_iload 5 dX10_isBlindly_23 rfl ?_
      refine G_iload_n 1 dX10_isBlindly_25 rfl rfl ?_
      refine G_icmp_ne (tgt := 33) dX10_isBlindly_26 (by decide) ?_ ?_
      · refine G_iconst (v := 0) dX10_isBlindly_33 (by decide) ?_
        refine G_zast (y2_61) dX10_isBlindly_34 ?_
        refine G_m (fun M8 => ?_)
        refine G_iinc (v := x5 + 1) (lv' := [(5, .int (x5 + 1)), (0, .ref (ad X 0)), (1, .int x1), (2, .int x2), (3, .int x3), (4, .int x4)]) 5 dX10_isBlindly_35 rfl rfl (by decide) rfl ?_
        refine G_goto (tgt := 9) dX10_isBlindly_38 (by decide) ?_
        exact G_sub [1, 2, 3, 4, 5, 0] rfl (ih x1 x2 x3 x4 (x5 + 1) M8)
      · refine G_iconst (v := 1) dX10_isBlindly_29 (by decide) ?_
        refine G_goto (tgt := 34) dX10_isBlindly_30 (by decide) ?_
        refine G_zast (y2_61) dX10_isBlindly_34 ?_
        refine G_m (fun M9 => ?_)
        refine G_iinc (v := x5 + 1) (lv' := [(5, .int (x5 + 1)), (0, .ref (ad X 0)), (1, .int x1), (2, .int x2), (3, .int x3), (4, .int x4)]) 5 dX10_isBlindly_35 rfl rfl (by decide) rfl ?_
        refine G_goto (tgt := 9) dX10_isBlindly_38 (by decide) ?_
        exact G_sub [1, 2, 3, 4, 5, 0] rfl (ih x1 x2 x3 x4 (x5 + 1) M9)
def f_X10_isBlindly (a1 : Int32) (a2 : Int32) (a3 : Int32) (M : gM) : Option (Bool × gM) := (g_b (f_X10_actsOf M) (fun r2 M1 => (f_X10_isBlindly_9 FU a1 a2 a3 r2 (0 : Int32) M1)))
set_option maxRecDepth 100000 in
set_option maxHeartbeats 4000000 in
theorem ok_X10_isBlindly (a1 : Int32) (a2 : Int32) (a3 : Int32) (M : gM) : g_met Y2 yX10_isBlindly jX10_isBlindly g_eb (fun Z => [.ref (Z.2.1 0), .int a1, .int a2, .int a3]) M (f_X10_isBlindly a1 a2 a3 M) := by
  refine g_enter (fun Z => [(0, .ref (Z.2.1 0)), (1, .int a1), (2, .int a2), (3, .int a3)]) (by decide) rfl (fun Z => Nat.le_of_ble_eq_true rfl) (fun Z => rfl) (fun X => ?_)
  rw [f_X10_isBlindly]
  refine G_aload_n 0 dX10_isBlindly_0 rfl rfl ?_
  refine G_cVi (As := []) (rest := []) (ok_X10_actsOf M) rfl (y2_0) rfl mv_X10_482 dX10_isBlindly_1 rfl rfl (Nat.le_of_ble_eq_true rfl) (g_fitN (by decide) (by decide)) (fun r2 M1 => ?_)
  refine G_istore (lv' := [(4, .int r2), (0, .ref (ad X 0)), (1, .int a1), (2, .int a2), (3, .int a3)]) dX10_isBlindly_4 (by decide) rfl ?_
  refine G_iconst (v := 0) dX10_isBlindly_6 (by decide) ?_
  refine G_istore (lv' := [(5, .int 0), (4, .int r2), (0, .ref (ad X 0)), (1, .int a1), (2, .int a2), (3, .int a3)]) dX10_isBlindly_7 (by decide) rfl ?_
  exact G_sub [2, 3, 4, 5, 1, 0] rfl (o_X10_isBlindly_9 FU a1 a2 a3 r2 (0 : Int32) M1)
