-- X4_addGusts
def f_X4_addGusts (t : Nat) (a1 : Int32) (a2 : Int32) (a3 : Int32) (a4 : Int32) (a5 : Int32) (M : gM) : Option (Unit × gM) := (g_v ((M.1 t 6) * (5 : Int32)) (fun y1 => (if (40 : Int32) < (y1 + (5 : Int32)) then (some ((), M)) else (g_ck y1 40 (g_m (sI M (t + 6) (tn y1) a1) (fun M2 => (g_ck (y1 + (1 : Int32)) 40 (g_m (sI M2 (t + 6) (tn (y1 + (1 : Int32))) a2) (fun M3 => (g_ck (y1 + (2 : Int32)) 40 (g_m (sI M3 (t + 6) (tn (y1 + (2 : Int32))) a3) (fun M4 => (g_ck (y1 + (3 : Int32)) 40 (g_m (sI M4 (t + 6) (tn (y1 + (3 : Int32))) a4) (fun M5 => (g_ck (y1 + (4 : Int32)) 40 (g_m (sI M5 (t + 6) (tn (y1 + (4 : Int32))) a5) (fun M6 => (g_m (sI M6 t 6 ((M6.1 t 6) + (1 : Int32))) (fun M7 => (some ((), M7))))))))))))))))))))))
set_option maxRecDepth 100000 in
set_option maxHeartbeats 4000000 in
theorem ok_X4_addGusts {t : Nat} (ht : t = 3 ∨ t = 12) (a1 : Int32) (a2 : Int32) (a3 : Int32) (a4 : Int32) (a5 : Int32) (M : gM) : g_met Y1 yX4_addGusts jX4_addGusts g_ev (fun Z => [.ref (Z.2.1 t), .int a1, .int a2, .int a3, .int a4, .int a5]) M (f_X4_addGusts t a1 a2 a3 a4 a5 M) := by
  refine g_enter (fun Z => [(0, .ref (Z.2.1 t)), (1, .int a1), (2, .int a2), (3, .int a3), (4, .int a4), (5, .int a5)]) (by decide) rfl (fun Z => Nat.le_of_ble_eq_true rfl) (fun Z => rfl) (fun X => ?_)
  rw [f_X4_addGusts]
  refine G_aload_n 0 dX4_addGusts_0 rfl rfl ?_
  refine G_get 6 clX4 (ro_0 ht) fl_X4_56 dX4_addGusts_1 (by decide) rfl rfl ?_
  refine G_iconst (v := 5) dX4_addGusts_4 (by decide) ?_
  refine G_imul dX4_addGusts_5 ?_
  refine G_vi (fun y1 => ?_)
  refine G_istore (lv' := [(6, .int y1), (0, .ref (ad X t)), (1, .int a1), (2, .int a2), (3, .int a3), (4, .int a4), (5, .int a5)]) dX4_addGusts_6 (by decide) rfl ?_
  refine G_iload 0 dX4_addGusts_8 rfl ?_
  refine G_iconst (v := 5) dX4_addGusts_10 (by decide) ?_
  refine G_iadd dX4_addGusts_11 ?_
  refine G_aload_n 1 dX4_addGusts_12 rfl rfl ?_
  refine G_get 14 clX4 (ro_0 ht) fl_X4_28 dX4_addGusts_13 (by decide) rfl rfl ?_
  refine G_alen (v := 40) (ro_6 ht) rfl dX4_addGusts_16 ?_
  refine G_icmp_gt (tgt := 80) dX4_addGusts_17 (by decide) ?_ ?_
  · exact G_vret rfl dX4_addGusts_80
  · refine G_aload_n 1 dX4_addGusts_20 rfl rfl ?_
    refine G_get 14 clX4 (ro_0 ht) fl_X4_28 dX4_addGusts_21 (by decide) rfl rfl ?_
    refine G_iload 0 dX4_addGusts_24 rfl ?_
    refine G_iload_n 2 dX4_addGusts_26 rfl rfl ?_
    refine G_iast (ro_6 ht) dX4_addGusts_27 ?_
    refine G_m (fun M2 => ?_)
    refine G_aload_n 1 dX4_addGusts_28 rfl rfl ?_
    refine G_get 14 clX4 (ro_0 ht) fl_X4_28 dX4_addGusts_29 (by decide) rfl rfl ?_
    refine G_iload 0 dX4_addGusts_32 rfl ?_
    refine G_iconst (v := 1) dX4_addGusts_34 (by decide) ?_
    refine G_iadd dX4_addGusts_35 ?_
    refine G_iload_n 3 dX4_addGusts_36 rfl rfl ?_
    refine G_iast (ro_6 ht) dX4_addGusts_37 ?_
    refine G_m (fun M3 => ?_)
    refine G_aload_n 1 dX4_addGusts_38 rfl rfl ?_
    refine G_get 14 clX4 (ro_0 ht) fl_X4_28 dX4_addGusts_39 (by decide) rfl rfl ?_
    refine G_iload 0 dX4_addGusts_42 rfl ?_
    refine G_iconst (v := 2) dX4_addGusts_44 (by decide) ?_
    refine G_iadd dX4_addGusts_45 ?_
    refine G_iload_n 4 dX4_addGusts_46 rfl rfl ?_
    refine G_iast (ro_6 ht) dX4_addGusts_47 ?_
    refine G_m (fun M4 => ?_)
    refine G_aload_n 1 dX4_addGusts_48 rfl rfl ?_
    refine G_get 14 clX4 (ro_0 ht) fl_X4_28 dX4_addGusts_49 (by decide) rfl rfl ?_
    refine G_iload 0 dX4_addGusts_52 rfl ?_
    refine G_iconst (v := 3) dX4_addGusts_54 (by decide) ?_
    refine G_iadd dX4_addGusts_55 ?_
    refine G_iload 5 dX4_addGusts_56 rfl ?_
    refine G_iast (ro_6 ht) dX4_addGusts_58 ?_
    refine G_m (fun M5 => ?_)
    refine G_aload_n 1 dX4_addGusts_59 rfl rfl ?_
    refine G_get 14 clX4 (ro_0 ht) fl_X4_28 dX4_addGusts_60 (by decide) rfl rfl ?_
    refine G_iload 0 dX4_addGusts_63 rfl ?_
    refine G_iconst (v := 4) dX4_addGusts_65 (by decide) ?_
    refine G_iadd dX4_addGusts_66 ?_
    refine G_iload 6 dX4_addGusts_67 rfl ?_
    refine G_iast (ro_6 ht) dX4_addGusts_69 ?_
    refine G_m (fun M6 => ?_)
    refine G_aload_n 1 dX4_addGusts_70 rfl rfl ?_
    refine G_dup dX4_addGusts_71 rfl ?_
    refine G_get 6 clX4 (ro_0 ht) fl_X4_56 dX4_addGusts_72 (by decide) rfl rfl ?_
    refine G_iconst (v := 1) dX4_addGusts_75 (by decide) ?_
    refine G_iadd dX4_addGusts_76 ?_
    refine G_putI 6 clX4 (ro_0 ht) fl_X4_56 dX4_addGusts_77 (by decide) rfl rfl rfl ?_
    refine G_m (fun M7 => ?_)
    exact G_vret rfl dX4_addGusts_80
-- X1_tellGusts
def f_X1_tellGusts_135 (x1 : Int32) (x2 : Int32) (x3 : Int32) (x4 : Int32) (x5 : Int32) (M : gM) : Option (Bool × gM) := (g_or 3 12 (M.2.2 21 6) (fun t24 => (g_b (f_X4_addGusts t24 x1 x2 x3 x4 x5 M) (fun r26 M25 => (g_b (f_X1_take (19 : Int32) M25) (fun r28 M27 => (some (r28, M27))))))))
set_option maxRecDepth 100000 in
set_option maxHeartbeats 4000000 in
theorem o_X1_tellGusts_135 {X : gX} (x1 : Int32) (x2 : Int32) (x3 : Int32) (x4 : Int32) (x5 : Int32) (M : gM) : G Y1 jX1_tellGusts X (g_fin g_eb) 135 [(0, .ref (ad X 21)), (1, .int x1), (2, .int x2), (3, .int x3), (4, .int x4), (5, .int x5)] [] M (f_X1_tellGusts_135 x1 x2 x3 x4 x5 M) := by
  rw [f_X1_tellGusts_135]
  refine G_aload_n 0 dX1_tellGusts_135 rfl rfl ?_
  refine G_getO 6 clX1 (y1_21) fl_X1_22 dX1_tellGusts_136 (by decide) rfl (by decide) (fun t24 ht24 => ?_)
  refine G_iload_n 1 dX1_tellGusts_139 rfl rfl ?_
  refine G_iload_n 2 dX1_tellGusts_140 rfl rfl ?_
  refine G_iload_n 3 dX1_tellGusts_141 rfl rfl ?_
  refine G_iload 4 dX1_tellGusts_142 rfl ?_
  refine G_iload 5 dX1_tellGusts_144 rfl ?_
  refine G_cVv (As := [.int x1, .int x2, .int x3, .int x4, .int x5]) (rest := []) (ok_X4_addGusts ht24 x1 x2 x3 x4 x5 M) rfl (ro_0 ht24) rfl mv_X1_155 dX1_tellGusts_146 rfl rfl (Nat.le_of_ble_eq_true rfl) (g_fitN (by decide) (by decide)) (fun r26 M25 => ?_)
  refine G_aload_n 0 dX1_tellGusts_149 rfl rfl ?_
  refine G_bipush (v := 19) dX1_tellGusts_150 (by decide) ?_
  refine G_cVb (As := [.int 19]) (rest := []) (ok_X1_take (19 : Int32) M25) rfl (y1_21) rfl mv_X1_107 dX1_tellGusts_152 rfl rfl (Nat.le_of_ble_eq_true rfl) (g_fitN (by decide) (by decide)) (fun r28 M27 => ?_)
  exact G_zret rfl dX1_tellGusts_155
def f_X1_tellGusts (M : gM) : Option (Bool × gM) := (g_or 3 12 (M.2.2 21 6) (fun t1 => (if (M.1 t1 6) < (8 : Int32) then (g_b (f_X1_step M) (fun r3 M2 => (if r3 then (g_b (f_X1_takeInt (0 : Int32) (8 : Int32) M2) (fun r5 M4 => (if r5 then (g_v (M4.1 21 5) (fun y6 => (g_b (f_X1_takeInt y6 (8 : Int32) M4) (fun r8 M7 => (if r8 then (g_v (M7.1 21 5) (fun y9 => (g_b (f_X1_takeSigned ((-6) : Int32) (6 : Int32) M7) (fun r11 M10 => (if r11 then (g_v (M10.1 21 5) (fun y12 => (g_b (f_X1_takeSigned y12 (6 : Int32) M10) (fun r14 M13 => (if r14 then (g_v (M13.1 21 5) (fun y15 => (g_or 3 12 (M13.2.2 21 6) (fun t16 => (g_v (M13.1 t16 8) (fun y17 => (g_b (f_X1_kind M13) (fun r19 M18 => (if r19 = (12 : Int32) then (g_b (f_X1_step M18) (fun r21 M20 => (if r21 then (g_b (f_X1_condition M20) (fun r23 M22 => (if r23 then (f_X1_tellGusts_135 y6 y9 y12 y15 y17 M22) else (some (false, M22))))) else (some (false, M20))))) else (f_X1_tellGusts_135 y6 y9 y12 y15 ((-1) : Int32) M18)))))))))) else (some (false, M13))))))) else (some (false, M10))))))) else (some (false, M7))))))) else (some (false, M4))))) else (some (false, M2))))) else (g_b (f_X1_fail (2 : Int32) M) (fun r30 M29 => (some (r30, M29)))))))
set_option maxRecDepth 100000 in
set_option maxHeartbeats 4000000 in
theorem ok_X1_tellGusts (M : gM) : g_met Y1 yX1_tellGusts jX1_tellGusts g_eb (fun Z => [.ref (Z.2.1 21)]) M (f_X1_tellGusts M) := by
  refine g_enter (fun Z => [(0, .ref (Z.2.1 21))]) (by decide) rfl (fun Z => Nat.le_of_ble_eq_true rfl) (fun Z => rfl) (fun X => ?_)
  rw [f_X1_tellGusts]
  refine G_aload_n 0 dX1_tellGusts_0 rfl rfl ?_
  refine G_getO 6 clX1 (y1_21) fl_X1_22 dX1_tellGusts_1 (by decide) rfl (by decide) (fun t1 ht1 => ?_)
  refine G_get 6 clX4 (ro_0 ht1) fl_X1_152 dX1_tellGusts_4 (by decide) rfl rfl ?_
  refine G_bipush (v := 8) dX1_tellGusts_7 (by decide) ?_
  refine G_icmp_lt (tgt := 18) dX1_tellGusts_9 (by decide) ?_ ?_
  · refine G_aload_n 0 dX1_tellGusts_18 rfl rfl ?_
    refine G_cVb (As := []) (rest := []) (ok_X1_step M) rfl (y1_21) rfl mv_X1_88 dX1_tellGusts_19 rfl rfl (Nat.le_of_ble_eq_true rfl) (g_fitN (by decide) (by decide)) (fun r3 M2 => ?_)
    refine G_ifB_eq (tgt := 35) dX1_tellGusts_22 (by decide) ?_ ?_
    · refine G_iconst (v := 0) dX1_tellGusts_35 (by decide) ?_
      exact G_zret (b := false) rfl dX1_tellGusts_36
    · refine G_aload_n 0 dX1_tellGusts_25 rfl rfl ?_
      refine G_iconst (v := 0) dX1_tellGusts_26 (by decide) ?_
      refine G_bipush (v := 8) dX1_tellGusts_27 (by decide) ?_
      refine G_cVb (As := [.int 0, .int 8]) (rest := []) (ok_X1_takeInt (0 : Int32) (8 : Int32) M2) rfl (y1_21) rfl mv_X1_91 dX1_tellGusts_29 rfl rfl (Nat.le_of_ble_eq_true rfl) (g_fitN (by decide) (by decide)) (fun r5 M4 => ?_)
      refine G_ifB_ne (tgt := 37) dX1_tellGusts_32 (by decide) ?_ ?_
      · refine G_aload_n 0 dX1_tellGusts_37 rfl rfl ?_
        refine G_get 5 clX1 (y1_21) fl_X1_95 dX1_tellGusts_38 (by decide) rfl rfl ?_
        refine G_vi (fun y6 => ?_)
        refine G_istore_n (lv' := [(1, .int y6), (0, .ref (ad X 21))]) dX1_tellGusts_41 rfl (by decide) rfl ?_
        refine G_aload_n 1 dX1_tellGusts_42 rfl rfl ?_
        refine G_iload_n 0 dX1_tellGusts_43 rfl rfl ?_
        refine G_bipush (v := 8) dX1_tellGusts_44 (by decide) ?_
        refine G_cVb (As := [.int y6, .int 8]) (rest := []) (ok_X1_takeInt y6 (8 : Int32) M4) rfl (y1_21) rfl mv_X1_91 dX1_tellGusts_46 rfl rfl (Nat.le_of_ble_eq_true rfl) (g_fitN (by decide) (by decide)) (fun r8 M7 => ?_)
        refine G_ifB_ne (tgt := 54) dX1_tellGusts_49 (by decide) ?_ ?_
        · refine G_aload_n 1 dX1_tellGusts_54 rfl rfl ?_
          refine G_get 5 clX1 (y1_21) fl_X1_95 dX1_tellGusts_55 (by decide) rfl rfl ?_
          refine G_vi (fun y9 => ?_)
          refine G_istore_n (lv' := [(2, .int y9), (1, .int y6), (0, .ref (ad X 21))]) dX1_tellGusts_58 rfl (by decide) rfl ?_
          refine G_aload_n 2 dX1_tellGusts_59 rfl rfl ?_
          refine G_bipush (v := (-6)) dX1_tellGusts_60 (by decide) ?_
          refine G_bipush (v := 6) dX1_tellGusts_62 (by decide) ?_
          refine G_cVb (As := [.int (-6), .int 6]) (rest := []) (ok_X1_takeSigned ((-6) : Int32) (6 : Int32) M7) rfl (y1_21) rfl mv_X1_142 dX1_tellGusts_64 rfl rfl (Nat.le_of_ble_eq_true rfl) (g_fitN (by decide) (by decide)) (fun r11 M10 => ?_)
          refine G_ifB_ne (tgt := 72) dX1_tellGusts_67 (by decide) ?_ ?_
          · refine G_aload_n 2 dX1_tellGusts_72 rfl rfl ?_
            refine G_get 5 clX1 (y1_21) fl_X1_95 dX1_tellGusts_73 (by decide) rfl rfl ?_
            refine G_vi (fun y12 => ?_)
            refine G_istore_n (lv' := [(3, .int y12), (2, .int y9), (1, .int y6), (0, .ref (ad X 21))]) dX1_tellGusts_76 rfl (by decide) rfl ?_
            refine G_aload_n 3 dX1_tellGusts_77 rfl rfl ?_
            refine G_iload_n 0 dX1_tellGusts_78 rfl rfl ?_
            refine G_bipush (v := 6) dX1_tellGusts_79 (by decide) ?_
            refine G_cVb (As := [.int y12, .int 6]) (rest := []) (ok_X1_takeSigned y12 (6 : Int32) M10) rfl (y1_21) rfl mv_X1_142 dX1_tellGusts_81 rfl rfl (Nat.le_of_ble_eq_true rfl) (g_fitN (by decide) (by decide)) (fun r14 M13 => ?_)
            refine G_ifB_ne (tgt := 89) dX1_tellGusts_84 (by decide) ?_ ?_
            · refine G_aload_n 3 dX1_tellGusts_89 rfl rfl ?_
              refine G_get 5 clX1 (y1_21) fl_X1_95 dX1_tellGusts_90 (by decide) rfl rfl ?_
              refine G_vi (fun y15 => ?_)
              refine G_istore (lv' := [(4, .int y15), (3, .int y12), (2, .int y9), (1, .int y6), (0, .ref (ad X 21))]) dX1_tellGusts_93 (by decide) rfl ?_
              refine G_aload_n 4 dX1_tellGusts_95 rfl rfl ?_
              refine G_getO 6 clX1 (y1_21) fl_X1_22 dX1_tellGusts_96 (by decide) rfl (by decide) (fun t16 ht16 => ?_)
              refine G_get 8 clX4 (ro_0 ht16) fl_X1_118 dX1_tellGusts_99 (by decide) rfl rfl ?_
              refine G_vi (fun y17 => ?_)
              refine G_istore (lv' := [(5, .int y17), (4, .int y15), (3, .int y12), (2, .int y9), (1, .int y6), (0, .ref (ad X 21))]) dX1_tellGusts_102 (by decide) rfl ?_
              refine G_aload_n 5 dX1_tellGusts_104 rfl rfl ?_
              refine G_cVi (As := []) (rest := []) (ok_X1_kind M13) rfl (y1_21) rfl mv_X1_51 dX1_tellGusts_105 rfl rfl (Nat.le_of_ble_eq_true rfl) (g_fitN (by decide) (by decide)) (fun r19 M18 => ?_)
              refine G_bipush (v := 12) dX1_tellGusts_108 (by decide) ?_
              refine G_icmp_eq (tgt := 119) dX1_tellGusts_110 (by decide) ?_ ?_
              · refine G_aload_n 5 dX1_tellGusts_119 rfl rfl ?_
                refine G_cVb (As := []) (rest := []) (ok_X1_step M18) rfl (y1_21) rfl mv_X1_88 dX1_tellGusts_120 rfl rfl (Nat.le_of_ble_eq_true rfl) (g_fitN (by decide) (by decide)) (fun r21 M20 => ?_)
                refine G_ifB_eq (tgt := 133) dX1_tellGusts_123 (by decide) ?_ ?_
                · refine G_iconst (v := 0) dX1_tellGusts_133 (by decide) ?_
                  exact G_zret (b := false) rfl dX1_tellGusts_134
                · refine G_aload_n 5 dX1_tellGusts_126 rfl rfl ?_
                  refine G_cVb (As := []) (rest := []) (ok_X1_condition M20) rfl (y1_21) rfl mv_X1_145 dX1_tellGusts_127 rfl rfl (Nat.le_of_ble_eq_true rfl) (g_fitN (by decide) (by decide)) (fun r23 M22 => ?_)
                  refine G_ifB_ne (tgt := 135) dX1_tellGusts_130 (by decide) ?_ ?_
                  · exact G_sub [5, 4, 3, 2, 1, 0] rfl (o_X1_tellGusts_135 y6 y9 y12 y15 y17 M22)
                  · refine G_iconst (v := 0) dX1_tellGusts_133 (by decide) ?_
                    exact G_zret (b := false) rfl dX1_tellGusts_134
              · refine G_iconst (v := (-1)) dX1_tellGusts_113 (by decide) ?_
                refine G_istore (lv' := [(5, .int (-1)), (4, .int y15), (3, .int y12), (2, .int y9), (1, .int y6), (0, .ref (ad X 21))]) dX1_tellGusts_114 (by decide) rfl ?_
                refine G_goto (tgt := 135) dX1_tellGusts_116 (by decide) ?_
                exact G_sub [5, 4, 3, 2, 1, 0] rfl (o_X1_tellGusts_135 y6 y9 y12 y15 ((-1) : Int32) M18)
            · refine G_iconst (v := 0) dX1_tellGusts_87 (by decide) ?_
              exact G_zret (b := false) rfl dX1_tellGusts_88
          · refine G_iconst (v := 0) dX1_tellGusts_70 (by decide) ?_
            exact G_zret (b := false) rfl dX1_tellGusts_71
        · refine G_iconst (v := 0) dX1_tellGusts_52 (by decide) ?_
          exact G_zret (b := false) rfl dX1_tellGusts_53
      · refine G_iconst (v := 0) dX1_tellGusts_35 (by decide) ?_
        exact G_zret (b := false) rfl dX1_tellGusts_36
  · refine G_aload_n 0 dX1_tellGusts_12 rfl rfl ?_
    refine G_iconst (v := 2) dX1_tellGusts_13 (by decide) ?_
    refine G_cVb (As := [.int 2]) (rest := []) (ok_X1_fail (2 : Int32) M) rfl (y1_21) rfl mv_X1_72 dX1_tellGusts_14 rfl rfl (Nat.le_of_ble_eq_true rfl) (g_fitN (by decide) (by decide)) (fun r30 M29 => ?_)
    exact G_zret rfl dX1_tellGusts_17
-- X1_tellLaw
def f_X1_tellLaw (a1 : Int32) (M : gM) : Option (Bool × gM) := (g_b (f_X1_step M) (fun r2 M1 => (if r2 then (g_or 3 12 (M1.2.2 21 6) (fun t3 => (g_v (M1.1 t3 8) (fun y4 => (g_b (f_X1_expression M1) (fun r6 M5 => (if r6 then (g_or 3 12 (M5.2.2 21 6) (fun t7 => (g_b (f_X4_emit t7 (9 : Int32) M5) (fun r9 M8 => (if a1 = (2 : Int32) then (g_or 3 12 (M8.2.2 21 6) (fun t14 => (g_m (sI M8 t14 3 y4) (fun M15 => (g_b (f_X1_take (19 : Int32) M15) (fun r17 M16 => (some (r17, M16)))))))) else (g_or 3 12 (M8.2.2 21 6) (fun t10 => (g_m (sI M8 t10 4 y4) (fun M11 => (g_b (f_X1_take (19 : Int32) M11) (fun r13 M12 => (some (r13, M12))))))))))))) else (some (false, M5))))))))) else (some (false, M1)))))
set_option maxRecDepth 100000 in
set_option maxHeartbeats 4000000 in
theorem ok_X1_tellLaw (a1 : Int32) (M : gM) : g_met Y1 yX1_tellLaw jX1_tellLaw g_eb (fun Z => [.ref (Z.2.1 21), .int a1]) M (f_X1_tellLaw a1 M) := by
  refine g_enter (fun Z => [(0, .ref (Z.2.1 21)), (1, .int a1)]) (by decide) rfl (fun Z => Nat.le_of_ble_eq_true rfl) (fun Z => rfl) (fun X => ?_)
  rw [f_X1_tellLaw]
  refine G_aload_n 0 dX1_tellLaw_0 rfl rfl ?_
  refine G_cVb (As := []) (rest := []) (ok_X1_step M) rfl (y1_21) rfl mv_X1_88 dX1_tellLaw_1 rfl rfl (Nat.le_of_ble_eq_true rfl) (g_fitN (by decide) (by decide)) (fun r2 M1 => ?_)
  refine G_ifB_ne (tgt := 9) dX1_tellLaw_4 (by decide) ?_ ?_
  · refine G_aload_n 0 dX1_tellLaw_9 rfl rfl ?_
    refine G_getO 6 clX1 (y1_21) fl_X1_22 dX1_tellLaw_10 (by decide) rfl (by decide) (fun t3 ht3 => ?_)
    refine G_get 8 clX4 (ro_0 ht3) fl_X1_118 dX1_tellLaw_13 (by decide) rfl rfl ?_
    refine G_vi (fun y4 => ?_)
    refine G_istore_n (lv' := [(2, .int y4), (0, .ref (ad X 21)), (1, .int a1)]) dX1_tellLaw_16 rfl (by decide) rfl ?_
    refine G_aload_n 1 dX1_tellLaw_17 rfl rfl ?_
    refine G_cVb (As := []) (rest := []) (ok_X1_expression M1) rfl (y1_21) rfl mv_X1_121 dX1_tellLaw_18 rfl rfl (Nat.le_of_ble_eq_true rfl) (g_fitN (by decide) (by decide)) (fun r6 M5 => ?_)
    refine G_ifB_ne (tgt := 26) dX1_tellLaw_21 (by decide) ?_ ?_
    · refine G_aload_n 1 dX1_tellLaw_26 rfl rfl ?_
      refine G_getO 6 clX1 (y1_21) fl_X1_22 dX1_tellLaw_27 (by decide) rfl (by decide) (fun t7 ht7 => ?_)
      refine G_bipush (v := 9) dX1_tellLaw_30 (by decide) ?_
      refine G_cVv (As := [.int 9]) (rest := []) (ok_X4_emit ht7 (9 : Int32) M5) rfl (ro_0 ht7) rfl mv_X1_126 dX1_tellLaw_32 rfl rfl (Nat.le_of_ble_eq_true rfl) (g_fitN (by decide) (by decide)) (fun r9 M8 => ?_)
      refine G_iload_n 2 dX1_tellLaw_35 rfl rfl ?_
      refine G_iconst (v := 2) dX1_tellLaw_36 (by decide) ?_
      refine G_icmp_ne (tgt := 51) dX1_tellLaw_37 (by decide) ?_ ?_
      · refine G_aload_n 1 dX1_tellLaw_51 rfl rfl ?_
        refine G_getO 6 clX1 (y1_21) fl_X1_22 dX1_tellLaw_52 (by decide) rfl (by decide) (fun t10 ht10 => ?_)
        refine G_iload_n 0 dX1_tellLaw_55 rfl rfl ?_
        refine G_putI 4 clX4 (ro_0 ht10) fl_X1_132 dX1_tellLaw_56 (by decide) rfl rfl rfl ?_
        refine G_m (fun M11 => ?_)
        refine G_aload_n 1 dX1_tellLaw_59 rfl rfl ?_
        refine G_bipush (v := 19) dX1_tellLaw_60 (by decide) ?_
        refine G_cVb (As := [.int 19]) (rest := []) (ok_X1_take (19 : Int32) M11) rfl (y1_21) rfl mv_X1_107 dX1_tellLaw_62 rfl rfl (Nat.le_of_ble_eq_true rfl) (g_fitN (by decide) (by decide)) (fun r13 M12 => ?_)
        exact G_zret rfl dX1_tellLaw_65
      · refine G_aload_n 1 dX1_tellLaw_40 rfl rfl ?_
        refine G_getO 6 clX1 (y1_21) fl_X1_22 dX1_tellLaw_41 (by decide) rfl (by decide) (fun t14 ht14 => ?_)
        refine G_iload_n 0 dX1_tellLaw_44 rfl rfl ?_
        refine G_putI 3 clX4 (ro_0 ht14) fl_X1_129 dX1_tellLaw_45 (by decide) rfl rfl rfl ?_
        refine G_m (fun M15 => ?_)
        refine G_goto (tgt := 59) dX1_tellLaw_48 (by decide) ?_
        refine G_aload_n 1 dX1_tellLaw_59 rfl rfl ?_
        refine G_bipush (v := 19) dX1_tellLaw_60 (by decide) ?_
        refine G_cVb (As := [.int 19]) (rest := []) (ok_X1_take (19 : Int32) M15) rfl (y1_21) rfl mv_X1_107 dX1_tellLaw_62 rfl rfl (Nat.le_of_ble_eq_true rfl) (g_fitN (by decide) (by decide)) (fun r17 M16 => ?_)
        exact G_zret rfl dX1_tellLaw_65
    · refine G_iconst (v := 0) dX1_tellLaw_24 (by decide) ?_
      exact G_zret (b := false) rfl dX1_tellLaw_25
  · refine G_iconst (v := 0) dX1_tellLaw_7 (by decide) ?_
    exact G_zret (b := false) rfl dX1_tellLaw_8
-- X4_addReflex
def f_X4_addReflex (t : Nat) (a1 : Int32) (a2 : Int32) (M : gM) : Option (Unit × gM) := (if (12 : Int32) ≤ (M.1 t 7) then (some ((), M)) else (g_ck (M.1 t 7) 12 (g_m (sI M (t + 7) (tn (M.1 t 7)) a1) (fun M1 => (g_ck (M1.1 t 7) 12 (g_m (sI M1 (t + 8) (tn (M1.1 t 7)) a2) (fun M2 => (g_m (sI M2 t 7 ((M2.1 t 7) + (1 : Int32))) (fun M3 => (some ((), M3)))))))))))
set_option maxRecDepth 100000 in
set_option maxHeartbeats 4000000 in
theorem ok_X4_addReflex {t : Nat} (ht : t = 3 ∨ t = 12) (a1 : Int32) (a2 : Int32) (M : gM) : g_met Y1 yX4_addReflex jX4_addReflex g_ev (fun Z => [.ref (Z.2.1 t), .int a1, .int a2]) M (f_X4_addReflex t a1 a2 M) := by
  refine g_enter (fun Z => [(0, .ref (Z.2.1 t)), (1, .int a1), (2, .int a2)]) (by decide) rfl (fun Z => Nat.le_of_ble_eq_true rfl) (fun Z => rfl) (fun X => ?_)
  rw [f_X4_addReflex]
  refine G_aload_n 0 dX4_addReflex_0 rfl rfl ?_
  refine G_get 7 clX4 (ro_0 ht) fl_X4_59 dX4_addReflex_1 (by decide) rfl rfl ?_
  refine G_bipush (v := 12) dX4_addReflex_4 (by decide) ?_
  refine G_icmp_ge (tgt := 39) dX4_addReflex_6 (by decide) ?_ ?_
  · exact G_vret rfl dX4_addReflex_39
  · refine G_aload_n 0 dX4_addReflex_9 rfl rfl ?_
    refine G_get 15 clX4 (ro_0 ht) fl_X4_31 dX4_addReflex_10 (by decide) rfl rfl ?_
    refine G_aload_n 0 dX4_addReflex_13 rfl rfl ?_
    refine G_get 7 clX4 (ro_0 ht) fl_X4_59 dX4_addReflex_14 (by decide) rfl rfl ?_
    refine G_iload_n 1 dX4_addReflex_17 rfl rfl ?_
    refine G_iast (ro_7 ht) dX4_addReflex_18 ?_
    refine G_m (fun M1 => ?_)
    refine G_aload_n 0 dX4_addReflex_19 rfl rfl ?_
    refine G_get 16 clX4 (ro_0 ht) fl_X4_34 dX4_addReflex_20 (by decide) rfl rfl ?_
    refine G_aload_n 0 dX4_addReflex_23 rfl rfl ?_
    refine G_get 7 clX4 (ro_0 ht) fl_X4_59 dX4_addReflex_24 (by decide) rfl rfl ?_
    refine G_iload_n 2 dX4_addReflex_27 rfl rfl ?_
    refine G_iast (ro_8 ht) dX4_addReflex_28 ?_
    refine G_m (fun M2 => ?_)
    refine G_aload_n 0 dX4_addReflex_29 rfl rfl ?_
    refine G_dup dX4_addReflex_30 rfl ?_
    refine G_get 7 clX4 (ro_0 ht) fl_X4_59 dX4_addReflex_31 (by decide) rfl rfl ?_
    refine G_iconst (v := 1) dX4_addReflex_34 (by decide) ?_
    refine G_iadd dX4_addReflex_35 ?_
    refine G_putI 7 clX4 (ro_0 ht) fl_X4_59 dX4_addReflex_36 (by decide) rfl rfl rfl ?_
    refine G_m (fun M3 => ?_)
    exact G_vret rfl dX4_addReflex_39
-- X1_tellReflex
def f_X1_tellReflex_84 (x1 : Int32) (x2 : Int32) (M : gM) : Option (Bool × gM) := (g_b (f_X1_take (17 : Int32) M) (fun r18 M17 => (if r18 then (g_or 3 12 (M17.2.2 21 6) (fun t19 => (g_b (f_X4_addReflex t19 x1 x2 M17) (fun r21 M20 => (g_b (f_X1_take (19 : Int32) M20) (fun r23 M22 => (some (r23, M22)))))))) else (some (false, M17)))))
set_option maxRecDepth 100000 in
set_option maxHeartbeats 4000000 in
theorem o_X1_tellReflex_84 {X : gX} (x1 : Int32) (x2 : Int32) (M : gM) : G Y1 jX1_tellReflex X (g_fin g_eb) 84 [(0, .ref (ad X 21)), (1, .int x1), (2, .int x2)] [] M (f_X1_tellReflex_84 x1 x2 M) := by
  rw [f_X1_tellReflex_84]
  refine G_aload_n 0 dX1_tellReflex_84 rfl rfl ?_
  refine G_bipush (v := 17) dX1_tellReflex_85 (by decide) ?_
  refine G_cVb (As := [.int 17]) (rest := []) (ok_X1_take (17 : Int32) M) rfl (y1_21) rfl mv_X1_107 dX1_tellReflex_87 rfl rfl (Nat.le_of_ble_eq_true rfl) (g_fitN (by decide) (by decide)) (fun r18 M17 => ?_)
  refine G_ifB_ne (tgt := 95) dX1_tellReflex_90 (by decide) ?_ ?_
  · refine G_aload_n 0 dX1_tellReflex_95 rfl rfl ?_
    refine G_getO 6 clX1 (y1_21) fl_X1_22 dX1_tellReflex_96 (by decide) rfl (by decide) (fun t19 ht19 => ?_)
    refine G_iload_n 1 dX1_tellReflex_99 rfl rfl ?_
    refine G_iload_n 2 dX1_tellReflex_100 rfl rfl ?_
    refine G_cVv (As := [.int x1, .int x2]) (rest := []) (ok_X4_addReflex ht19 x1 x2 M17) rfl (ro_0 ht19) rfl mv_X1_162 dX1_tellReflex_101 rfl rfl (Nat.le_of_ble_eq_true rfl) (g_fitN (by decide) (by decide)) (fun r21 M20 => ?_)
    refine G_aload_n 0 dX1_tellReflex_104 rfl rfl ?_
    refine G_bipush (v := 19) dX1_tellReflex_105 (by decide) ?_
    refine G_cVb (As := [.int 19]) (rest := []) (ok_X1_take (19 : Int32) M20) rfl (y1_21) rfl mv_X1_107 dX1_tellReflex_107 rfl rfl (Nat.le_of_ble_eq_true rfl) (g_fitN (by decide) (by decide)) (fun r23 M22 => ?_)
    exact G_zret rfl dX1_tellReflex_110
  · refine G_iconst (v := 0) dX1_tellReflex_93 (by decide) ?_
    exact G_zret (b := false) rfl dX1_tellReflex_94
def f_X1_tellReflex (M : gM) : Option (Bool × gM) := (g_or 3 12 (M.2.2 21 6) (fun t1 => (if (M.1 t1 7) < (12 : Int32) then (g_b (f_X1_step M) (fun r3 M2 => (if r3 then (g_or 3 12 (M2.2.2 21 6) (fun t4 => (g_v (M2.1 t4 8) (fun y5 => (g_b (f_X1_condition M2) (fun r7 M6 => (if r7 then (g_b (f_X1_take (13 : Int32) M6) (fun r9 M8 => (if r9 then (g_or 3 12 (M8.2.2 21 6) (fun t10 => (g_b (f_X1_value M8) (fun r12 M11 => (g_b (f_X4_actNamed t10 r12 M11) (fun r14 M13 => (g_b (f_X1_kind M13) (fun r16 M15 => (if r16 = (17 : Int32) then (if r14 = ((-1) : Int32) then (g_b (f_X1_note (4 : Int32) M15) (fun r25 M24 => (f_X1_tellReflex_84 y5 r14 M24))) else (f_X1_tellReflex_84 y5 r14 M15)) else (f_X1_tellReflex_84 y5 r14 M15)))))))))) else (some (false, M8))))) else (some (false, M6))))))))) else (some (false, M2))))) else (g_b (f_X1_fail (2 : Int32) M) (fun r27 M26 => (some (r27, M26)))))))
set_option maxRecDepth 100000 in
set_option maxHeartbeats 4000000 in
theorem ok_X1_tellReflex (M : gM) : g_met Y1 yX1_tellReflex jX1_tellReflex g_eb (fun Z => [.ref (Z.2.1 21)]) M (f_X1_tellReflex M) := by
  refine g_enter (fun Z => [(0, .ref (Z.2.1 21))]) (by decide) rfl (fun Z => Nat.le_of_ble_eq_true rfl) (fun Z => rfl) (fun X => ?_)
  rw [f_X1_tellReflex]
  refine G_aload_n 0 dX1_tellReflex_0 rfl rfl ?_
  refine G_getO 6 clX1 (y1_21) fl_X1_22 dX1_tellReflex_1 (by decide) rfl (by decide) (fun t1 ht1 => ?_)
  refine G_get 7 clX4 (ro_0 ht1) fl_X1_159 dX1_tellReflex_4 (by decide) rfl rfl ?_
  refine G_bipush (v := 12) dX1_tellReflex_7 (by decide) ?_
  refine G_icmp_lt (tgt := 18) dX1_tellReflex_9 (by decide) ?_ ?_
  · refine G_aload_n 0 dX1_tellReflex_18 rfl rfl ?_
    refine G_cVb (As := []) (rest := []) (ok_X1_step M) rfl (y1_21) rfl mv_X1_88 dX1_tellReflex_19 rfl rfl (Nat.le_of_ble_eq_true rfl) (g_fitN (by decide) (by decide)) (fun r3 M2 => ?_)
    refine G_ifB_ne (tgt := 27) dX1_tellReflex_22 (by decide) ?_ ?_
    · refine G_aload_n 0 dX1_tellReflex_27 rfl rfl ?_
      refine G_getO 6 clX1 (y1_21) fl_X1_22 dX1_tellReflex_28 (by decide) rfl (by decide) (fun t4 ht4 => ?_)
      refine G_get 8 clX4 (ro_0 ht4) fl_X1_118 dX1_tellReflex_31 (by decide) rfl rfl ?_
      refine G_vi (fun y5 => ?_)
      refine G_istore_n (lv' := [(1, .int y5), (0, .ref (ad X 21))]) dX1_tellReflex_34 rfl (by decide) rfl ?_
      refine G_aload_n 1 dX1_tellReflex_35 rfl rfl ?_
      refine G_cVb (As := []) (rest := []) (ok_X1_condition M2) rfl (y1_21) rfl mv_X1_145 dX1_tellReflex_36 rfl rfl (Nat.le_of_ble_eq_true rfl) (g_fitN (by decide) (by decide)) (fun r7 M6 => ?_)
      refine G_ifB_eq (tgt := 51) dX1_tellReflex_39 (by decide) ?_ ?_
      · refine G_iconst (v := 0) dX1_tellReflex_51 (by decide) ?_
        exact G_zret (b := false) rfl dX1_tellReflex_52
      · refine G_aload_n 1 dX1_tellReflex_42 rfl rfl ?_
        refine G_bipush (v := 13) dX1_tellReflex_43 (by decide) ?_
        refine G_cVb (As := [.int 13]) (rest := []) (ok_X1_take (13 : Int32) M6) rfl (y1_21) rfl mv_X1_107 dX1_tellReflex_45 rfl rfl (Nat.le_of_ble_eq_true rfl) (g_fitN (by decide) (by decide)) (fun r9 M8 => ?_)
        refine G_ifB_ne (tgt := 53) dX1_tellReflex_48 (by decide) ?_ ?_
        · refine G_aload_n 1 dX1_tellReflex_53 rfl rfl ?_
          refine G_getO 6 clX1 (y1_21) fl_X1_22 dX1_tellReflex_54 (by decide) rfl (by decide) (fun t10 ht10 => ?_)
          refine G_aload_n 1 dX1_tellReflex_57 rfl rfl ?_
          refine G_cVl (As := []) (rest := [.ref (ad X t10)]) (ok_X1_value M8) rfl (y1_21) rfl mv_X1_110 dX1_tellReflex_58 rfl rfl (Nat.le_of_ble_eq_true rfl) (g_fitN (by decide) (by decide)) (fun r12 M11 => ?_)
          refine G_cVi (As := [.long r12]) (rest := []) (ok_X4_actNamed ht10 r12 M11) rfl (ro_0 ht10) rfl mv_X1_138 dX1_tellReflex_61 rfl rfl (Nat.le_of_ble_eq_true rfl) (g_fitN (by decide) (by decide)) (fun r14 M13 => ?_)
          refine G_istore_n (lv' := [(2, .int r14), (1, .int y5), (0, .ref (ad X 21))]) dX1_tellReflex_64 rfl (by decide) rfl ?_
          refine G_aload_n 2 dX1_tellReflex_65 rfl rfl ?_
          refine G_cVi (As := []) (rest := []) (ok_X1_kind M13) rfl (y1_21) rfl mv_X1_51 dX1_tellReflex_66 rfl rfl (Nat.le_of_ble_eq_true rfl) (g_fitN (by decide) (by decide)) (fun r16 M15 => ?_)
          refine G_bipush (v := 17) dX1_tellReflex_69 (by decide) ?_
          refine G_icmp_ne (tgt := 84) dX1_tellReflex_71 (by decide) ?_ ?_
          · exact G_sub [2, 1, 0] rfl (o_X1_tellReflex_84 y5 r14 M15)
          · refine G_iload_n 0 dX1_tellReflex_74 rfl rfl ?_
            refine G_iconst (v := (-1)) dX1_tellReflex_75 (by decide) ?_
            refine G_icmp_ne (tgt := 84) dX1_tellReflex_76 (by decide) ?_ ?_
            · exact G_sub [2, 1, 0] rfl (o_X1_tellReflex_84 y5 r14 M15)
            · refine G_aload_n 2 dX1_tellReflex_79 rfl rfl ?_
              refine G_iconst (v := 4) dX1_tellReflex_80 (by decide) ?_
              refine G_cVv (As := [.int 4]) (rest := []) (ok_X1_note (4 : Int32) M15) rfl (y1_21) rfl mv_X1_114 dX1_tellReflex_81 rfl rfl (Nat.le_of_ble_eq_true rfl) (g_fitN (by decide) (by decide)) (fun r25 M24 => ?_)
              exact G_sub [2, 1, 0] rfl (o_X1_tellReflex_84 y5 r14 M24)
        · refine G_iconst (v := 0) dX1_tellReflex_51 (by decide) ?_
          exact G_zret (b := false) rfl dX1_tellReflex_52
    · refine G_iconst (v := 0) dX1_tellReflex_25 (by decide) ?_
      exact G_zret (b := false) rfl dX1_tellReflex_26
  · refine G_aload_n 0 dX1_tellReflex_12 rfl rfl ?_
    refine G_iconst (v := 2) dX1_tellReflex_13 (by decide) ?_
    refine G_cVb (As := [.int 2]) (rest := []) (ok_X1_fail (2 : Int32) M) rfl (y1_21) rfl mv_X1_72 dX1_tellReflex_14 rfl rfl (Nat.le_of_ble_eq_true rfl) (g_fitN (by decide) (by decide)) (fun r27 M26 => ?_)
    exact G_zret rfl dX1_tellReflex_17
-- X1_tellSize
def f_X1_tellSize_32 (x1 : Int32) (s0 : Int32) (M : gM) : Option (Bool × gM) := (g_b (f_X1_takeInt (1 : Int32) s0 M) (fun r4 M3 => (if r4 then (if x1 = (6 : Int32) then (g_or 3 12 (M3.2.2 21 6) (fun t13 => (g_m (sI M3 t13 0 (M3.1 21 5)) (fun M14 => (g_b (f_X1_take (19 : Int32) M14) (fun r16 M15 => (some (r16, M15)))))))) else (if x1 = (7 : Int32) then (g_or 3 12 (M3.2.2 21 6) (fun t9 => (g_m (sI M3 t9 1 (M3.1 21 5)) (fun M10 => (g_b (f_X1_take (19 : Int32) M10) (fun r12 M11 => (some (r12, M11)))))))) else (g_or 3 12 (M3.2.2 21 6) (fun t5 => (g_m (sI M3 t5 2 (M3.1 21 5)) (fun M6 => (g_b (f_X1_take (19 : Int32) M6) (fun r8 M7 => (some (r8, M7)))))))))) else (some (false, M3)))))
set_option maxRecDepth 100000 in
set_option maxHeartbeats 4000000 in
theorem o_X1_tellSize_32 {X : gX} (x1 : Int32) (s0 : Int32) (M : gM) : G Y1 jX1_tellSize X (g_fin g_eb) 32 [(0, .ref (ad X 21)), (1, .int x1)] [.int s0] M (f_X1_tellSize_32 x1 s0 M) := by
  rw [f_X1_tellSize_32]
  refine G_istore_n (lv' := [(2, .int s0), (0, .ref (ad X 21)), (1, .int x1)]) dX1_tellSize_32 rfl (by decide) rfl ?_
  refine G_aload_n 1 dX1_tellSize_33 rfl rfl ?_
  refine G_iconst (v := 1) dX1_tellSize_34 (by decide) ?_
  refine G_iload_n 0 dX1_tellSize_35 rfl rfl ?_
  refine G_cVb (As := [.int 1, .int s0]) (rest := []) (ok_X1_takeInt (1 : Int32) s0 M) rfl (y1_21) rfl mv_X1_91 dX1_tellSize_36 rfl rfl (Nat.le_of_ble_eq_true rfl) (g_fitN (by decide) (by decide)) (fun r4 M3 => ?_)
  refine G_ifB_ne (tgt := 44) dX1_tellSize_39 (by decide) ?_ ?_
  · refine G_iload_n 2 dX1_tellSize_44 rfl rfl ?_
    refine G_bipush (v := 6) dX1_tellSize_45 (by decide) ?_
    refine G_icmp_ne (tgt := 64) dX1_tellSize_47 (by decide) ?_ ?_
    · refine G_iload_n 2 dX1_tellSize_64 rfl rfl ?_
      refine G_bipush (v := 7) dX1_tellSize_65 (by decide) ?_
      refine G_icmp_ne (tgt := 84) dX1_tellSize_67 (by decide) ?_ ?_
      · refine G_aload_n 1 dX1_tellSize_84 rfl rfl ?_
        refine G_getO 6 clX1 (y1_21) fl_X1_22 dX1_tellSize_85 (by decide) rfl (by decide) (fun t5 ht5 => ?_)
        refine G_aload_n 1 dX1_tellSize_88 rfl rfl ?_
        refine G_get 5 clX1 (y1_21) fl_X1_95 dX1_tellSize_89 (by decide) rfl rfl ?_
        refine G_putI 2 clX4 (ro_0 ht5) fl_X1_104 dX1_tellSize_92 (by decide) rfl rfl rfl ?_
        refine G_m (fun M6 => ?_)
        refine G_aload_n 1 dX1_tellSize_95 rfl rfl ?_
        refine G_bipush (v := 19) dX1_tellSize_96 (by decide) ?_
        refine G_cVb (As := [.int 19]) (rest := []) (ok_X1_take (19 : Int32) M6) rfl (y1_21) rfl mv_X1_107 dX1_tellSize_98 rfl rfl (Nat.le_of_ble_eq_true rfl) (g_fitN (by decide) (by decide)) (fun r8 M7 => ?_)
        exact G_zret rfl dX1_tellSize_101
      · refine G_aload_n 1 dX1_tellSize_70 rfl rfl ?_
        refine G_getO 6 clX1 (y1_21) fl_X1_22 dX1_tellSize_71 (by decide) rfl (by decide) (fun t9 ht9 => ?_)
        refine G_aload_n 1 dX1_tellSize_74 rfl rfl ?_
        refine G_get 5 clX1 (y1_21) fl_X1_95 dX1_tellSize_75 (by decide) rfl rfl ?_
        refine G_putI 1 clX4 (ro_0 ht9) fl_X1_101 dX1_tellSize_78 (by decide) rfl rfl rfl ?_
        refine G_m (fun M10 => ?_)
        refine G_goto (tgt := 95) dX1_tellSize_81 (by decide) ?_
        refine G_aload_n 1 dX1_tellSize_95 rfl rfl ?_
        refine G_bipush (v := 19) dX1_tellSize_96 (by decide) ?_
        refine G_cVb (As := [.int 19]) (rest := []) (ok_X1_take (19 : Int32) M10) rfl (y1_21) rfl mv_X1_107 dX1_tellSize_98 rfl rfl (Nat.le_of_ble_eq_true rfl) (g_fitN (by decide) (by decide)) (fun r12 M11 => ?_)
        exact G_zret rfl dX1_tellSize_101
    · refine G_aload_n 1 dX1_tellSize_50 rfl rfl ?_
      refine G_getO 6 clX1 (y1_21) fl_X1_22 dX1_tellSize_51 (by decide) rfl (by decide) (fun t13 ht13 => ?_)
      refine G_aload_n 1 dX1_tellSize_54 rfl rfl ?_
      refine G_get 5 clX1 (y1_21) fl_X1_95 dX1_tellSize_55 (by decide) rfl rfl ?_
      refine G_putI 0 clX4 (ro_0 ht13) fl_X1_98 dX1_tellSize_58 (by decide) rfl rfl rfl ?_
      refine G_m (fun M14 => ?_)
      refine G_goto (tgt := 95) dX1_tellSize_61 (by decide) ?_
      refine G_aload_n 1 dX1_tellSize_95 rfl rfl ?_
      refine G_bipush (v := 19) dX1_tellSize_96 (by decide) ?_
      refine G_cVb (As := [.int 19]) (rest := []) (ok_X1_take (19 : Int32) M14) rfl (y1_21) rfl mv_X1_107 dX1_tellSize_98 rfl rfl (Nat.le_of_ble_eq_true rfl) (g_fitN (by decide) (by decide)) (fun r16 M15 => ?_)
      exact G_zret rfl dX1_tellSize_101
  · refine G_iconst (v := 0) dX1_tellSize_42 (by decide) ?_
    exact G_zret (b := false) rfl dX1_tellSize_43
def f_X1_tellSize (a1 : Int32) (M : gM) : Option (Bool × gM) := (g_b (f_X1_step M) (fun r2 M1 => (if r2 then (if a1 = (6 : Int32) then (f_X1_tellSize_32 a1 (8 : Int32) M1) else (if a1 = (7 : Int32) then (f_X1_tellSize_32 a1 (10 : Int32) M1) else (f_X1_tellSize_32 a1 (5 : Int32) M1))) else (some (false, M1)))))
set_option maxRecDepth 100000 in
set_option maxHeartbeats 4000000 in
theorem ok_X1_tellSize (a1 : Int32) (M : gM) : g_met Y1 yX1_tellSize jX1_tellSize g_eb (fun Z => [.ref (Z.2.1 21), .int a1]) M (f_X1_tellSize a1 M) := by
  refine g_enter (fun Z => [(0, .ref (Z.2.1 21)), (1, .int a1)]) (by decide) rfl (fun Z => Nat.le_of_ble_eq_true rfl) (fun Z => rfl) (fun X => ?_)
  rw [f_X1_tellSize]
  refine G_aload_n 0 dX1_tellSize_0 rfl rfl ?_
  refine G_cVb (As := []) (rest := []) (ok_X1_step M) rfl (y1_21) rfl mv_X1_88 dX1_tellSize_1 rfl rfl (Nat.le_of_ble_eq_true rfl) (g_fitN (by decide) (by decide)) (fun r2 M1 => ?_)
  refine G_ifB_ne (tgt := 9) dX1_tellSize_4 (by decide) ?_ ?_
  · refine G_iload_n 1 dX1_tellSize_9 rfl rfl ?_
    refine G_bipush (v := 6) dX1_tellSize_10 (by decide) ?_
    refine G_icmp_ne (tgt := 20) dX1_tellSize_12 (by decide) ?_ ?_
    · refine G_iload_n 1 dX1_tellSize_20 rfl rfl ?_
      refine G_bipush (v := 7) dX1_tellSize_21 (by decide) ?_
      refine G_icmp_ne (tgt := 31) dX1_tellSize_23 (by decide) ?_ ?_
      · refine G_iconst (v := 5) dX1_tellSize_31 (by decide) ?_
        exact G_sub [0, 1] rfl (o_X1_tellSize_32 a1 (5 : Int32) M1)
      · refine G_bipush (v := 10) dX1_tellSize_26 (by decide) ?_
        refine G_goto (tgt := 32) dX1_tellSize_28 (by decide) ?_
        exact G_sub [0, 1] rfl (o_X1_tellSize_32 a1 (10 : Int32) M1)
    · refine G_bipush (v := 8) dX1_tellSize_15 (by decide) ?_
      refine G_goto (tgt := 32) dX1_tellSize_17 (by decide) ?_
      exact G_sub [0, 1] rfl (o_X1_tellSize_32 a1 (8 : Int32) M1)
  · refine G_iconst (v := 0) dX1_tellSize_7 (by decide) ?_
    exact G_zret (b := false) rfl dX1_tellSize_8
-- X4_finish
def f_X4_finish (t : Nat) (M : gM) : Option (Unit × gM) := (if (M.1 t 5) = 0 then (g_b (f_X4_addAct t (0 : Int64) (0 : Int32) (1 : Int32) ((-1) : Int32) M) (fun r2 M1 => (some ((), M1)))) else (some ((), M)))
set_option maxRecDepth 100000 in
set_option maxHeartbeats 4000000 in
theorem ok_X4_finish {t : Nat} (ht : t = 3 ∨ t = 12) (M : gM) : g_met Y1 yX4_finish jX4_finish g_ev (fun Z => [.ref (Z.2.1 t)]) M (f_X4_finish t M) := by
  refine g_enter (fun Z => [(0, .ref (Z.2.1 t))]) (by decide) rfl (fun Z => Nat.le_of_ble_eq_true rfl) (fun Z => rfl) (fun X => ?_)
  rw [f_X4_finish]
  refine G_aload_n 0 dX4_finish_0 rfl rfl ?_
  refine G_get 5 clX4 (ro_0 ht) fl_X4_53 dX4_finish_1 (by decide) rfl rfl ?_
  refine G_if_ne (tgt := 15) dX4_finish_4 (by decide) ?_ ?_
  · exact G_vret rfl dX4_finish_15
  · refine G_aload_n 0 dX4_finish_7 rfl rfl ?_
    refine G_lconst (v := 0) dX4_finish_8 (by decide) ?_
    refine G_iconst (v := 0) dX4_finish_9 (by decide) ?_
    refine G_iconst (v := 1) dX4_finish_10 (by decide) ?_
    refine G_iconst (v := (-1)) dX4_finish_11 (by decide) ?_
    refine G_cVv (As := [.long 0, .int 0, .int 1, .int (-1)]) (rest := []) (ok_X4_addAct ht (0 : Int64) (0 : Int32) (1 : Int32) ((-1) : Int32) M) rfl (ro_0 ht) rfl mv_X4_65 dX4_finish_12 rfl rfl (Nat.le_of_ble_eq_true rfl) (g_fitN (by decide) (by decide)) (fun r2 M1 => ?_)
    exact G_vret rfl dX4_finish_15
-- X4_untell
def f_X4_untell (t : Nat) (M : gM) : Option (Unit × gM) := (g_m (sI M t 0 (4 : Int32)) (fun M1 => (g_m (sI M1 t 1 (6 : Int32)) (fun M2 => (g_m (sI M2 t 2 (3 : Int32)) (fun M3 => (g_m (sI M3 t 3 ((-1) : Int32)) (fun M4 => (g_m (sI M4 t 4 ((-1) : Int32)) (fun M5 => (g_m (sI M5 t 5 (0 : Int32)) (fun M6 => (g_m (sI M6 t 6 (0 : Int32)) (fun M7 => (g_m (sI M7 t 7 (0 : Int32)) (fun M8 => (g_m (sI M8 t 8 (0 : Int32)) (fun M9 => (some ((), M9))))))))))))))))))))
set_option maxRecDepth 100000 in
set_option maxHeartbeats 4000000 in
theorem ok_X4_untell {t : Nat} (ht : t = 3 ∨ t = 12) (M : gM) : g_met Y1 yX4_untell jX4_untell g_ev (fun Z => [.ref (Z.2.1 t)]) M (f_X4_untell t M) := by
  refine g_enter (fun Z => [(0, .ref (Z.2.1 t))]) (by decide) rfl (fun Z => Nat.le_of_ble_eq_true rfl) (fun Z => rfl) (fun X => ?_)
  rw [f_X4_untell]
  refine G_aload_n 0 dX4_untell_0 rfl rfl ?_
  refine G_iconst (v := 4) dX4_untell_1 (by decide) ?_
  refine G_putI 0 clX4 (ro_0 ht) fl_X4_37 dX4_untell_2 (by decide) rfl rfl rfl ?_
  refine G_m (fun M1 => ?_)
  refine G_aload_n 0 dX4_untell_5 rfl rfl ?_
  refine G_bipush (v := 6) dX4_untell_6 (by decide) ?_
  refine G_putI 1 clX4 (ro_0 ht) fl_X4_41 dX4_untell_8 (by decide) rfl rfl rfl ?_
  refine G_m (fun M2 => ?_)
  refine G_aload_n 0 dX4_untell_11 rfl rfl ?_
  refine G_iconst (v := 3) dX4_untell_12 (by decide) ?_
  refine G_putI 2 clX4 (ro_0 ht) fl_X4_44 dX4_untell_13 (by decide) rfl rfl rfl ?_
  refine G_m (fun M3 => ?_)
  refine G_aload_n 0 dX4_untell_16 rfl rfl ?_
  refine G_iconst (v := (-1)) dX4_untell_17 (by decide) ?_
  refine G_putI 3 clX4 (ro_0 ht) fl_X4_47 dX4_untell_18 (by decide) rfl rfl rfl ?_
  refine G_m (fun M4 => ?_)
  refine G_aload_n 0 dX4_untell_21 rfl rfl ?_
  refine G_iconst (v := (-1)) dX4_untell_22 (by decide) ?_
  refine G_putI 4 clX4 (ro_0 ht) fl_X4_50 dX4_untell_23 (by decide) rfl rfl rfl ?_
  refine G_m (fun M5 => ?_)
  refine G_aload_n 0 dX4_untell_26 rfl rfl ?_
  refine G_iconst (v := 0) dX4_untell_27 (by decide) ?_
  refine G_putI 5 clX4 (ro_0 ht) fl_X4_53 dX4_untell_28 (by decide) rfl rfl rfl ?_
  refine G_m (fun M6 => ?_)
  refine G_aload_n 0 dX4_untell_31 rfl rfl ?_
  refine G_iconst (v := 0) dX4_untell_32 (by decide) ?_
  refine G_putI 6 clX4 (ro_0 ht) fl_X4_56 dX4_untell_33 (by decide) rfl rfl rfl ?_
  refine G_m (fun M7 => ?_)
  refine G_aload_n 0 dX4_untell_36 rfl rfl ?_
  refine G_iconst (v := 0) dX4_untell_37 (by decide) ?_
  refine G_putI 7 clX4 (ro_0 ht) fl_X4_59 dX4_untell_38 (by decide) rfl rfl rfl ?_
  refine G_m (fun M8 => ?_)
  refine G_aload_n 0 dX4_untell_41 rfl rfl ?_
  refine G_iconst (v := 0) dX4_untell_42 (by decide) ?_
  refine G_putI 8 clX4 (ro_0 ht) fl_X4_62 dX4_untell_43 (by decide) rfl rfl rfl ?_
  refine G_m (fun M9 => ?_)
  exact G_vret rfl dX4_untell_46
-- X7_charAt
def f_X7_charAt (a1 : Int32) (M : gM) : Option (Int32 × gM) := (if a1 < 0 then (some (((-1) : Int32), M)) else (if (M.1 23 4) ≤ a1 then (some (((-1) : Int32), M)) else (g_is 1 (M.2.2 23 3) (g_ck a1 2000 (some ((M.1 1 (tn a1)), M))))))
set_option maxRecDepth 100000 in
set_option maxHeartbeats 4000000 in
theorem ok_X7_charAt (a1 : Int32) (M : gM) : g_met Y1 yX7_charAt jX7_charAt g_ei (fun Z => [.ref (Z.2.1 23), .int a1]) M (f_X7_charAt a1 M) := by
  refine g_enter (fun Z => [(0, .ref (Z.2.1 23)), (1, .int a1)]) (by decide) rfl (fun Z => Nat.le_of_ble_eq_true rfl) (fun Z => rfl) (fun X => ?_)
  rw [f_X7_charAt]
  refine G_iload_n 1 dX7_charAt_0 rfl rfl ?_
  refine G_if_lt (tgt := 21) dX7_charAt_1 (by decide) ?_ ?_
  · refine G_iconst (v := (-1)) dX7_charAt_21 (by decide) ?_
    exact G_iret rfl dX7_charAt_22
  · refine G_iload_n 1 dX7_charAt_4 rfl rfl ?_
    refine G_aload_n 0 dX7_charAt_5 rfl rfl ?_
    refine G_get 4 clX7 (y1_23) fl_X7_25 dX7_charAt_6 (by decide) rfl rfl ?_
    refine G_icmp_ge (tgt := 21) dX7_charAt_9 (by decide) ?_ ?_
    · refine G_iconst (v := (-1)) dX7_charAt_21 (by decide) ?_
      exact G_iret rfl dX7_charAt_22
    · refine G_aload_n 0 dX7_charAt_12 rfl rfl ?_
      refine G_getC 3 clX7 (y1_23) fl_X7_22 dX7_charAt_13 (by decide) rfl (by decide) ?_
      refine G_iload_n 1 dX7_charAt_16 rfl rfl ?_
      refine G_iald (y1_1) dX7_charAt_17 ?_
      refine G_goto (tgt := 22) dX7_charAt_18 (by decide) ?_
      exact G_iret rfl dX7_charAt_22
-- X7_isBlank
def f_X7_isBlank (a0 : Int32) (M : gM) : Option (Bool × gM) := (if a0 = (32 : Int32) then (some (true, M)) else (if a0 = (9 : Int32) then (some (true, M)) else (if a0 = (10 : Int32) then (some (true, M)) else (if a0 = (13 : Int32) then (some (true, M)) else (some (false, M))))))
set_option maxRecDepth 100000 in
set_option maxHeartbeats 4000000 in
theorem ok_X7_isBlank (a0 : Int32) (M : gM) : g_met Y1 yX7_isBlank jX7_isBlank g_eb (fun Z => [.int a0]) M (f_X7_isBlank a0 M) := by
  refine g_enter (fun Z => [(0, .int a0)]) (by decide) rfl (fun Z => Nat.le_of_ble_eq_true rfl) (fun Z => rfl) (fun X => ?_)
  rw [f_X7_isBlank]
  refine G_iload_n 0 dX7_isBlank_0 rfl rfl ?_
  refine G_bipush (v := 32) dX7_isBlank_1 (by decide) ?_
  refine G_icmp_eq (tgt := 24) dX7_isBlank_3 (by decide) ?_ ?_
  · refine G_iconst (v := 1) dX7_isBlank_24 (by decide) ?_
    refine G_goto (tgt := 29) dX7_isBlank_25 (by decide) ?_
    exact G_zret (b := true) rfl dX7_isBlank_29
  · refine G_iload_n 0 dX7_isBlank_6 rfl rfl ?_
    refine G_bipush (v := 9) dX7_isBlank_7 (by decide) ?_
    refine G_icmp_eq (tgt := 24) dX7_isBlank_9 (by decide) ?_ ?_
    · refine G_iconst (v := 1) dX7_isBlank_24 (by decide) ?_
      refine G_goto (tgt := 29) dX7_isBlank_25 (by decide) ?_
      exact G_zret (b := true) rfl dX7_isBlank_29
    · refine G_iload_n 0 dX7_isBlank_12 rfl rfl ?_
      refine G_bipush (v := 10) dX7_isBlank_13 (by decide) ?_
      refine G_icmp_eq (tgt := 24) dX7_isBlank_15 (by decide) ?_ ?_
      · refine G_iconst (v := 1) dX7_isBlank_24 (by decide) ?_
        refine G_goto (tgt := 29) dX7_isBlank_25 (by decide) ?_
        exact G_zret (b := true) rfl dX7_isBlank_29
      · refine G_iload_n 0 dX7_isBlank_18 rfl rfl ?_
        refine G_bipush (v := 13) dX7_isBlank_19 (by decide) ?_
        refine G_icmp_ne (tgt := 28) dX7_isBlank_21 (by decide) ?_ ?_
        · refine G_iconst (v := 0) dX7_isBlank_28 (by decide) ?_
          exact G_zret (b := false) rfl dX7_isBlank_29
        · refine G_iconst (v := 1) dX7_isBlank_24 (by decide) ?_
          refine G_goto (tgt := 29) dX7_isBlank_25 (by decide) ?_
          exact G_zret (b := true) rfl dX7_isBlank_29
-- X7_skipBlanks
def f_X7_skipBlanks_5 : Nat → Int32 → gM → Option (Unit × gM)
  | 0, _, _ => none
  | n + 1, x1, M => (if (M.1 23 4) ≤ x1 then (some ((), M)) else (g_b (f_X7_charAt x1 M) (fun r3 M2 => (g_b (f_X7_isBlank r3 M2) (fun r5 M4 => (if r5 then (g_m (sI M4 23 5 (x1 + (1 : Int32))) (fun M6 => (f_X7_skipBlanks_5 n (x1 + 1) M6))) else (some ((), M4))))))))
set_option maxRecDepth 100000 in
set_option maxHeartbeats 4000000 in
theorem o_X7_skipBlanks_5 {X : gX} : ∀ (n : Nat) (x1 : Int32) (M : gM), G Y1 jX7_skipBlanks X (g_fin g_ev) 5 [(0, .ref (ad X 23)), (1, .int x1)] [] M (f_X7_skipBlanks_5 n x1 M) := by
  intro n
  induction n with
  | zero => intro x1 M; exact G_none
  | succ n ih =>
    intro x1 M
    rw [f_X7_skipBlanks_5]
    refine G_iload_n 1 dX7_skipBlanks_5 rfl rfl ?_
    refine G_aload_n 0 dX7_skipBlanks_6 rfl rfl ?_
    refine G_get 4 clX7 (y1_23) fl_X7_25 dX7_skipBlanks_7 (by decide) rfl rfl ?_
    refine G_icmp_ge (tgt := 37) dX7_skipBlanks_10 (by decide) ?_ ?_
    · exact G_vret rfl dX7_skipBlanks_37
    · refine G_aload_n 0 dX7_skipBlanks_13 rfl rfl ?_
      refine G_iload_n 1 dX7_skipBlanks_14 rfl rfl ?_
      refine G_cVi (As := [.int x1]) (rest := []) (ok_X7_charAt x1 M) rfl (y1_23) rfl mv_X7_39 dX7_skipBlanks_15 rfl rfl (Nat.le_of_ble_eq_true rfl) (g_fitN (by decide) (by decide)) (fun r3 M2 => ?_)
      refine G_cSb (As := [.int r3]) (rest := []) (ok_X7_isBlank r3 M2) rfl ms_X7_42 dX7_skipBlanks_18 rfl rfl (Nat.le_of_ble_eq_true rfl) (g_fitN (by decide) (by decide)) (fun r5 M4 => ?_)
      refine G_ifB_eq (tgt := 37) dX7_skipBlanks_21 (by decide) ?_ ?_
      · exact G_vret rfl dX7_skipBlanks_37
      · refine G_aload_n 0 dX7_skipBlanks_24 rfl rfl ?_
        refine G_iload_n 1 dX7_skipBlanks_25 rfl rfl ?_
        refine G_iconst (v := 1) dX7_skipBlanks_26 (by decide) ?_
        refine G_iadd dX7_skipBlanks_27 ?_
        refine G_putI 5 clX7 (y1_23) fl_X7_29 dX7_skipBlanks_28 (by decide) rfl rfl rfl ?_
        refine G_m (fun M6 => ?_)
        refine G_iinc (v := x1 + 1) (lv' := [(1, .int (x1 + 1)), (0, .ref (ad X 23))]) 1 dX7_skipBlanks_31 rfl rfl (by decide) rfl ?_
        refine G_goto (tgt := 5) dX7_skipBlanks_34 (by decide) ?_
        exact G_sub [1, 0] rfl (ih (x1 + 1) M6)
def f_X7_skipBlanks (M : gM) : Option (Unit × gM) := (g_v (M.1 23 5) (fun y1 => (f_X7_skipBlanks_5 FU y1 M)))
set_option maxRecDepth 100000 in
set_option maxHeartbeats 4000000 in
theorem ok_X7_skipBlanks (M : gM) : g_met Y1 yX7_skipBlanks jX7_skipBlanks g_ev (fun Z => [.ref (Z.2.1 23)]) M (f_X7_skipBlanks M) := by
  refine g_enter (fun Z => [(0, .ref (Z.2.1 23))]) (by decide) rfl (fun Z => Nat.le_of_ble_eq_true rfl) (fun Z => rfl) (fun X => ?_)
  rw [f_X7_skipBlanks]
  refine G_aload_n 0 dX7_skipBlanks_0 rfl rfl ?_
  refine G_get 5 clX7 (y1_23) fl_X7_29 dX7_skipBlanks_1 (by decide) rfl rfl ?_
  refine G_vi (fun y1 => ?_)
  refine G_istore_n (lv' := [(1, .int y1), (0, .ref (ad X 23))]) dX7_skipBlanks_4 rfl (by decide) rfl ?_
  exact G_sub [1, 0] rfl (o_X7_skipBlanks_5 FU y1 M)
-- X7_isDigit
def f_X7_isDigit (a0 : Int32) (M : gM) : Option (Bool × gM) := (if a0 < (48 : Int32) then (some (false, M)) else (if (57 : Int32) < a0 then (some (false, M)) else (some (true, M))))
set_option maxRecDepth 100000 in
set_option maxHeartbeats 4000000 in
theorem ok_X7_isDigit (a0 : Int32) (M : gM) : g_met Y1 yX7_isDigit jX7_isDigit g_eb (fun Z => [.int a0]) M (f_X7_isDigit a0 M) := by
  refine g_enter (fun Z => [(0, .int a0)]) (by decide) rfl (fun Z => Nat.le_of_ble_eq_true rfl) (fun Z => rfl) (fun X => ?_)
  rw [f_X7_isDigit]
  refine G_iload_n 0 dX7_isDigit_0 rfl rfl ?_
  refine G_bipush (v := 48) dX7_isDigit_1 (by decide) ?_
  refine G_icmp_lt (tgt := 16) dX7_isDigit_3 (by decide) ?_ ?_
  · refine G_iconst (v := 0) dX7_isDigit_16 (by decide) ?_
    exact G_zret (b := false) rfl dX7_isDigit_17
  · refine G_iload_n 0 dX7_isDigit_6 rfl rfl ?_
    refine G_bipush (v := 57) dX7_isDigit_7 (by decide) ?_
    refine G_icmp_gt (tgt := 16) dX7_isDigit_9 (by decide) ?_ ?_
    · refine G_iconst (v := 0) dX7_isDigit_16 (by decide) ?_
      exact G_zret (b := false) rfl dX7_isDigit_17
    · refine G_iconst (v := 1) dX7_isDigit_12 (by decide) ?_
      refine G_goto (tgt := 17) dX7_isDigit_13 (by decide) ?_
      exact G_zret (b := true) rfl dX7_isDigit_17
-- X7_digits
def f_X7_digits_54 : Nat → Int32 → Int32 → gM → Option (Int32 × gM)
  | 0, _, _, _ => none
  | n + 1, x1, x3, M => (if (M.1 23 5) ≤ x3 then (some ((18 : Int32), M)) else (g_ck x1 401 (g_b (f_X7_charAt x3 M) (fun r3 M2 => (g_ck x1 401 (g_m (sL M2 26 (tn x1) ((((M.2.1 26 (tn x1)) * (10 : Int64)) + r3.toInt64) - (48 : Int64))) (fun M4 => (f_X7_digits_54 n x1 (x3 + 1) M4))))))))
set_option maxRecDepth 100000 in
set_option maxHeartbeats 4000000 in
theorem o_X7_digits_54 {X : gX} : ∀ (n : Nat) (x1 : Int32) (x3 : Int32) (M : gM), G Y1 jX7_digits X (g_fin g_ei) 54 [(0, .ref (ad X 23)), (1, .int x1), (3, .int x3)] [] M (f_X7_digits_54 n x1 x3 M) := by
  intro n
  induction n with
  | zero => intro x1 x3 M; exact G_none
  | succ n ih =>
    intro x1 x3 M
    rw [f_X7_digits_54]
    refine G_iload_n 2 dX7_digits_54 rfl rfl ?_
    refine G_aload_n 0 dX7_digits_55 rfl rfl ?_
    refine G_get 5 clX7 (y1_23) fl_X7_29 dX7_digits_56 (by decide) rfl rfl ?_
    refine G_icmp_ge (tgt := 95) dX7_digits_59 (by decide) ?_ ?_
    · refine G_bipush (v := 18) dX7_digits_95 (by decide) ?_
      exact G_iret rfl dX7_digits_97
    · refine G_aload_n 0 dX7_digits_62 rfl rfl ?_
      refine G_get 2 clX7 (y1_23) fl_X7_18 dX7_digits_63 (by decide) rfl rfl ?_
      refine G_iload_n 1 dX7_digits_66 rfl rfl ?_
      refine G_aload_n 0 dX7_digits_67 rfl rfl ?_
      refine G_get 2 clX7 (y1_23) fl_X7_18 dX7_digits_68 (by decide) rfl rfl ?_
      refine G_iload_n 1 dX7_digits_71 rfl rfl ?_
      refine G_lald (y1_26) dX7_digits_72 ?_
      refine G_ldc2 (v := 10) cl_X7_80 dX7_digits_73 ?_
      refine G_lmul dX7_digits_76 ?_
      refine G_aload_n 0 dX7_digits_77 rfl rfl ?_
      refine G_iload_n 2 dX7_digits_78 rfl rfl ?_
      refine G_cVi (As := [.int x3]) (rest := [.long ((M.2.1 26 (tn x1)) * (10 : Int64)), .int x1, .ref (ad X 26)]) (ok_X7_charAt x3 M) rfl (y1_23) rfl mv_X7_39 dX7_digits_79 rfl rfl (Nat.le_of_ble_eq_true rfl) (g_fitN (by decide) (by decide)) (fun r3 M2 => ?_)
      refine G_i2l dX7_digits_82 ?_
      refine G_ladd dX7_digits_83 ?_
      refine G_ldc2 (v := 48) cl_X7_82 dX7_digits_84 ?_
      refine G_lsub dX7_digits_87 ?_
      refine G_last (y1_26) dX7_digits_88 ?_
      refine G_m (fun M4 => ?_)
      refine G_iinc (v := x3 + 1) (lv' := [(3, .int (x3 + 1)), (0, .ref (ad X 23)), (1, .int x1)]) 2 dX7_digits_89 rfl rfl (by decide) rfl ?_
      refine G_goto (tgt := 54) dX7_digits_92 (by decide) ?_
      exact G_sub [1, 2, 0] rfl (ih x1 (x3 + 1) M4)
def f_X7_digits_39 (x1 : Int32) (x2 : Int32) (M : gM) : Option (Int32 × gM) := (if ((M.1 23 5) - x2) ≤ (4 : Int32) then (f_X7_digits_54 FU x1 x2 M) else (some ((31 : Int32), M)))
set_option maxRecDepth 100000 in
set_option maxHeartbeats 4000000 in
theorem o_X7_digits_39 {X : gX} (x1 : Int32) (x2 : Int32) (M : gM) : G Y1 jX7_digits X (g_fin g_ei) 39 [(0, .ref (ad X 23)), (1, .int x1), (2, .int x2)] [] M (f_X7_digits_39 x1 x2 M) := by
  rw [f_X7_digits_39]
  refine G_aload_n 0 dX7_digits_39 rfl rfl ?_
  refine G_get 5 clX7 (y1_23) fl_X7_29 dX7_digits_40 (by decide) rfl rfl ?_
  refine G_iload_n 2 dX7_digits_43 rfl rfl ?_
  refine G_isub dX7_digits_44 ?_
  refine G_iconst (v := 4) dX7_digits_45 (by decide) ?_
  refine G_icmp_le (tgt := 52) dX7_digits_46 (by decide) ?_ ?_
  · refine G_iload_n 2 dX7_digits_52 rfl rfl ?_
    refine G_istore_n (lv' := [(3, .int x2), (0, .ref (ad X 23)), (1, .int x1), (2, .int x2)]) dX7_digits_53 rfl (by decide) rfl ?_
    exact G_sub [1, 2, 0] rfl (o_X7_digits_54 FU x1 x2 M)
  · refine G_bipush (v := 31) dX7_digits_49 (by decide) ?_
    exact G_iret rfl dX7_digits_51
def f_X7_digits_7 : Nat → Int32 → Int32 → Int32 → gM → Option (Int32 × gM)
  | 0, _, _, _, _ => none
  | n + 1, x1, x2, x3, M => (if (M.1 23 4) ≤ x3 then (f_X7_digits_39 x1 x2 M) else (g_b (f_X7_charAt x3 M) (fun r6 M5 => (g_b (f_X7_isDigit r6 M5) (fun r8 M7 => (if r8 then (g_m (sI M7 23 5 (x3 + (1 : Int32))) (fun M9 => (f_X7_digits_7 n x1 x2 (x3 + 1) M9))) else (f_X7_digits_39 x1 x2 M7)))))))
set_option maxRecDepth 100000 in
set_option maxHeartbeats 4000000 in
theorem o_X7_digits_7 {X : gX} : ∀ (n : Nat) (x1 : Int32) (x2 : Int32) (x3 : Int32) (M : gM), G Y1 jX7_digits X (g_fin g_ei) 7 [(0, .ref (ad X 23)), (1, .int x1), (2, .int x2), (3, .int x3)] [] M (f_X7_digits_7 n x1 x2 x3 M) := by
  intro n
  induction n with
  | zero => intro x1 x2 x3 M; exact G_none
  | succ n ih =>
    intro x1 x2 x3 M
    rw [f_X7_digits_7]
    refine G_iload_n 3 dX7_digits_7 rfl rfl ?_
    refine G_aload_n 0 dX7_digits_8 rfl rfl ?_
    refine G_get 4 clX7 (y1_23) fl_X7_25 dX7_digits_9 (by decide) rfl rfl ?_
    refine G_icmp_ge (tgt := 39) dX7_digits_12 (by decide) ?_ ?_
    · exact G_sub [0, 1, 2] rfl (o_X7_digits_39 x1 x2 M)
    · refine G_aload_n 0 dX7_digits_15 rfl rfl ?_
      refine G_iload_n 3 dX7_digits_16 rfl rfl ?_
      refine G_cVi (As := [.int x3]) (rest := []) (ok_X7_charAt x3 M) rfl (y1_23) rfl mv_X7_39 dX7_digits_17 rfl rfl (Nat.le_of_ble_eq_true rfl) (g_fitN (by decide) (by decide)) (fun r6 M5 => ?_)
      refine G_cSb (As := [.int r6]) (rest := []) (ok_X7_isDigit r6 M5) rfl ms_X7_52 dX7_digits_20 rfl rfl (Nat.le_of_ble_eq_true rfl) (g_fitN (by decide) (by decide)) (fun r8 M7 => ?_)
      refine G_ifB_eq (tgt := 39) dX7_digits_23 (by decide) ?_ ?_
      · exact G_sub [0, 1, 2] rfl (o_X7_digits_39 x1 x2 M7)
      · refine G_aload_n 0 dX7_digits_26 rfl rfl ?_
        refine G_iload_n 3 dX7_digits_27 rfl rfl ?_
        refine G_iconst (v := 1) dX7_digits_28 (by decide) ?_
        refine G_iadd dX7_digits_29 ?_
        refine G_putI 5 clX7 (y1_23) fl_X7_29 dX7_digits_30 (by decide) rfl rfl rfl ?_
        refine G_m (fun M9 => ?_)
        refine G_iinc (v := x3 + 1) (lv' := [(3, .int (x3 + 1)), (0, .ref (ad X 23)), (1, .int x1), (2, .int x2)]) 3 dX7_digits_33 rfl rfl (by decide) rfl ?_
        refine G_goto (tgt := 7) dX7_digits_36 (by decide) ?_
        exact G_sub [1, 2, 3, 0] rfl (ih x1 x2 (x3 + 1) M9)
def f_X7_digits (a1 : Int32) (M : gM) : Option (Int32 × gM) := (g_v (M.1 23 5) (fun y1 => (f_X7_digits_7 FU a1 y1 y1 M)))
set_option maxRecDepth 100000 in
set_option maxHeartbeats 4000000 in
theorem ok_X7_digits (a1 : Int32) (M : gM) : g_met Y1 yX7_digits jX7_digits g_ei (fun Z => [.ref (Z.2.1 23), .int a1]) M (f_X7_digits a1 M) := by
  refine g_enter (fun Z => [(0, .ref (Z.2.1 23)), (1, .int a1)]) (by decide) rfl (fun Z => Nat.le_of_ble_eq_true rfl) (fun Z => rfl) (fun X => ?_)
  rw [f_X7_digits]
  refine G_aload_n 0 dX7_digits_0 rfl rfl ?_
  refine G_get 5 clX7 (y1_23) fl_X7_29 dX7_digits_1 (by decide) rfl rfl ?_
  refine G_vi (fun y1 => ?_)
  refine G_istore_n (lv' := [(2, .int y1), (0, .ref (ad X 23)), (1, .int a1)]) dX7_digits_4 rfl (by decide) rfl ?_
  refine G_iload_n 0 dX7_digits_5 rfl rfl ?_
  refine G_istore_n (lv' := [(3, .int y1), (2, .int y1), (0, .ref (ad X 23)), (1, .int a1)]) dX7_digits_6 rfl (by decide) rfl ?_
  exact G_sub [2, 3, 1, 0] rfl (o_X7_digits_7 FU a1 y1 y1 M)
-- X7_isLetter
def f_X7_isLetter (a0 : Int32) (M : gM) : Option (Bool × gM) := (if a0 < (97 : Int32) then (some (false, M)) else (if (122 : Int32) < a0 then (some (false, M)) else (some (true, M))))
set_option maxRecDepth 100000 in
set_option maxHeartbeats 4000000 in
theorem ok_X7_isLetter (a0 : Int32) (M : gM) : g_met Y1 yX7_isLetter jX7_isLetter g_eb (fun Z => [.int a0]) M (f_X7_isLetter a0 M) := by
  refine g_enter (fun Z => [(0, .int a0)]) (by decide) rfl (fun Z => Nat.le_of_ble_eq_true rfl) (fun Z => rfl) (fun X => ?_)
  rw [f_X7_isLetter]
  refine G_iload_n 0 dX7_isLetter_0 rfl rfl ?_
  refine G_bipush (v := 97) dX7_isLetter_1 (by decide) ?_
  refine G_icmp_lt (tgt := 16) dX7_isLetter_3 (by decide) ?_ ?_
  · refine G_iconst (v := 0) dX7_isLetter_16 (by decide) ?_
    exact G_zret (b := false) rfl dX7_isLetter_17
  · refine G_iload_n 0 dX7_isLetter_6 rfl rfl ?_
    refine G_bipush (v := 122) dX7_isLetter_7 (by decide) ?_
    refine G_icmp_gt (tgt := 16) dX7_isLetter_9 (by decide) ?_ ?_
    · refine G_iconst (v := 0) dX7_isLetter_16 (by decide) ?_
      exact G_zret (b := false) rfl dX7_isLetter_17
    · refine G_iconst (v := 1) dX7_isLetter_12 (by decide) ?_
      refine G_goto (tgt := 17) dX7_isLetter_13 (by decide) ?_
      exact G_zret (b := true) rfl dX7_isLetter_17
-- X7_isWord
def f_X7_isWord_47 (k16 : Int32 → Int32 → Int32 → Int32 → Int32 → gM → Option (Bool × gM)) (x1 : Int32) (x2 : Int32) (x3 : Int32) (x5 : Int32) (s0 : Int32) (M : gM) : Option (Bool × gM) := (g_v ((x1 * (6 : Int32)) + x5) (fun y1 => (if y1 < 0 then (k16 x1 x2 x3 (0 : Int32) (x5 + 1) M) else (if (102 : Int32) ≤ y1 then (k16 x1 x2 x3 (0 : Int32) (x5 + 1) M) else (g_ck y1 102 (if (wch (tn y1)) = s0 then (k16 x1 x2 x3 (1 : Int32) (x5 + 1) M) else (k16 x1 x2 x3 (0 : Int32) (x5 + 1) M)))))))
set_option maxRecDepth 100000 in
set_option maxHeartbeats 4000000 in
theorem o_X7_isWord_47 {X : gX} {k16 : Int32 → Int32 → Int32 → Int32 → Int32 → gM → Option (Bool × gM)} (hk16 : ∀ (x1 : Int32) (x2 : Int32) (x3 : Int32) (x4 : Int32) (x5 : Int32) (M : gM), G Y1 jX7_isWord X (g_fin g_eb) 16 [(0, .ref (ad X 23)), (1, .int x1), (2, .int x2), (3, .int x3), (4, .int x4), (5, .int x5)] [] M (k16 x1 x2 x3 x4 x5 M)) (x1 : Int32) (x2 : Int32) (x3 : Int32) (x5 : Int32) (s0 : Int32) (M : gM) : G Y1 jX7_isWord X (g_fin g_eb) 47 [(0, .ref (ad X 23)), (1, .int x1), (2, .int x2), (3, .int x3), (5, .int x5)] [.int s0] M (f_X7_isWord_47 k16 x1 x2 x3 x5 s0 M) := by
  rw [f_X7_isWord_47]
  refine G_istore (lv' := [(6, .int s0), (0, .ref (ad X 23)), (1, .int x1), (2, .int x2), (3, .int x3), (5, .int x5)]) dX7_isWord_47 (by decide) rfl ?_
  refine G_iload_n 2 dX7_isWord_49 rfl rfl ?_
  refine G_bipush (v := 6) dX7_isWord_50 (by decide) ?_
  refine G_imul dX7_isWord_52 ?_
  refine G_iload 5 dX7_isWord_53 rfl ?_
  refine G_iadd dX7_isWord_55 ?_
  refine G_vi (fun y1 => ?_)
  refine G_istore (lv' := [(7, .int y1), (6, .int s0), (0, .ref (ad X 23)), (1, .int x1), (2, .int x2), (3, .int x3), (5, .int x5)]) dX7_isWord_56 (by decide) rfl ?_
  refine G_iload 0 dX7_isWord_58 rfl ?_
  refine G_if_lt (tgt := 89) dX7_isWord_60 (by decide) ?_ ?_
  · refine G_iconst (v := 0) dX7_isWord_89 (by decide) ?_
    refine G_istore (lv' := [(4, .int 0), (7, .int y1), (6, .int s0), (0, .ref (ad X 23)), (1, .int x1), (2, .int x2), (3, .int x3), (5, .int x5)]) dX7_isWord_90 (by decide) rfl ?_
    refine G_iinc (v := x5 + 1) (lv' := [(5, .int (x5 + 1)), (4, .int 0), (7, .int y1), (6, .int s0), (0, .ref (ad X 23)), (1, .int x1), (2, .int x2), (3, .int x3)]) 7 dX7_isWord_92 rfl rfl (by decide) rfl ?_
    refine G_goto (tgt := 16) dX7_isWord_95 (by decide) ?_
    exact G_sub [4, 5, 6, 7, 1, 0] rfl (hk16 x1 x2 x3 (0 : Int32) (x5 + 1) M)
  · refine G_iload 0 dX7_isWord_63 rfl ?_
    refine G_ldcS rfl dX7_isWord_65 ?_
    refine G_strLen ⟨rfl, by decide, by decide⟩ dX7_isWord_67 (Nat.le_of_ble_eq_true rfl) ?_
    refine G_icmp_ge (tgt := 89) dX7_isWord_70 (by decide) ?_ ?_
    · refine G_iconst (v := 0) dX7_isWord_89 (by decide) ?_
      refine G_istore (lv' := [(4, .int 0), (7, .int y1), (6, .int s0), (0, .ref (ad X 23)), (1, .int x1), (2, .int x2), (3, .int x3), (5, .int x5)]) dX7_isWord_90 (by decide) rfl ?_
      refine G_iinc (v := x5 + 1) (lv' := [(5, .int (x5 + 1)), (4, .int 0), (7, .int y1), (6, .int s0), (0, .ref (ad X 23)), (1, .int x1), (2, .int x2), (3, .int x3)]) 7 dX7_isWord_92 rfl rfl (by decide) rfl ?_
      refine G_goto (tgt := 16) dX7_isWord_95 (by decide) ?_
      exact G_sub [4, 5, 6, 7, 1, 0] rfl (hk16 x1 x2 x3 (0 : Int32) (x5 + 1) M)
    · refine G_ldcS rfl dX7_isWord_73 ?_
      refine G_iload 0 dX7_isWord_75 rfl ?_
      refine G_strChar ⟨rfl, by decide, by decide⟩ dX7_isWord_77 (Nat.le_of_ble_eq_true rfl) ?_
      refine G_iload 1 dX7_isWord_80 rfl ?_
      refine G_icmp_ne (tgt := 89) dX7_isWord_82 (by decide) ?_ ?_
      · refine G_iconst (v := 0) dX7_isWord_89 (by decide) ?_
        refine G_istore (lv' := [(4, .int 0), (7, .int y1), (6, .int s0), (0, .ref (ad X 23)), (1, .int x1), (2, .int x2), (3, .int x3), (5, .int x5)]) dX7_isWord_90 (by decide) rfl ?_
        refine G_iinc (v := x5 + 1) (lv' := [(5, .int (x5 + 1)), (4, .int 0), (7, .int y1), (6, .int s0), (0, .ref (ad X 23)), (1, .int x1), (2, .int x2), (3, .int x3)]) 7 dX7_isWord_92 rfl rfl (by decide) rfl ?_
        refine G_goto (tgt := 16) dX7_isWord_95 (by decide) ?_
        exact G_sub [4, 5, 6, 7, 1, 0] rfl (hk16 x1 x2 x3 (0 : Int32) (x5 + 1) M)
      · refine G_iconst (v := 1) dX7_isWord_85 (by decide) ?_
        refine G_goto (tgt := 90) dX7_isWord_86 (by decide) ?_
        refine G_istore (lv' := [(4, .int 1), (7, .int y1), (6, .int s0), (0, .ref (ad X 23)), (1, .int x1), (2, .int x2), (3, .int x3), (5, .int x5)]) dX7_isWord_90 (by decide) rfl ?_
        refine G_iinc (v := x5 + 1) (lv' := [(5, .int (x5 + 1)), (4, .int 1), (7, .int y1), (6, .int s0), (0, .ref (ad X 23)), (1, .int x1), (2, .int x2), (3, .int x3)]) 7 dX7_isWord_92 rfl rfl (by decide) rfl ?_
        refine G_goto (tgt := 16) dX7_isWord_95 (by decide) ?_
        exact G_sub [4, 5, 6, 7, 1, 0] rfl (hk16 x1 x2 x3 (1 : Int32) (x5 + 1) M)
def f_X7_isWord_16 : Nat → Int32 → Int32 → Int32 → Int32 → Int32 → gM → Option (Bool × gM)
  | 0, _, _, _, _, _, _ => none
  | n + 1, x1, x2, x3, x4, x5, M => (if (6 : Int32) ≤ x5 then (g_tb x4 (fun b => some (b, M))) else (if x4 = 0 then (g_tb x4 (fun b => some (b, M))) else (if x3 ≤ x5 then (f_X7_isWord_47 (f_X7_isWord_16 n) x1 x2 x3 x5 (32 : Int32) M) else (g_b (f_X7_charAt (x2 + x5) M) (fun r3 M2 => (f_X7_isWord_47 (f_X7_isWord_16 n) x1 x2 x3 x5 r3 M2))))))
set_option maxRecDepth 100000 in
set_option maxHeartbeats 4000000 in
theorem o_X7_isWord_16 {X : gX} : ∀ (n : Nat) (x1 : Int32) (x2 : Int32) (x3 : Int32) (x4 : Int32) (x5 : Int32) (M : gM), G Y1 jX7_isWord X (g_fin g_eb) 16 [(0, .ref (ad X 23)), (1, .int x1), (2, .int x2), (3, .int x3), (4, .int x4), (5, .int x5)] [] M (f_X7_isWord_16 n x1 x2 x3 x4 x5 M) := by
  intro n
  induction n with
  | zero => intro x1 x2 x3 x4 x5 M; exact G_none
  | succ n ih =>
    intro x1 x2 x3 x4 x5 M
    rw [f_X7_isWord_16]
    refine G_iload 5 dX7_isWord_16 rfl ?_
    refine G_bipush (v := 6) dX7_isWord_18 (by decide) ?_
    refine G_icmp_ge (tgt := 98) dX7_isWord_20 (by decide) ?_ ?_
    · refine G_iload 4 dX7_isWord_98 rfl ?_
      exact G_zretI rfl dX7_isWord_100
    · refine G_iload 4 dX7_isWord_23 rfl ?_
      refine G_if_eq (tgt := 98) dX7_isWord_25 (by decide) ?_ ?_
      · refine G_iload 4 dX7_isWord_98 rfl ?_
        exact G_zretI rfl dX7_isWord_100
      · refine G_iload 5 dX7_isWord_28 rfl ?_
        refine G_iload_n 3 dX7_isWord_30 rfl rfl ?_
        refine G_icmp_ge (tgt := 45) dX7_isWord_31 (by decide) ?_ ?_
        · refine G_bipush (v := 32) dX7_isWord_45 (by decide) ?_
          exact G_sub [0, 1, 2, 3, 5] rfl (o_X7_isWord_47 ih x1 x2 x3 x5 (32 : Int32) M)
        · refine G_aload_n 0 dX7_isWord_34 rfl rfl ?_
          refine G_iload_n 2 dX7_isWord_35 rfl rfl ?_
          refine G_iload 5 dX7_isWord_36 rfl ?_
          refine G_iadd dX7_isWord_38 ?_
          refine G_cVi (As := [.int (x2 + x5)]) (rest := []) (ok_X7_charAt (x2 + x5) M) rfl (y1_23) rfl mv_X7_39 dX7_isWord_39 rfl rfl (Nat.le_of_ble_eq_true rfl) (g_fitN (by decide) (by decide)) (fun r3 M2 => ?_)
          refine G_goto (tgt := 47) dX7_isWord_42 (by decide) ?_
          exact G_sub [0, 1, 2, 3, 5] rfl (o_X7_isWord_47 ih x1 x2 x3 x5 r3 M2)
def f_X7_isWord (a1 : Int32) (a2 : Int32) (a3 : Int32) (M : gM) : Option (Bool × gM) := (if (6 : Int32) < a3 then (f_X7_isWord_16 FU a1 a2 a3 (0 : Int32) (0 : Int32) M) else (f_X7_isWord_16 FU a1 a2 a3 (1 : Int32) (0 : Int32) M))
set_option maxRecDepth 100000 in
set_option maxHeartbeats 4000000 in
theorem ok_X7_isWord (a1 : Int32) (a2 : Int32) (a3 : Int32) (M : gM) : g_met Y1 yX7_isWord jX7_isWord g_eb (fun Z => [.ref (Z.2.1 23), .int a1, .int a2, .int a3]) M (f_X7_isWord a1 a2 a3 M) := by
  refine g_enter (fun Z => [(0, .ref (Z.2.1 23)), (1, .int a1), (2, .int a2), (3, .int a3)]) (by decide) rfl (fun Z => Nat.le_of_ble_eq_true rfl) (fun Z => rfl) (fun X => ?_)
  rw [f_X7_isWord]
  refine G_iload_n 3 dX7_isWord_0 rfl rfl ?_
  refine G_bipush (v := 6) dX7_isWord_1 (by decide) ?_
  refine G_icmp_gt (tgt := 10) dX7_isWord_3 (by decide) ?_ ?_
  · refine G_iconst (v := 0) dX7_isWord_10 (by decide) ?_
    refine G_istore (lv' := [(4, .int 0), (0, .ref (ad X 23)), (1, .int a1), (2, .int a2), (3, .int a3)]) dX7_isWord_11 (by decide) rfl ?_
    refine G_iconst (v := 0) dX7_isWord_13 (by decide) ?_
    refine G_istore (lv' := [(5, .int 0), (4, .int 0), (0, .ref (ad X 23)), (1, .int a1), (2, .int a2), (3, .int a3)]) dX7_isWord_14 (by decide) rfl ?_
    exact G_sub [2, 3, 4, 5, 1, 0] rfl (o_X7_isWord_16 FU a1 a2 a3 (0 : Int32) (0 : Int32) M)
  · refine G_iconst (v := 1) dX7_isWord_6 (by decide) ?_
    refine G_goto (tgt := 11) dX7_isWord_7 (by decide) ?_
    refine G_istore (lv' := [(4, .int 1), (0, .ref (ad X 23)), (1, .int a1), (2, .int a2), (3, .int a3)]) dX7_isWord_11 (by decide) rfl ?_
    refine G_iconst (v := 0) dX7_isWord_13 (by decide) ?_
    refine G_istore (lv' := [(5, .int 0), (4, .int 1), (0, .ref (ad X 23)), (1, .int a1), (2, .int a2), (3, .int a3)]) dX7_isWord_14 (by decide) rfl ?_
    exact G_sub [2, 3, 4, 5, 1, 0] rfl (o_X7_isWord_16 FU a1 a2 a3 (1 : Int32) (0 : Int32) M)
-- X7_letters
def f_X7_letters_106 : Nat → Int32 → Int32 → Int32 → gM → Option (Int32 × gM)
  | 0, _, _, _, _ => none
  | n + 1, x2, x3, x4, M => (if (17 : Int32) ≤ x4 then (some ((17 : Int32), M)) else (g_b (f_X7_isWord x4 x2 x3 M) (fun r4 M3 => (if r4 then (some (x4, M3)) else (f_X7_letters_106 n x2 x3 (x4 + 1) M3)))))
set_option maxRecDepth 100000 in
set_option maxHeartbeats 4000000 in
theorem o_X7_letters_106 {X : gX} : ∀ (n : Nat) (x2 : Int32) (x3 : Int32) (x4 : Int32) (M : gM), G Y1 jX7_letters X (g_fin g_ei) 106 [(0, .ref (ad X 23)), (2, .int x2), (3, .int x3), (4, .int x4)] [] M (f_X7_letters_106 n x2 x3 x4 M) := by
  intro n
  induction n with
  | zero => intro x2 x3 x4 M; exact G_none
  | succ n ih =>
    intro x2 x3 x4 M
    rw [f_X7_letters_106]
    refine G_iload 3 dX7_letters_106 rfl ?_
    refine G_bipush (v := 17) dX7_letters_108 (by decide) ?_
    refine G_icmp_ge (tgt := 133) dX7_letters_110 (by decide) ?_ ?_
    · refine G_bipush (v := 17) dX7_letters_133 (by decide) ?_
      exact G_iret rfl dX7_letters_135
    · refine G_aload_n 0 dX7_letters_113 rfl rfl ?_
      refine G_iload 3 dX7_letters_114 rfl ?_
      refine G_iload_n 1 dX7_letters_116 rfl rfl ?_
      refine G_iload_n 2 dX7_letters_117 rfl rfl ?_
      refine G_cVb (As := [.int x4, .int x2, .int x3]) (rest := []) (ok_X7_isWord x4 x2 x3 M) rfl (y1_23) rfl mv_X7_65 dX7_letters_118 rfl rfl (Nat.le_of_ble_eq_true rfl) (g_fitN (by decide) (by decide)) (fun r4 M3 => ?_)
      refine G_ifB_eq (tgt := 127) dX7_letters_121 (by decide) ?_ ?_
      · refine G_iinc (v := x4 + 1) (lv' := [(4, .int (x4 + 1)), (0, .ref (ad X 23)), (2, .int x2), (3, .int x3)]) 3 dX7_letters_127 rfl rfl (by decide) rfl ?_
        refine G_goto (tgt := 106) dX7_letters_130 (by decide) ?_
        exact G_sub [1, 2, 3, 0] rfl (ih x2 x3 (x4 + 1) M3)
      · refine G_iload 3 dX7_letters_124 rfl ?_
        exact G_iret rfl dX7_letters_126
def f_X7_letters_58 : Nat → Int32 → Int32 → Int32 → Int32 → gM → Option (Int32 × gM)
  | 0, _, _, _, _, _ => none
  | n + 1, x1, x2, x3, x4, M => (if (M.1 23 5) ≤ x4 then (f_X7_letters_106 FU x2 x3 (0 : Int32) M) else (g_ck x1 401 (g_b (f_X7_charAt x4 M) (fun r6 M5 => (g_ck x1 401 (g_m (sL M5 26 (tn x1) (((((M.2.1 26 (tn x1)) * (27 : Int64)) + r6.toInt64) - (97 : Int64)) + (1 : Int64))) (fun M7 => (f_X7_letters_58 n x1 x2 x3 (x4 + 1) M7))))))))
set_option maxRecDepth 100000 in
set_option maxHeartbeats 4000000 in
theorem o_X7_letters_58 {X : gX} : ∀ (n : Nat) (x1 : Int32) (x2 : Int32) (x3 : Int32) (x4 : Int32) (M : gM), G Y1 jX7_letters X (g_fin g_ei) 58 [(0, .ref (ad X 23)), (1, .int x1), (2, .int x2), (3, .int x3), (4, .int x4)] [] M (f_X7_letters_58 n x1 x2 x3 x4 M) := by
  intro n
  induction n with
  | zero => intro x1 x2 x3 x4 M; exact G_none
  | succ n ih =>
    intro x1 x2 x3 x4 M
    rw [f_X7_letters_58]
    refine G_iload 4 dX7_letters_58 rfl ?_
    refine G_aload_n 0 dX7_letters_60 rfl rfl ?_
    refine G_get 5 clX7 (y1_23) fl_X7_29 dX7_letters_61 (by decide) rfl rfl ?_
    refine G_icmp_ge (tgt := 103) dX7_letters_64 (by decide) ?_ ?_
    · refine G_iconst (v := 0) dX7_letters_103 (by decide) ?_
      refine G_istore (lv' := [(4, .int 0), (0, .ref (ad X 23)), (1, .int x1), (2, .int x2), (3, .int x3)]) dX7_letters_104 (by decide) rfl ?_
      exact G_sub [1, 3, 4, 0] rfl (o_X7_letters_106 FU x2 x3 (0 : Int32) M)
    · refine G_aload_n 0 dX7_letters_67 rfl rfl ?_
      refine G_get 2 clX7 (y1_23) fl_X7_18 dX7_letters_68 (by decide) rfl rfl ?_
      refine G_iload_n 1 dX7_letters_71 rfl rfl ?_
      refine G_aload_n 0 dX7_letters_72 rfl rfl ?_
      refine G_get 2 clX7 (y1_23) fl_X7_18 dX7_letters_73 (by decide) rfl rfl ?_
      refine G_iload_n 1 dX7_letters_76 rfl rfl ?_
      refine G_lald (y1_26) dX7_letters_77 ?_
      refine G_ldc2 (v := 27) cl_X7_61 dX7_letters_78 ?_
      refine G_lmul dX7_letters_81 ?_
      refine G_aload_n 0 dX7_letters_82 rfl rfl ?_
      refine G_iload 4 dX7_letters_83 rfl ?_
      refine G_cVi (As := [.int x4]) (rest := [.long ((M.2.1 26 (tn x1)) * (27 : Int64)), .int x1, .ref (ad X 26)]) (ok_X7_charAt x4 M) rfl (y1_23) rfl mv_X7_39 dX7_letters_85 rfl rfl (Nat.le_of_ble_eq_true rfl) (g_fitN (by decide) (by decide)) (fun r6 M5 => ?_)
      refine G_i2l dX7_letters_88 ?_
      refine G_ladd dX7_letters_89 ?_
      refine G_ldc2 (v := 97) cl_X7_63 dX7_letters_90 ?_
      refine G_lsub dX7_letters_93 ?_
      refine G_lconst (v := 1) dX7_letters_94 (by decide) ?_
      refine G_ladd dX7_letters_95 ?_
      refine G_last (y1_26) dX7_letters_96 ?_
      refine G_m (fun M7 => ?_)
      refine G_iinc (v := x4 + 1) (lv' := [(4, .int (x4 + 1)), (0, .ref (ad X 23)), (1, .int x1), (2, .int x2), (3, .int x3)]) 4 dX7_letters_97 rfl rfl (by decide) rfl ?_
      refine G_goto (tgt := 58) dX7_letters_100 (by decide) ?_
      exact G_sub [1, 2, 3, 4, 0] rfl (ih x1 x2 x3 (x4 + 1) M7)
def f_X7_letters_39 (x1 : Int32) (x2 : Int32) (M : gM) : Option (Int32 × gM) := (g_v ((M.1 23 5) - x2) (fun y2 => (if y2 ≤ (8 : Int32) then (f_X7_letters_58 FU x1 x2 y2 x2 M) else (some ((31 : Int32), M)))))
set_option maxRecDepth 100000 in
set_option maxHeartbeats 4000000 in
theorem o_X7_letters_39 {X : gX} (x1 : Int32) (x2 : Int32) (M : gM) : G Y1 jX7_letters X (g_fin g_ei) 39 [(0, .ref (ad X 23)), (1, .int x1), (2, .int x2)] [] M (f_X7_letters_39 x1 x2 M) := by
  rw [f_X7_letters_39]
  refine G_aload_n 0 dX7_letters_39 rfl rfl ?_
  refine G_get 5 clX7 (y1_23) fl_X7_29 dX7_letters_40 (by decide) rfl rfl ?_
  refine G_iload_n 2 dX7_letters_43 rfl rfl ?_
  refine G_isub dX7_letters_44 ?_
  refine G_vi (fun y2 => ?_)
  refine G_istore_n (lv' := [(3, .int y2), (0, .ref (ad X 23)), (1, .int x1), (2, .int x2)]) dX7_letters_45 rfl (by decide) rfl ?_
  refine G_iload_n 0 dX7_letters_46 rfl rfl ?_
  refine G_bipush (v := 8) dX7_letters_47 (by decide) ?_
  refine G_icmp_le (tgt := 55) dX7_letters_49 (by decide) ?_ ?_
  · refine G_iload_n 3 dX7_letters_55 rfl rfl ?_
    refine G_istore (lv' := [(4, .int x2), (3, .int y2), (0, .ref (ad X 23)), (1, .int x1), (2, .int x2)]) dX7_letters_56 (by decide) rfl ?_
    exact G_sub [2, 3, 4, 1, 0] rfl (o_X7_letters_58 FU x1 x2 y2 x2 M)
  · refine G_bipush (v := 31) dX7_letters_52 (by decide) ?_
    exact G_iret rfl dX7_letters_54
def f_X7_letters_7 : Nat → Int32 → Int32 → Int32 → gM → Option (Int32 × gM)
  | 0, _, _, _, _ => none
  | n + 1, x1, x2, x3, M => (if (M.1 23 4) ≤ x3 then (f_X7_letters_39 x1 x2 M) else (g_b (f_X7_charAt x3 M) (fun r9 M8 => (g_b (f_X7_isLetter r9 M8) (fun r11 M10 => (if r11 then (g_m (sI M10 23 5 (x3 + (1 : Int32))) (fun M12 => (f_X7_letters_7 n x1 x2 (x3 + 1) M12))) else (f_X7_letters_39 x1 x2 M10)))))))
set_option maxRecDepth 100000 in
set_option maxHeartbeats 4000000 in
theorem o_X7_letters_7 {X : gX} : ∀ (n : Nat) (x1 : Int32) (x2 : Int32) (x3 : Int32) (M : gM), G Y1 jX7_letters X (g_fin g_ei) 7 [(0, .ref (ad X 23)), (1, .int x1), (2, .int x2), (3, .int x3)] [] M (f_X7_letters_7 n x1 x2 x3 M) := by
  intro n
  induction n with
  | zero => intro x1 x2 x3 M; exact G_none
  | succ n ih =>
    intro x1 x2 x3 M
    rw [f_X7_letters_7]
    refine G_iload_n 3 dX7_letters_7 rfl rfl ?_
    refine G_aload_n 0 dX7_letters_8 rfl rfl ?_
    refine G_get 4 clX7 (y1_23) fl_X7_25 dX7_letters_9 (by decide) rfl rfl ?_
    refine G_icmp_ge (tgt := 39) dX7_letters_12 (by decide) ?_ ?_
    · exact G_sub [0, 1, 2] rfl (o_X7_letters_39 x1 x2 M)
    · refine G_aload_n 0 dX7_letters_15 rfl rfl ?_
      refine G_iload_n 3 dX7_letters_16 rfl rfl ?_
      refine G_cVi (As := [.int x3]) (rest := []) (ok_X7_charAt x3 M) rfl (y1_23) rfl mv_X7_39 dX7_letters_17 rfl rfl (Nat.le_of_ble_eq_true rfl) (g_fitN (by decide) (by decide)) (fun r9 M8 => ?_)
      refine G_cSb (As := [.int r9]) (rest := []) (ok_X7_isLetter r9 M8) rfl ms_X7_46 dX7_letters_20 rfl rfl (Nat.le_of_ble_eq_true rfl) (g_fitN (by decide) (by decide)) (fun r11 M10 => ?_)
      refine G_ifB_eq (tgt := 39) dX7_letters_23 (by decide) ?_ ?_
      · exact G_sub [0, 1, 2] rfl (o_X7_letters_39 x1 x2 M10)
      · refine G_aload_n 0 dX7_letters_26 rfl rfl ?_
        refine G_iload_n 3 dX7_letters_27 rfl rfl ?_
        refine G_iconst (v := 1) dX7_letters_28 (by decide) ?_
        refine G_iadd dX7_letters_29 ?_
        refine G_putI 5 clX7 (y1_23) fl_X7_29 dX7_letters_30 (by decide) rfl rfl rfl ?_
        refine G_m (fun M12 => ?_)
        refine G_iinc (v := x3 + 1) (lv' := [(3, .int (x3 + 1)), (0, .ref (ad X 23)), (1, .int x1), (2, .int x2)]) 3 dX7_letters_33 rfl rfl (by decide) rfl ?_
        refine G_goto (tgt := 7) dX7_letters_36 (by decide) ?_
        exact G_sub [1, 2, 3, 0] rfl (ih x1 x2 (x3 + 1) M12)
def f_X7_letters (a1 : Int32) (M : gM) : Option (Int32 × gM) := (g_v (M.1 23 5) (fun y1 => (f_X7_letters_7 FU a1 y1 y1 M)))
set_option maxRecDepth 100000 in
set_option maxHeartbeats 4000000 in
theorem ok_X7_letters (a1 : Int32) (M : gM) : g_met Y1 yX7_letters jX7_letters g_ei (fun Z => [.ref (Z.2.1 23), .int a1]) M (f_X7_letters a1 M) := by
  refine g_enter (fun Z => [(0, .ref (Z.2.1 23)), (1, .int a1)]) (by decide) rfl (fun Z => Nat.le_of_ble_eq_true rfl) (fun Z => rfl) (fun X => ?_)
  rw [f_X7_letters]
  refine G_aload_n 0 dX7_letters_0 rfl rfl ?_
  refine G_get 5 clX7 (y1_23) fl_X7_29 dX7_letters_1 (by decide) rfl rfl ?_
  refine G_vi (fun y1 => ?_)
  refine G_istore_n (lv' := [(2, .int y1), (0, .ref (ad X 23)), (1, .int a1)]) dX7_letters_4 rfl (by decide) rfl ?_
  refine G_iload_n 0 dX7_letters_5 rfl rfl ?_
  refine G_istore_n (lv' := [(3, .int y1), (2, .int y1), (0, .ref (ad X 23)), (1, .int a1)]) dX7_letters_6 rfl (by decide) rfl ?_
  exact G_sub [2, 3, 1, 0] rfl (o_X7_letters_7 FU a1 y1 y1 M)
-- X7_second
def f_X7_second (a1 : Int32) (M : gM) : Option (Int32 × gM) := (g_m (sI M 23 5 ((M.1 23 5) + (1 : Int32))) (fun M1 => (some (a1, M1))))
set_option maxRecDepth 100000 in
set_option maxHeartbeats 4000000 in
theorem ok_X7_second (a1 : Int32) (M : gM) : g_met Y1 yX7_second jX7_second g_ei (fun Z => [.ref (Z.2.1 23), .int a1]) M (f_X7_second a1 M) := by
  refine g_enter (fun Z => [(0, .ref (Z.2.1 23)), (1, .int a1)]) (by decide) rfl (fun Z => Nat.le_of_ble_eq_true rfl) (fun Z => rfl) (fun X => ?_)
  rw [f_X7_second]
  refine G_aload_n 0 dX7_second_0 rfl rfl ?_
  refine G_dup dX7_second_1 rfl ?_
  refine G_get 5 clX7 (y1_23) fl_X7_29 dX7_second_2 (by decide) rfl rfl ?_
  refine G_iconst (v := 1) dX7_second_5 (by decide) ?_
  refine G_iadd dX7_second_6 ?_
  refine G_putI 5 clX7 (y1_23) fl_X7_29 dX7_second_7 (by decide) rfl rfl rfl ?_
  refine G_m (fun M1 => ?_)
  refine G_iload_n 1 dX7_second_10 rfl rfl ?_
  exact G_iret rfl dX7_second_11
-- X7_sign
def f_X7_sign_20 (x1 : Int32) (s0 : Int32) (M : gM) : Option (Int32 × gM) := (g_m (sI M 23 5 ((M.1 23 5) + (1 : Int32))) (fun M3 => (if x1 = 33 then (if s0 = 0 then (some ((31 : Int32), M3)) else (g_b (f_X7_second (25 : Int32) M3) (fun r5 M4 => (some (r5, M4))))) else (if x1 = 40 then (some ((28 : Int32), M3)) else (if x1 = 41 then (some ((29 : Int32), M3)) else (if x1 = 42 then (some ((22 : Int32), M3)) else (if x1 = 43 then (some ((20 : Int32), M3)) else (if x1 = 45 then (some ((21 : Int32), M3)) else (if x1 = 47 then (some ((23 : Int32), M3)) else (if x1 = 59 then (some ((19 : Int32), M3)) else (if x1 = 60 then (if s0 = 0 then (some ((26 : Int32), M3)) else (g_b (f_X7_second (27 : Int32) M3) (fun r15 M14 => (some (r15, M14))))) else (if x1 = 61 then (if s0 = 0 then (some ((31 : Int32), M3)) else (g_b (f_X7_second (24 : Int32) M3) (fun r18 M17 => (some (r18, M17))))) else (some ((31 : Int32), M3))))))))))))))
set_option maxRecDepth 100000 in
set_option maxHeartbeats 4000000 in
theorem o_X7_sign_20 {X : gX} (x1 : Int32) (s0 : Int32) (M : gM) : G Y1 jX7_sign X (g_fin g_ei) 20 [(0, .ref (ad X 23)), (1, .int x1)] [.int s0] M (f_X7_sign_20 x1 s0 M) := by
  rw [f_X7_sign_20]
  refine G_istore_n (lv' := [(2, .int s0), (0, .ref (ad X 23)), (1, .int x1)]) dX7_sign_20 rfl (by decide) rfl ?_
  refine G_aload_n 1 dX7_sign_21 rfl rfl ?_
  refine G_dup dX7_sign_22 rfl ?_
  refine G_get 5 clX7 (y1_23) fl_X7_29 dX7_sign_23 (by decide) rfl rfl ?_
  refine G_iconst (v := 1) dX7_sign_26 (by decide) ?_
  refine G_iadd dX7_sign_27 ?_
  refine G_putI 5 clX7 (y1_23) fl_X7_29 dX7_sign_28 (by decide) rfl rfl rfl ?_
  refine G_m (fun M3 => ?_)
  refine G_iload_n 2 dX7_sign_31 rfl rfl ?_
  refine G_ite (fun h6 => ?_) (fun h6 => ?_)
  · refine G_tabIn (tgt := 201) (off := 169) dX7_sign_32 (by rw [h6]; decide) (by rw [h6]; decide) (by rw [h6]; decide) (by decide) ?_
    refine G_iload_n 0 dX7_sign_201 rfl rfl ?_
    refine G_if_eq (tgt := 214) dX7_sign_202 (by decide) ?_ ?_
    · refine G_bipush (v := 31) dX7_sign_214 (by decide) ?_
      exact G_iret rfl dX7_sign_216
    · refine G_aload_n 1 dX7_sign_205 rfl rfl ?_
      refine G_bipush (v := 25) dX7_sign_206 (by decide) ?_
      refine G_cVi (As := [.int 25]) (rest := []) (ok_X7_second (25 : Int32) M3) rfl (y1_23) rfl mv_X7_84 dX7_sign_208 rfl rfl (Nat.le_of_ble_eq_true rfl) (g_fitN (by decide) (by decide)) (fun r5 M4 => ?_)
      refine G_goto (tgt := 216) dX7_sign_211 (by decide) ?_
      exact G_iret rfl dX7_sign_216
  refine G_ite (fun h7 => ?_) (fun h7 => ?_)
  · refine G_tabIn (tgt := 179) (off := 147) dX7_sign_32 (by rw [h7]; decide) (by rw [h7]; decide) (by rw [h7]; decide) (by decide) ?_
    refine G_bipush (v := 28) dX7_sign_179 (by decide) ?_
    exact G_iret rfl dX7_sign_181
  refine G_ite (fun h8 => ?_) (fun h8 => ?_)
  · refine G_tabIn (tgt := 182) (off := 150) dX7_sign_32 (by rw [h8]; decide) (by rw [h8]; decide) (by rw [h8]; decide) (by decide) ?_
    refine G_bipush (v := 29) dX7_sign_182 (by decide) ?_
    exact G_iret rfl dX7_sign_184
  refine G_ite (fun h9 => ?_) (fun h9 => ?_)
  · refine G_tabIn (tgt := 173) (off := 141) dX7_sign_32 (by rw [h9]; decide) (by rw [h9]; decide) (by rw [h9]; decide) (by decide) ?_
    refine G_bipush (v := 22) dX7_sign_173 (by decide) ?_
    exact G_iret rfl dX7_sign_175
  refine G_ite (fun h10 => ?_) (fun h10 => ?_)
  · refine G_tabIn (tgt := 167) (off := 135) dX7_sign_32 (by rw [h10]; decide) (by rw [h10]; decide) (by rw [h10]; decide) (by decide) ?_
    refine G_bipush (v := 20) dX7_sign_167 (by decide) ?_
    exact G_iret rfl dX7_sign_169
  refine G_ite (fun h11 => ?_) (fun h11 => ?_)
  · refine G_tabIn (tgt := 170) (off := 138) dX7_sign_32 (by rw [h11]; decide) (by rw [h11]; decide) (by rw [h11]; decide) (by decide) ?_
    refine G_bipush (v := 21) dX7_sign_170 (by decide) ?_
    exact G_iret rfl dX7_sign_172
  refine G_ite (fun h12 => ?_) (fun h12 => ?_)
  · refine G_tabIn (tgt := 176) (off := 144) dX7_sign_32 (by rw [h12]; decide) (by rw [h12]; decide) (by rw [h12]; decide) (by decide) ?_
    refine G_bipush (v := 23) dX7_sign_176 (by decide) ?_
    exact G_iret rfl dX7_sign_178
  refine G_ite (fun h13 => ?_) (fun h13 => ?_)
  · refine G_tabIn (tgt := 164) (off := 132) dX7_sign_32 (by rw [h13]; decide) (by rw [h13]; decide) (by rw [h13]; decide) (by decide) ?_
    refine G_bipush (v := 19) dX7_sign_164 (by decide) ?_
    exact G_iret rfl dX7_sign_166
  refine G_ite (fun h16 => ?_) (fun h16 => ?_)
  · refine G_tabIn (tgt := 217) (off := 185) dX7_sign_32 (by rw [h16]; decide) (by rw [h16]; decide) (by rw [h16]; decide) (by decide) ?_
    refine G_iload_n 0 dX7_sign_217 rfl rfl ?_
    refine G_if_eq (tgt := 230) dX7_sign_218 (by decide) ?_ ?_
    · refine G_bipush (v := 26) dX7_sign_230 (by decide) ?_
      exact G_iret rfl dX7_sign_232
    · refine G_aload_n 1 dX7_sign_221 rfl rfl ?_
      refine G_bipush (v := 27) dX7_sign_222 (by decide) ?_
      refine G_cVi (As := [.int 27]) (rest := []) (ok_X7_second (27 : Int32) M3) rfl (y1_23) rfl mv_X7_84 dX7_sign_224 rfl rfl (Nat.le_of_ble_eq_true rfl) (g_fitN (by decide) (by decide)) (fun r15 M14 => ?_)
      refine G_goto (tgt := 232) dX7_sign_227 (by decide) ?_
      exact G_iret rfl dX7_sign_232
  refine G_ite (fun h19 => ?_) (fun h19 => ?_)
  · refine G_tabIn (tgt := 185) (off := 153) dX7_sign_32 (by rw [h19]; decide) (by rw [h19]; decide) (by rw [h19]; decide) (by decide) ?_
    refine G_iload_n 0 dX7_sign_185 rfl rfl ?_
    refine G_if_eq (tgt := 198) dX7_sign_186 (by decide) ?_ ?_
    · refine G_bipush (v := 31) dX7_sign_198 (by decide) ?_
      exact G_iret rfl dX7_sign_200
    · refine G_aload_n 1 dX7_sign_189 rfl rfl ?_
      refine G_bipush (v := 24) dX7_sign_190 (by decide) ?_
      refine G_cVi (As := [.int 24]) (rest := []) (ok_X7_second (24 : Int32) M3) rfl (y1_23) rfl mv_X7_84 dX7_sign_192 rfl rfl (Nat.le_of_ble_eq_true rfl) (g_fitN (by decide) (by decide)) (fun r18 M17 => ?_)
      refine G_goto (tgt := 200) dX7_sign_195 (by decide) ?_
      exact G_iret rfl dX7_sign_200
  have hdf : G Y1 jX7_sign X (g_fin g_ei) 233 [(2, .int s0), (0, .ref (ad X 23)), (1, .int x1)] [] M3 (some ((31 : Int32), M3)) := by
    refine G_bipush (v := 31) dX7_sign_233 (by decide) ?_
    exact G_iret rfl dX7_sign_235
  by_cases h20 : x1.toInt < 33 ∨ 61 < x1.toInt
  · exact G_tabOut (tgt := 233) dX7_sign_32 h20 (by decide) hdf
  · have hin : x1.toInt = 34 ∨ x1.toInt = 35 ∨ x1.toInt = 36 ∨ x1.toInt = 37 ∨ x1.toInt = 38 ∨ x1.toInt = 39 ∨ x1.toInt = 44 ∨ x1.toInt = 46 ∨ x1.toInt = 48 ∨ x1.toInt = 49 ∨ x1.toInt = 50 ∨ x1.toInt = 51 ∨ x1.toInt = 52 ∨ x1.toInt = 53 ∨ x1.toInt = 54 ∨ x1.toInt = 55 ∨ x1.toInt = 56 ∨ x1.toInt = 57 ∨ x1.toInt = 58 := by have := g_nk (k := 33) h6 (by decide); have := g_nk (k := 40) h7 (by decide); have := g_nk (k := 41) h8 (by decide); have := g_nk (k := 42) h9 (by decide); have := g_nk (k := 43) h10 (by decide); have := g_nk (k := 45) h11 (by decide); have := g_nk (k := 47) h12 (by decide); have := g_nk (k := 59) h13 (by decide); have := g_nk (k := 60) h16 (by decide); have := g_nk (k := 61) h19 (by decide); omega
    rcases hin with e | e | e | e | e | e | e | e | e | e | e | e | e | e | e | e | e | e | e
    all_goals exact G_tabIn (tgt := 233) (off := 201) dX7_sign_32 (by rw [e]; decide) (by rw [e]; decide) (by rw [e]; decide) (by decide) hdf
def f_X7_sign (a1 : Int32) (M : gM) : Option (Int32 × gM) := (g_b (f_X7_charAt ((M.1 23 5) + (1 : Int32)) M) (fun r2 M1 => (if r2 = (61 : Int32) then (f_X7_sign_20 a1 (1 : Int32) M1) else (f_X7_sign_20 a1 (0 : Int32) M1))))
set_option maxRecDepth 100000 in
set_option maxHeartbeats 4000000 in
theorem ok_X7_sign (a1 : Int32) (M : gM) : g_met Y1 yX7_sign jX7_sign g_ei (fun Z => [.ref (Z.2.1 23), .int a1]) M (f_X7_sign a1 M) := by
  refine g_enter (fun Z => [(0, .ref (Z.2.1 23)), (1, .int a1)]) (by decide) rfl (fun Z => Nat.le_of_ble_eq_true rfl) (fun Z => rfl) (fun X => ?_)
  rw [f_X7_sign]
  refine G_aload_n 0 dX7_sign_0 rfl rfl ?_
  refine G_aload_n 0 dX7_sign_1 rfl rfl ?_
  refine G_get 5 clX7 (y1_23) fl_X7_29 dX7_sign_2 (by decide) rfl rfl ?_
  refine G_iconst (v := 1) dX7_sign_5 (by decide) ?_
  refine G_iadd dX7_sign_6 ?_
  refine G_cVi (As := [.int ((M.1 23 5) + (1 : Int32))]) (rest := []) (ok_X7_charAt ((M.1 23 5) + (1 : Int32)) M) rfl (y1_23) rfl mv_X7_39 dX7_sign_7 rfl rfl (Nat.le_of_ble_eq_true rfl) (g_fitN (by decide) (by decide)) (fun r2 M1 => ?_)
  refine G_bipush (v := 61) dX7_sign_10 (by decide) ?_
  refine G_icmp_ne (tgt := 19) dX7_sign_12 (by decide) ?_ ?_
  · refine G_iconst (v := 0) dX7_sign_19 (by decide) ?_
    exact G_sub [0, 1] rfl (o_X7_sign_20 a1 (0 : Int32) M1)
  · refine G_iconst (v := 1) dX7_sign_15 (by decide) ?_
    refine G_goto (tgt := 20) dX7_sign_16 (by decide) ?_
    exact G_sub [0, 1] rfl (o_X7_sign_20 a1 (1 : Int32) M1)
-- X7_token
def f_X7_token (a1 : Int32) (M : gM) : Option (Int32 × gM) := (g_b (f_X7_charAt (M.1 23 5) M) (fun r2 M1 => (if r2 = ((-1) : Int32) then (some ((30 : Int32), M1)) else (g_b (f_X7_isLetter r2 M1) (fun r4 M3 => (if r4 then (g_b (f_X7_letters a1 M3) (fun r12 M11 => (some (r12, M11)))) else (g_b (f_X7_isDigit r2 M3) (fun r6 M5 => (if r6 then (g_b (f_X7_digits a1 M5) (fun r10 M9 => (some (r10, M9)))) else (g_b (f_X7_sign r2 M5) (fun r8 M7 => (some (r8, M7)))))))))))))
set_option maxRecDepth 100000 in
set_option maxHeartbeats 4000000 in
theorem ok_X7_token (a1 : Int32) (M : gM) : g_met Y1 yX7_token jX7_token g_ei (fun Z => [.ref (Z.2.1 23), .int a1]) M (f_X7_token a1 M) := by
  refine g_enter (fun Z => [(0, .ref (Z.2.1 23)), (1, .int a1)]) (by decide) rfl (fun Z => Nat.le_of_ble_eq_true rfl) (fun Z => rfl) (fun X => ?_)
  rw [f_X7_token]
  refine G_aload_n 0 dX7_token_0 rfl rfl ?_
  refine G_aload_n 0 dX7_token_1 rfl rfl ?_
  refine G_get 5 clX7 (y1_23) fl_X7_29 dX7_token_2 (by decide) rfl rfl ?_
  refine G_cVi (As := [.int (M.1 23 5)]) (rest := []) (ok_X7_charAt (M.1 23 5) M) rfl (y1_23) rfl mv_X7_39 dX7_token_5 rfl rfl (Nat.le_of_ble_eq_true rfl) (g_fitN (by decide) (by decide)) (fun r2 M1 => ?_)
  refine G_istore_n (lv' := [(2, .int r2), (0, .ref (ad X 23)), (1, .int a1)]) dX7_token_8 rfl (by decide) rfl ?_
  refine G_iload_n 0 dX7_token_9 rfl rfl ?_
  refine G_iconst (v := (-1)) dX7_token_10 (by decide) ?_
  refine G_icmp_ne (tgt := 17) dX7_token_11 (by decide) ?_ ?_
  · refine G_iload_n 0 dX7_token_17 rfl rfl ?_
    refine G_cSb (As := [.int r2]) (rest := []) (ok_X7_isLetter r2 M1) rfl ms_X7_46 dX7_token_18 rfl rfl (Nat.le_of_ble_eq_true rfl) (g_fitN (by decide) (by decide)) (fun r4 M3 => ?_)
    refine G_ifB_eq (tgt := 30) dX7_token_21 (by decide) ?_ ?_
    · refine G_iload_n 0 dX7_token_30 rfl rfl ?_
      refine G_cSb (As := [.int r2]) (rest := []) (ok_X7_isDigit r2 M3) rfl ms_X7_52 dX7_token_31 rfl rfl (Nat.le_of_ble_eq_true rfl) (g_fitN (by decide) (by decide)) (fun r6 M5 => ?_)
      refine G_ifB_eq (tgt := 45) dX7_token_34 (by decide) ?_ ?_
      · refine G_aload_n 1 dX7_token_45 rfl rfl ?_
        refine G_iload_n 0 dX7_token_46 rfl rfl ?_
        refine G_cVi (As := [.int r2]) (rest := []) (ok_X7_sign r2 M5) rfl (y1_23) rfl mv_X7_58 dX7_token_47 rfl rfl (Nat.le_of_ble_eq_true rfl) (g_fitN (by decide) (by decide)) (fun r8 M7 => ?_)
        exact G_iret rfl dX7_token_50
      · refine G_aload_n 1 dX7_token_37 rfl rfl ?_
        refine G_iload_n 2 dX7_token_38 rfl rfl ?_
        refine G_cVi (As := [.int a1]) (rest := []) (ok_X7_digits a1 M5) rfl (y1_23) rfl mv_X7_55 dX7_token_39 rfl rfl (Nat.le_of_ble_eq_true rfl) (g_fitN (by decide) (by decide)) (fun r10 M9 => ?_)
        refine G_goto (tgt := 50) dX7_token_42 (by decide) ?_
        exact G_iret rfl dX7_token_50
    · refine G_aload_n 1 dX7_token_24 rfl rfl ?_
      refine G_iload_n 2 dX7_token_25 rfl rfl ?_
      refine G_cVi (As := [.int a1]) (rest := []) (ok_X7_letters a1 M3) rfl (y1_23) rfl mv_X7_49 dX7_token_26 rfl rfl (Nat.le_of_ble_eq_true rfl) (g_fitN (by decide) (by decide)) (fun r12 M11 => ?_)
      exact G_iret rfl dX7_token_29
  · refine G_bipush (v := 30) dX7_token_14 (by decide) ?_
    exact G_iret rfl dX7_token_16
-- X7_scan
def f_X7_scan_31 : Nat → Int32 → Int32 → gM → Option (Unit × gM)
  | 0, _, _, _ => none
  | n + 1, x3, x4, M => (if (400 : Int32) < x4 then (some ((), M)) else (if x3 = 0 then (some ((), M)) else (g_b (f_X7_skipBlanks M) (fun r5 M4 => (g_ck x4 401 (g_m (sI M4 25 (tn x4) (M4.1 23 5)) (fun M6 => (g_ck x4 401 (g_m (sL M6 26 (tn x4) (0 : Int64)) (fun M7 => (g_b (f_X7_token x4 M7) (fun r9 M8 => (g_ck x4 401 (g_m (sI M8 24 (tn x4) r9) (fun M10 => (g_ck x4 401 (if (M10.1 24 (tn x4)) = (30 : Int32) then (f_X7_scan_31 n (0 : Int32) (x4 + 1) M10) else (g_ck x4 401 (if (M10.1 24 (tn x4)) = (31 : Int32) then (f_X7_scan_31 n (0 : Int32) (x4 + 1) M10) else (f_X7_scan_31 n (1 : Int32) (x4 + 1) M10))))))))))))))))))))
set_option maxRecDepth 100000 in
set_option maxHeartbeats 4000000 in
theorem o_X7_scan_31 {X : gX} : ∀ (n : Nat) (x3 : Int32) (x4 : Int32) (M : gM), G Y1 jX7_scan X (g_fin g_ev) 31 [(0, .ref (ad X 23)), (3, .int x3), (4, .int x4)] [] M (f_X7_scan_31 n x3 x4 M) := by
  intro n
  induction n with
  | zero => intro x3 x4 M; exact G_none
  | succ n ih =>
    intro x3 x4 M
    rw [f_X7_scan_31]
    refine G_iload 2 dX7_scan_31 rfl ?_
    refine G_sipush (v := 400) dX7_scan_33 (by decide) ?_
    refine G_icmp_gt (tgt := 115) dX7_scan_36 (by decide) ?_ ?_
    · exact G_vret rfl dX7_scan_115
    · refine G_iload_n 1 dX7_scan_39 rfl rfl ?_
      refine G_if_eq (tgt := 115) dX7_scan_40 (by decide) ?_ ?_
      · exact G_vret rfl dX7_scan_115
      · refine G_aload_n 0 dX7_scan_43 rfl rfl ?_
        refine G_cVv (As := []) (rest := []) (ok_X7_skipBlanks M) rfl (y1_23) rfl mv_X7_32 dX7_scan_44 rfl rfl (Nat.le_of_ble_eq_true rfl) (g_fitN (by decide) (by decide)) (fun r5 M4 => ?_)
        refine G_aload_n 0 dX7_scan_47 rfl rfl ?_
        refine G_get 1 clX7 (y1_23) fl_X7_15 dX7_scan_48 (by decide) rfl rfl ?_
        refine G_iload 2 dX7_scan_51 rfl ?_
        refine G_aload_n 0 dX7_scan_53 rfl rfl ?_
        refine G_get 5 clX7 (y1_23) fl_X7_29 dX7_scan_54 (by decide) rfl rfl ?_
        refine G_iast (y1_25) dX7_scan_57 ?_
        refine G_m (fun M6 => ?_)
        refine G_aload_n 0 dX7_scan_58 rfl rfl ?_
        refine G_get 2 clX7 (y1_23) fl_X7_18 dX7_scan_59 (by decide) rfl rfl ?_
        refine G_iload 2 dX7_scan_62 rfl ?_
        refine G_lconst (v := 0) dX7_scan_64 (by decide) ?_
        refine G_last (y1_26) dX7_scan_65 ?_
        refine G_m (fun M7 => ?_)
        refine G_aload_n 0 dX7_scan_66 rfl rfl ?_
        refine G_get 0 clX7 (y1_23) fl_X7_9 dX7_scan_67 (by decide) rfl rfl ?_
        refine G_iload 2 dX7_scan_70 rfl ?_
        refine G_aload_n 0 dX7_scan_72 rfl rfl ?_
        refine G_iload 2 dX7_scan_73 rfl ?_
        refine G_cVi (As := [.int x4]) (rest := [.int x4, .ref (ad X 24)]) (ok_X7_token x4 M7) rfl (y1_23) rfl mv_X7_35 dX7_scan_75 rfl rfl (Nat.le_of_ble_eq_true rfl) (g_fitN (by decide) (by decide)) (fun r9 M8 => ?_)
        refine G_iast (y1_24) dX7_scan_78 ?_
        refine G_m (fun M10 => ?_)
        refine G_aload_n 0 dX7_scan_79 rfl rfl ?_
        refine G_get 0 clX7 (y1_23) fl_X7_9 dX7_scan_80 (by decide) rfl rfl ?_
        refine G_iload 2 dX7_scan_83 rfl ?_
        refine G_iald (y1_24) dX7_scan_85 ?_
        refine G_bipush (v := 30) dX7_scan_86 (by decide) ?_
        refine G_icmp_eq (tgt := 107) dX7_scan_88 (by decide) ?_ ?_
        · refine G_iconst (v := 0) dX7_scan_107 (by decide) ?_
          refine G_istore_n (lv' := [(3, .int 0), (0, .ref (ad X 23)), (4, .int x4)]) dX7_scan_108 rfl (by decide) rfl ?_
          refine G_iinc (v := x4 + 1) (lv' := [(4, .int (x4 + 1)), (3, .int 0), (0, .ref (ad X 23))]) 2 dX7_scan_109 rfl rfl (by decide) rfl ?_
          refine G_goto (tgt := 31) dX7_scan_112 (by decide) ?_
          exact G_sub [2, 1, 0] rfl (ih (0 : Int32) (x4 + 1) M10)
        · refine G_aload_n 0 dX7_scan_91 rfl rfl ?_
          refine G_get 0 clX7 (y1_23) fl_X7_9 dX7_scan_92 (by decide) rfl rfl ?_
          refine G_iload 2 dX7_scan_95 rfl ?_
          refine G_iald (y1_24) dX7_scan_97 ?_
          refine G_bipush (v := 31) dX7_scan_98 (by decide) ?_
          refine G_icmp_eq (tgt := 107) dX7_scan_100 (by decide) ?_ ?_
          · refine G_iconst (v := 0) dX7_scan_107 (by decide) ?_
            refine G_istore_n (lv' := [(3, .int 0), (0, .ref (ad X 23)), (4, .int x4)]) dX7_scan_108 rfl (by decide) rfl ?_
            refine G_iinc (v := x4 + 1) (lv' := [(4, .int (x4 + 1)), (3, .int 0), (0, .ref (ad X 23))]) 2 dX7_scan_109 rfl rfl (by decide) rfl ?_
            refine G_goto (tgt := 31) dX7_scan_112 (by decide) ?_
            exact G_sub [2, 1, 0] rfl (ih (0 : Int32) (x4 + 1) M10)
          · refine G_iconst (v := 1) dX7_scan_103 (by decide) ?_
            refine G_goto (tgt := 108) dX7_scan_104 (by decide) ?_
            refine G_istore_n (lv' := [(3, .int 1), (0, .ref (ad X 23)), (4, .int x4)]) dX7_scan_108 rfl (by decide) rfl ?_
            refine G_iinc (v := x4 + 1) (lv' := [(4, .int (x4 + 1)), (3, .int 1), (0, .ref (ad X 23))]) 2 dX7_scan_109 rfl rfl (by decide) rfl ?_
            refine G_goto (tgt := 31) dX7_scan_112 (by decide) ?_
            exact G_sub [2, 1, 0] rfl (ih (1 : Int32) (x4 + 1) M10)
def f_X7_scan (a2 : Int32) (M : gM) : Option (Unit × gM) := (g_m (sR M 23 3 1) (fun M1 => (if (2000 : Int32) ≤ a2 then (g_m (sI M1 23 4 (2000 : Int32)) (fun M2 => (g_m (sI M2 23 5 (0 : Int32)) (fun M3 => (f_X7_scan_31 FU (1 : Int32) (0 : Int32) M3))))) else (g_m (sI M1 23 4 a2) (fun M11 => (g_m (sI M11 23 5 (0 : Int32)) (fun M12 => (f_X7_scan_31 FU (1 : Int32) (0 : Int32) M12))))))))
set_option maxRecDepth 100000 in
set_option maxHeartbeats 4000000 in
theorem ok_X7_scan (a2 : Int32) (M : gM) : g_met Y1 yX7_scan jX7_scan g_ev (fun Z => [.ref (Z.2.1 23), .ref (Z.2.1 1), .int a2]) M (f_X7_scan a2 M) := by
  refine g_enter (fun Z => [(0, .ref (Z.2.1 23)), (1, .ref (Z.2.1 1)), (2, .int a2)]) (by decide) rfl (fun Z => Nat.le_of_ble_eq_true rfl) (fun Z => rfl) (fun X => ?_)
  rw [f_X7_scan]
  refine G_aload_n 0 dX7_scan_0 rfl rfl ?_
  refine G_aload_n 1 dX7_scan_1 rfl rfl ?_
  refine G_putRA 3 clX7 (y1_23) fl_X7_22 dX7_scan_2 (by decide) rfl rfl rfl (by decide) ?_
  refine G_m (fun M1 => ?_)
  refine G_aload_n 0 dX7_scan_5 rfl rfl ?_
  refine G_iload_n 2 dX7_scan_6 rfl rfl ?_
  refine G_aload_n 1 dX7_scan_7 rfl rfl ?_
  refine G_alen (v := 2000) (y1_1) rfl dX7_scan_8 ?_
  refine G_icmp_ge (tgt := 16) dX7_scan_9 (by decide) ?_ ?_
  · refine G_aload_n 1 dX7_scan_16 rfl rfl ?_
    refine G_alen (v := 2000) (y1_1) rfl dX7_scan_17 ?_
    refine G_putI 4 clX7 (y1_23) fl_X7_25 dX7_scan_18 (by decide) rfl rfl rfl ?_
    refine G_m (fun M2 => ?_)
    refine G_aload_n 0 dX7_scan_21 rfl rfl ?_
    refine G_iconst (v := 0) dX7_scan_22 (by decide) ?_
    refine G_putI 5 clX7 (y1_23) fl_X7_29 dX7_scan_23 (by decide) rfl rfl rfl ?_
    refine G_m (fun M3 => ?_)
    refine G_iconst (v := 1) dX7_scan_26 (by decide) ?_
    refine G_istore_n (lv' := [(3, .int 1), (0, .ref (ad X 23)), (1, .ref (ad X 1)), (2, .int a2)]) dX7_scan_27 rfl (by decide) rfl ?_
    refine G_iconst (v := 0) dX7_scan_28 (by decide) ?_
    refine G_istore (lv' := [(4, .int 0), (3, .int 1), (0, .ref (ad X 23)), (1, .ref (ad X 1)), (2, .int a2)]) dX7_scan_29 (by decide) rfl ?_
    exact G_sub [2, 1, 0] rfl (o_X7_scan_31 FU (1 : Int32) (0 : Int32) M3)
  · refine G_iload_n 2 dX7_scan_12 rfl rfl ?_
    refine G_goto (tgt := 18) dX7_scan_13 (by decide) ?_
    refine G_putI 4 clX7 (y1_23) fl_X7_25 dX7_scan_18 (by decide) rfl rfl rfl ?_
    refine G_m (fun M11 => ?_)
    refine G_aload_n 0 dX7_scan_21 rfl rfl ?_
    refine G_iconst (v := 0) dX7_scan_22 (by decide) ?_
    refine G_putI 5 clX7 (y1_23) fl_X7_29 dX7_scan_23 (by decide) rfl rfl rfl ?_
    refine G_m (fun M12 => ?_)
    refine G_iconst (v := 1) dX7_scan_26 (by decide) ?_
    refine G_istore_n (lv' := [(3, .int 1), (0, .ref (ad X 23)), (1, .ref (ad X 1)), (2, .int a2)]) dX7_scan_27 rfl (by decide) rfl ?_
    refine G_iconst (v := 0) dX7_scan_28 (by decide) ?_
    refine G_istore (lv' := [(4, .int 0), (3, .int 1), (0, .ref (ad X 23)), (1, .ref (ad X 1)), (2, .int a2)]) dX7_scan_29 (by decide) rfl ?_
    exact G_sub [2, 1, 0] rfl (o_X7_scan_31 FU (1 : Int32) (0 : Int32) M12)
-- X1_parse
def f_X1_parse_228 (a3 : Nat) (M : gM) : Option (Int32 × gM) := (g_or 3 12 (M.2.2 21 6) (fun t11 => (g_b (f_X4_finish t11 M) (fun r13 M12 => (some ((M12.1 21 1), M12))))))
set_option maxRecDepth 100000 in
set_option maxHeartbeats 4000000 in
theorem o_X1_parse_228 {X : gX} {a3 : Nat} (ha3 : a3 = 3 ∨ a3 = 12) (M : gM) : G Y1 jX1_parse X (g_fin g_ei) 228 [(0, .ref (ad X 21))] [] M (f_X1_parse_228 a3 M) := by
  rw [f_X1_parse_228]
  refine G_aload_n 0 dX1_parse_228 rfl rfl ?_
  refine G_getO 6 clX1 (y1_21) fl_X1_22 dX1_parse_229 (by decide) rfl (by decide) (fun t11 ht11 => ?_)
  refine G_cVv (As := []) (rest := []) (ok_X4_finish ht11 M) rfl (ro_0 ht11) rfl mv_X1_75 dX1_parse_232 rfl rfl (Nat.le_of_ble_eq_true rfl) (g_fitN (by decide) (by decide)) (fun r13 M12 => ?_)
  refine G_aload_n 0 dX1_parse_235 rfl rfl ?_
  refine G_get 1 clX1 (y1_21) fl_X1_39 dX1_parse_236 (by decide) rfl rfl ?_
  exact G_iret rfl dX1_parse_239
def f_X1_parse_198 (a3 : Nat) (M : gM) : Option (Int32 × gM) := (if (M.1 21 1) = 0 then (if (M.1 21 2) = 0 then (f_X1_parse_228 a3 M) else (g_m (sI M 21 1 (M.1 21 2)) (fun M14 => (g_m (sI M14 21 0 (M14.1 21 3)) (fun M15 => (f_X1_parse_228 a3 M15)))))) else (f_X1_parse_228 a3 M))
set_option maxRecDepth 100000 in
set_option maxHeartbeats 4000000 in
theorem o_X1_parse_198 {X : gX} {a3 : Nat} (ha3 : a3 = 3 ∨ a3 = 12) (M : gM) : G Y1 jX1_parse X (g_fin g_ei) 198 [(0, .ref (ad X 21))] [] M (f_X1_parse_198 a3 M) := by
  rw [f_X1_parse_198]
  refine G_aload_n 0 dX1_parse_198 rfl rfl ?_
  refine G_get 1 clX1 (y1_21) fl_X1_39 dX1_parse_199 (by decide) rfl rfl ?_
  refine G_if_ne (tgt := 228) dX1_parse_202 (by decide) ?_ ?_
  · exact G_sub [0] rfl (o_X1_parse_228 ha3 M)
  · refine G_aload_n 0 dX1_parse_205 rfl rfl ?_
    refine G_get 2 clX1 (y1_21) fl_X1_45 dX1_parse_206 (by decide) rfl rfl ?_
    refine G_if_eq (tgt := 228) dX1_parse_209 (by decide) ?_ ?_
    · exact G_sub [0] rfl (o_X1_parse_228 ha3 M)
    · refine G_aload_n 0 dX1_parse_212 rfl rfl ?_
      refine G_aload_n 0 dX1_parse_213 rfl rfl ?_
      refine G_get 2 clX1 (y1_21) fl_X1_45 dX1_parse_214 (by decide) rfl rfl ?_
      refine G_putI 1 clX1 (y1_21) fl_X1_39 dX1_parse_217 (by decide) rfl rfl rfl ?_
      refine G_m (fun M14 => ?_)
      refine G_aload_n 0 dX1_parse_220 rfl rfl ?_
      refine G_aload_n 0 dX1_parse_221 rfl rfl ?_
      refine G_get 3 clX1 (y1_21) fl_X1_48 dX1_parse_222 (by decide) rfl rfl ?_
      refine G_putI 0 clX1 (y1_21) fl_X1_42 dX1_parse_225 (by decide) rfl rfl rfl ?_
      refine G_m (fun M15 => ?_)
      exact G_sub [0] rfl (o_X1_parse_228 ha3 M15)
def f_X1_parse_49 (a3 : Nat) : Nat → Int32 → Int32 → gM → Option (Int32 × gM)
  | 0, _, _, _ => none
  | n + 1, x4, x5, M => (if (400 : Int32) < x5 then (f_X1_parse_198 a3 M) else (if x4 = 0 then (f_X1_parse_198 a3 M) else (g_b (f_X1_kind M) (fun r17 M16 => (if r17 = (30 : Int32) then (f_X1_parse_198 a3 M16) else (g_b (f_X1_kind M16) (fun r19 M18 => (if r19 = 1 then (g_b (f_X1_kind M18) (fun r21 M20 => (g_b (f_X1_tellLaw r21 M20) (fun r23 M22 => (g_v (b2i r23) (fun y24 => (f_X1_parse_49 a3 n y24 (x5 + 1) M22))))))) else (if r19 = 2 then (g_b (f_X1_kind M18) (fun r27 M26 => (g_b (f_X1_tellLaw r27 M26) (fun r29 M28 => (g_v (b2i r29) (fun y30 => (f_X1_parse_49 a3 n y30 (x5 + 1) M28))))))) else (if r19 = 6 then (g_b (f_X1_kind M18) (fun r33 M32 => (g_b (f_X1_tellSize r33 M32) (fun r35 M34 => (g_v (b2i r35) (fun y36 => (f_X1_parse_49 a3 n y36 (x5 + 1) M34))))))) else (if r19 = 7 then (g_b (f_X1_kind M18) (fun r39 M38 => (g_b (f_X1_tellSize r39 M38) (fun r41 M40 => (g_v (b2i r41) (fun y42 => (f_X1_parse_49 a3 n y42 (x5 + 1) M40))))))) else (if r19 = 8 then (g_b (f_X1_kind M18) (fun r45 M44 => (g_b (f_X1_tellSize r45 M44) (fun r47 M46 => (g_v (b2i r47) (fun y48 => (f_X1_parse_49 a3 n y48 (x5 + 1) M46))))))) else (if r19 = 9 then (g_b (f_X1_tellAct M18) (fun r51 M50 => (g_v (b2i r51) (fun y52 => (f_X1_parse_49 a3 n y52 (x5 + 1) M50))))) else (if r19 = 10 then (g_b (f_X1_tellGusts M18) (fun r55 M54 => (g_v (b2i r55) (fun y56 => (f_X1_parse_49 a3 n y56 (x5 + 1) M54))))) else (if r19 = 11 then (g_b (f_X1_tellReflex M18) (fun r59 M58 => (g_v (b2i r59) (fun y60 => (f_X1_parse_49 a3 n y60 (x5 + 1) M58))))) else (g_b (f_X1_fail (1 : Int32) M18) (fun r63 M62 => (g_v (b2i r63) (fun y64 => (f_X1_parse_49 a3 n y64 (x5 + 1) M62))))))))))))))))))))
set_option maxRecDepth 100000 in
set_option maxHeartbeats 4000000 in
theorem o_X1_parse_49 {X : gX} {a3 : Nat} (ha3 : a3 = 3 ∨ a3 = 12) : ∀ (n : Nat) (x4 : Int32) (x5 : Int32) (M : gM), G Y1 jX1_parse X (g_fin g_ei) 49 [(0, .ref (ad X 21)), (4, .int x4), (5, .int x5)] [] M (f_X1_parse_49 a3 n x4 x5 M) := by
  intro n
  induction n with
  | zero => intro x4 x5 M; exact G_none
  | succ n ih =>
    intro x4 x5 M
    rw [f_X1_parse_49]
    refine G_iload 2 dX1_parse_49 rfl ?_
    refine G_sipush (v := 400) dX1_parse_51 (by decide) ?_
    refine G_icmp_gt (tgt := 198) dX1_parse_54 (by decide) ?_ ?_
    · exact G_sub [0] rfl (o_X1_parse_198 ha3 M)
    · refine G_iload 1 dX1_parse_57 rfl ?_
      refine G_if_eq (tgt := 198) dX1_parse_59 (by decide) ?_ ?_
      · exact G_sub [0] rfl (o_X1_parse_198 ha3 M)
      · refine G_aload_n 0 dX1_parse_62 rfl rfl ?_
        refine G_cVi (As := []) (rest := []) (ok_X1_kind M) rfl (y1_21) rfl mv_X1_51 dX1_parse_63 rfl rfl (Nat.le_of_ble_eq_true rfl) (g_fitN (by decide) (by decide)) (fun r17 M16 => ?_)
        refine G_bipush (v := 30) dX1_parse_66 (by decide) ?_
        refine G_icmp_eq (tgt := 198) dX1_parse_68 (by decide) ?_ ?_
        · exact G_sub [0] rfl (o_X1_parse_198 ha3 M16)
        · refine G_aload_n 0 dX1_parse_71 rfl rfl ?_
          refine G_cVi (As := []) (rest := []) (ok_X1_kind M16) rfl (y1_21) rfl mv_X1_51 dX1_parse_72 rfl rfl (Nat.le_of_ble_eq_true rfl) (g_fitN (by decide) (by decide)) (fun r19 M18 => ?_)
          refine G_ite (fun h25 => ?_) (fun h25 => ?_)
          · refine G_tabIn (tgt := 145) (off := 70) dX1_parse_75 (by rw [h25]; decide) (by rw [h25]; decide) (by rw [h25]; decide) (by decide) ?_
            refine G_aload_n 0 dX1_parse_145 rfl rfl ?_
            refine G_aload_n 0 dX1_parse_146 rfl rfl ?_
            refine G_cVi (As := []) (rest := [.ref (ad X 21)]) (ok_X1_kind M18) rfl (y1_21) rfl mv_X1_51 dX1_parse_147 rfl rfl (Nat.le_of_ble_eq_true rfl) (g_fitN (by decide) (by decide)) (fun r21 M20 => ?_)
            refine G_cVb (As := [.int r21]) (rest := []) (ok_X1_tellLaw r21 M20) rfl (y1_21) rfl mv_X1_59 dX1_parse_150 rfl rfl (Nat.le_of_ble_eq_true rfl) (g_fitN (by decide) (by decide)) (fun r23 M22 => ?_)
            refine G_vi (fun y24 => ?_)
            refine G_istore (lv' := [(4, .int y24), (0, .ref (ad X 21)), (5, .int x5)]) dX1_parse_153 (by decide) rfl ?_
            refine G_goto (tgt := 192) dX1_parse_155 (by decide) ?_
            refine G_iinc (v := x5 + 1) (lv' := [(5, .int (x5 + 1)), (4, .int y24), (0, .ref (ad X 21))]) 2 dX1_parse_192 rfl rfl (by decide) rfl ?_
            refine G_goto (tgt := 49) dX1_parse_195 (by decide) ?_
            exact G_sub [2, 1, 0] rfl (ih y24 (x5 + 1) M22)
          refine G_ite (fun h31 => ?_) (fun h31 => ?_)
          · refine G_tabIn (tgt := 145) (off := 70) dX1_parse_75 (by rw [h31]; decide) (by rw [h31]; decide) (by rw [h31]; decide) (by decide) ?_
            refine G_aload_n 0 dX1_parse_145 rfl rfl ?_
            refine G_aload_n 0 dX1_parse_146 rfl rfl ?_
            refine G_cVi (As := []) (rest := [.ref (ad X 21)]) (ok_X1_kind M18) rfl (y1_21) rfl mv_X1_51 dX1_parse_147 rfl rfl (Nat.le_of_ble_eq_true rfl) (g_fitN (by decide) (by decide)) (fun r27 M26 => ?_)
            refine G_cVb (As := [.int r27]) (rest := []) (ok_X1_tellLaw r27 M26) rfl (y1_21) rfl mv_X1_59 dX1_parse_150 rfl rfl (Nat.le_of_ble_eq_true rfl) (g_fitN (by decide) (by decide)) (fun r29 M28 => ?_)
            refine G_vi (fun y30 => ?_)
            refine G_istore (lv' := [(4, .int y30), (0, .ref (ad X 21)), (5, .int x5)]) dX1_parse_153 (by decide) rfl ?_
            refine G_goto (tgt := 192) dX1_parse_155 (by decide) ?_
            refine G_iinc (v := x5 + 1) (lv' := [(5, .int (x5 + 1)), (4, .int y30), (0, .ref (ad X 21))]) 2 dX1_parse_192 rfl rfl (by decide) rfl ?_
            refine G_goto (tgt := 49) dX1_parse_195 (by decide) ?_
            exact G_sub [2, 1, 0] rfl (ih y30 (x5 + 1) M28)
          refine G_ite (fun h37 => ?_) (fun h37 => ?_)
          · refine G_tabIn (tgt := 132) (off := 57) dX1_parse_75 (by rw [h37]; decide) (by rw [h37]; decide) (by rw [h37]; decide) (by decide) ?_
            refine G_aload_n 0 dX1_parse_132 rfl rfl ?_
            refine G_aload_n 0 dX1_parse_133 rfl rfl ?_
            refine G_cVi (As := []) (rest := [.ref (ad X 21)]) (ok_X1_kind M18) rfl (y1_21) rfl mv_X1_51 dX1_parse_134 rfl rfl (Nat.le_of_ble_eq_true rfl) (g_fitN (by decide) (by decide)) (fun r33 M32 => ?_)
            refine G_cVb (As := [.int r33]) (rest := []) (ok_X1_tellSize r33 M32) rfl (y1_21) rfl mv_X1_55 dX1_parse_137 rfl rfl (Nat.le_of_ble_eq_true rfl) (g_fitN (by decide) (by decide)) (fun r35 M34 => ?_)
            refine G_vi (fun y36 => ?_)
            refine G_istore (lv' := [(4, .int y36), (0, .ref (ad X 21)), (5, .int x5)]) dX1_parse_140 (by decide) rfl ?_
            refine G_goto (tgt := 192) dX1_parse_142 (by decide) ?_
            refine G_iinc (v := x5 + 1) (lv' := [(5, .int (x5 + 1)), (4, .int y36), (0, .ref (ad X 21))]) 2 dX1_parse_192 rfl rfl (by decide) rfl ?_
            refine G_goto (tgt := 49) dX1_parse_195 (by decide) ?_
            exact G_sub [2, 1, 0] rfl (ih y36 (x5 + 1) M34)
          refine G_ite (fun h43 => ?_) (fun h43 => ?_)
          · refine G_tabIn (tgt := 132) (off := 57) dX1_parse_75 (by rw [h43]; decide) (by rw [h43]; decide) (by rw [h43]; decide) (by decide) ?_
            refine G_aload_n 0 dX1_parse_132 rfl rfl ?_
            refine G_aload_n 0 dX1_parse_133 rfl rfl ?_
            refine G_cVi (As := []) (rest := [.ref (ad X 21)]) (ok_X1_kind M18) rfl (y1_21) rfl mv_X1_51 dX1_parse_134 rfl rfl (Nat.le_of_ble_eq_true rfl) (g_fitN (by decide) (by decide)) (fun r39 M38 => ?_)
            refine G_cVb (As := [.int r39]) (rest := []) (ok_X1_tellSize r39 M38) rfl (y1_21) rfl mv_X1_55 dX1_parse_137 rfl rfl (Nat.le_of_ble_eq_true rfl) (g_fitN (by decide) (by decide)) (fun r41 M40 => ?_)
            refine G_vi (fun y42 => ?_)
            refine G_istore (lv' := [(4, .int y42), (0, .ref (ad X 21)), (5, .int x5)]) dX1_parse_140 (by decide) rfl ?_
            refine G_goto (tgt := 192) dX1_parse_142 (by decide) ?_
            refine G_iinc (v := x5 + 1) (lv' := [(5, .int (x5 + 1)), (4, .int y42), (0, .ref (ad X 21))]) 2 dX1_parse_192 rfl rfl (by decide) rfl ?_
            refine G_goto (tgt := 49) dX1_parse_195 (by decide) ?_
            exact G_sub [2, 1, 0] rfl (ih y42 (x5 + 1) M40)
          refine G_ite (fun h49 => ?_) (fun h49 => ?_)
          · refine G_tabIn (tgt := 132) (off := 57) dX1_parse_75 (by rw [h49]; decide) (by rw [h49]; decide) (by rw [h49]; decide) (by decide) ?_
            refine G_aload_n 0 dX1_parse_132 rfl rfl ?_
            refine G_aload_n 0 dX1_parse_133 rfl rfl ?_
            refine G_cVi (As := []) (rest := [.ref (ad X 21)]) (ok_X1_kind M18) rfl (y1_21) rfl mv_X1_51 dX1_parse_134 rfl rfl (Nat.le_of_ble_eq_true rfl) (g_fitN (by decide) (by decide)) (fun r45 M44 => ?_)
            refine G_cVb (As := [.int r45]) (rest := []) (ok_X1_tellSize r45 M44) rfl (y1_21) rfl mv_X1_55 dX1_parse_137 rfl rfl (Nat.le_of_ble_eq_true rfl) (g_fitN (by decide) (by decide)) (fun r47 M46 => ?_)
            refine G_vi (fun y48 => ?_)
            refine G_istore (lv' := [(4, .int y48), (0, .ref (ad X 21)), (5, .int x5)]) dX1_parse_140 (by decide) rfl ?_
            refine G_goto (tgt := 192) dX1_parse_142 (by decide) ?_
            refine G_iinc (v := x5 + 1) (lv' := [(5, .int (x5 + 1)), (4, .int y48), (0, .ref (ad X 21))]) 2 dX1_parse_192 rfl rfl (by decide) rfl ?_
            refine G_goto (tgt := 49) dX1_parse_195 (by decide) ?_
            exact G_sub [2, 1, 0] rfl (ih y48 (x5 + 1) M46)
          refine G_ite (fun h53 => ?_) (fun h53 => ?_)
          · refine G_tabIn (tgt := 158) (off := 83) dX1_parse_75 (by rw [h53]; decide) (by rw [h53]; decide) (by rw [h53]; decide) (by decide) ?_
            refine G_aload_n 0 dX1_parse_158 rfl rfl ?_
            refine G_cVb (As := []) (rest := []) (ok_X1_tellAct M18) rfl (y1_21) rfl mv_X1_62 dX1_parse_159 rfl rfl (Nat.le_of_ble_eq_true rfl) (g_fitN (by decide) (by decide)) (fun r51 M50 => ?_)
            refine G_vi (fun y52 => ?_)
            refine G_istore (lv' := [(4, .int y52), (0, .ref (ad X 21)), (5, .int x5)]) dX1_parse_162 (by decide) rfl ?_
            refine G_goto (tgt := 192) dX1_parse_164 (by decide) ?_
            refine G_iinc (v := x5 + 1) (lv' := [(5, .int (x5 + 1)), (4, .int y52), (0, .ref (ad X 21))]) 2 dX1_parse_192 rfl rfl (by decide) rfl ?_
            refine G_goto (tgt := 49) dX1_parse_195 (by decide) ?_
            exact G_sub [2, 1, 0] rfl (ih y52 (x5 + 1) M50)
          refine G_ite (fun h57 => ?_) (fun h57 => ?_)
          · refine G_tabIn (tgt := 167) (off := 92) dX1_parse_75 (by rw [h57]; decide) (by rw [h57]; decide) (by rw [h57]; decide) (by decide) ?_
            refine G_aload_n 0 dX1_parse_167 rfl rfl ?_
            refine G_cVb (As := []) (rest := []) (ok_X1_tellGusts M18) rfl (y1_21) rfl mv_X1_66 dX1_parse_168 rfl rfl (Nat.le_of_ble_eq_true rfl) (g_fitN (by decide) (by decide)) (fun r55 M54 => ?_)
            refine G_vi (fun y56 => ?_)
            refine G_istore (lv' := [(4, .int y56), (0, .ref (ad X 21)), (5, .int x5)]) dX1_parse_171 (by decide) rfl ?_
            refine G_goto (tgt := 192) dX1_parse_173 (by decide) ?_
            refine G_iinc (v := x5 + 1) (lv' := [(5, .int (x5 + 1)), (4, .int y56), (0, .ref (ad X 21))]) 2 dX1_parse_192 rfl rfl (by decide) rfl ?_
            refine G_goto (tgt := 49) dX1_parse_195 (by decide) ?_
            exact G_sub [2, 1, 0] rfl (ih y56 (x5 + 1) M54)
          refine G_ite (fun h61 => ?_) (fun h61 => ?_)
          · refine G_tabIn (tgt := 176) (off := 101) dX1_parse_75 (by rw [h61]; decide) (by rw [h61]; decide) (by rw [h61]; decide) (by decide) ?_
            refine G_aload_n 0 dX1_parse_176 rfl rfl ?_
            refine G_cVb (As := []) (rest := []) (ok_X1_tellReflex M18) rfl (y1_21) rfl mv_X1_69 dX1_parse_177 rfl rfl (Nat.le_of_ble_eq_true rfl) (g_fitN (by decide) (by decide)) (fun r59 M58 => ?_)
            refine G_vi (fun y60 => ?_)
            refine G_istore (lv' := [(4, .int y60), (0, .ref (ad X 21)), (5, .int x5)]) dX1_parse_180 (by decide) rfl ?_
            refine G_goto (tgt := 192) dX1_parse_182 (by decide) ?_
            refine G_iinc (v := x5 + 1) (lv' := [(5, .int (x5 + 1)), (4, .int y60), (0, .ref (ad X 21))]) 2 dX1_parse_192 rfl rfl (by decide) rfl ?_
            refine G_goto (tgt := 49) dX1_parse_195 (by decide) ?_
            exact G_sub [2, 1, 0] rfl (ih y60 (x5 + 1) M58)
          have hdf : G Y1 jX1_parse X (g_fin g_ei) 185 [(0, .ref (ad X 21)), (4, .int x4), (5, .int x5)] [] M18 (g_b (f_X1_fail (1 : Int32) M18) (fun r63 M62 => (g_v (b2i r63) (fun y64 => (f_X1_parse_49 a3 n y64 (x5 + 1) M62))))) := by
            refine G_aload_n 0 dX1_parse_185 rfl rfl ?_
            refine G_iconst (v := 1) dX1_parse_186 (by decide) ?_
            refine G_cVb (As := [.int 1]) (rest := []) (ok_X1_fail (1 : Int32) M18) rfl (y1_21) rfl mv_X1_72 dX1_parse_187 rfl rfl (Nat.le_of_ble_eq_true rfl) (g_fitN (by decide) (by decide)) (fun r63 M62 => ?_)
            refine G_vi (fun y64 => ?_)
            refine G_istore (lv' := [(4, .int y64), (0, .ref (ad X 21)), (5, .int x5)]) dX1_parse_190 (by decide) rfl ?_
            refine G_iinc (v := x5 + 1) (lv' := [(5, .int (x5 + 1)), (4, .int y64), (0, .ref (ad X 21))]) 2 dX1_parse_192 rfl rfl (by decide) rfl ?_
            refine G_goto (tgt := 49) dX1_parse_195 (by decide) ?_
            exact G_sub [2, 1, 0] rfl (ih y64 (x5 + 1) M62)
          by_cases h65 : r19.toInt < 1 ∨ 11 < r19.toInt
          · exact G_tabOut (tgt := 185) dX1_parse_75 h65 (by decide) hdf
          · have hin : r19.toInt = 3 ∨ r19.toInt = 4 ∨ r19.toInt = 5 := by have := g_nk (k := 1) h25 (by decide); have := g_nk (k := 2) h31 (by decide); have := g_nk (k := 6) h37 (by decide); have := g_nk (k := 7) h43 (by decide); have := g_nk (k := 8) h49 (by decide); have := g_nk (k := 9) h53 (by decide); have := g_nk (k := 10) h57 (by decide); have := g_nk (k := 11) h61 (by decide); omega
            rcases hin with e | e | e
            all_goals exact G_tabIn (tgt := 185) (off := 110) dX1_parse_75 (by rw [e]; decide) (by rw [e]; decide) (by rw [e]; decide) (by decide) hdf
def f_X1_parse (a2 : Int32) (a3 : Nat) (M : gM) : Option (Int32 × gM) := (g_b (f_X7_scan a2 M) (fun r2 M1 => (g_b (f_X4_untell a3 M1) (fun r4 M3 => (g_m (sR M3 21 6 a3) (fun M5 => (g_m (sI M5 21 4 (0 : Int32)) (fun M6 => (g_m (sI M6 21 1 (0 : Int32)) (fun M7 => (g_m (sI M7 21 0 ((-1) : Int32)) (fun M8 => (g_m (sI M8 21 2 (0 : Int32)) (fun M9 => (g_m (sI M9 21 3 ((-1) : Int32)) (fun M10 => (f_X1_parse_49 a3 FU (1 : Int32) (0 : Int32) M10)))))))))))))))))
set_option maxRecDepth 100000 in
set_option maxHeartbeats 4000000 in
theorem ok_X1_parse {a3 : Nat} (ha3 : a3 = 3 ∨ a3 = 12) (a2 : Int32) (M : gM) : g_met Y1 yX1_parse jX1_parse g_ei (fun Z => [.ref (Z.2.1 21), .ref (Z.2.1 1), .int a2, .ref (Z.2.1 a3)]) M (f_X1_parse a2 a3 M) := by
  refine g_enter (fun Z => [(0, .ref (Z.2.1 21)), (1, .ref (Z.2.1 1)), (2, .int a2), (3, .ref (Z.2.1 a3))]) (by decide) rfl (fun Z => Nat.le_of_ble_eq_true rfl) (fun Z => rfl) (fun X => ?_)
  rw [f_X1_parse]
  refine G_aload_n 0 dX1_parse_0 rfl rfl ?_
  refine G_get 9 clX1 (y1_21) fl_X1_18 dX1_parse_1 (by decide) rfl rfl ?_
  refine G_aload_n 1 dX1_parse_4 rfl rfl ?_
  refine G_iload_n 2 dX1_parse_5 rfl rfl ?_
  refine G_cVv (As := [.ref (ad X 1), .int a2]) (rest := []) (ok_X7_scan a2 M) rfl (y1_23) rfl mv_X1_26 dX1_parse_6 rfl rfl (Nat.le_of_ble_eq_true rfl) (g_fitN (by decide) (by decide)) (fun r2 M1 => ?_)
  refine G_aload_n 3 dX1_parse_9 rfl rfl ?_
  refine G_cVv (As := []) (rest := []) (ok_X4_untell ha3 M1) rfl (ro_0 ha3) rfl mv_X1_30 dX1_parse_10 rfl rfl (Nat.le_of_ble_eq_true rfl) (g_fitN (by decide) (by decide)) (fun r4 M3 => ?_)
  refine G_aload_n 0 dX1_parse_13 rfl rfl ?_
  refine G_aload_n 3 dX1_parse_14 rfl rfl ?_
  refine G_putR 6 clX1 (y1_21) fl_X1_22 dX1_parse_15 (by decide) rfl rfl rfl (by rcases ha3 with h | h <;> rw [h] <;> decide) ?_
  refine G_m (fun M5 => ?_)
  refine G_aload_n 0 dX1_parse_18 rfl rfl ?_
  refine G_iconst (v := 0) dX1_parse_19 (by decide) ?_
  refine G_putI 4 clX1 (y1_21) fl_X1_35 dX1_parse_20 (by decide) rfl rfl rfl ?_
  refine G_m (fun M6 => ?_)
  refine G_aload_n 0 dX1_parse_23 rfl rfl ?_
  refine G_iconst (v := 0) dX1_parse_24 (by decide) ?_
  refine G_putI 1 clX1 (y1_21) fl_X1_39 dX1_parse_25 (by decide) rfl rfl rfl ?_
  refine G_m (fun M7 => ?_)
  refine G_aload_n 0 dX1_parse_28 rfl rfl ?_
  refine G_iconst (v := (-1)) dX1_parse_29 (by decide) ?_
  refine G_putI 0 clX1 (y1_21) fl_X1_42 dX1_parse_30 (by decide) rfl rfl rfl ?_
  refine G_m (fun M8 => ?_)
  refine G_aload_n 0 dX1_parse_33 rfl rfl ?_
  refine G_iconst (v := 0) dX1_parse_34 (by decide) ?_
  refine G_putI 2 clX1 (y1_21) fl_X1_45 dX1_parse_35 (by decide) rfl rfl rfl ?_
  refine G_m (fun M9 => ?_)
  refine G_aload_n 0 dX1_parse_38 rfl rfl ?_
  refine G_iconst (v := (-1)) dX1_parse_39 (by decide) ?_
  refine G_putI 3 clX1 (y1_21) fl_X1_48 dX1_parse_40 (by decide) rfl rfl rfl ?_
  refine G_m (fun M10 => ?_)
  refine G_iconst (v := 1) dX1_parse_43 (by decide) ?_
  refine G_istore (lv' := [(4, .int 1), (0, .ref (ad X 21)), (1, .ref (ad X 1)), (2, .int a2), (3, .ref (ad X a3))]) dX1_parse_44 (by decide) rfl ?_
  refine G_iconst (v := 0) dX1_parse_46 (by decide) ?_
  refine G_istore (lv' := [(5, .int 0), (4, .int 1), (0, .ref (ad X 21)), (1, .ref (ad X 1)), (2, .int a2), (3, .ref (ad X a3))]) dX1_parse_47 (by decide) rfl ?_
  exact G_sub [2, 1, 0] rfl (o_X1_parse_49 ha3 FU (1 : Int32) (0 : Int32) M10)
-- X3_dropLearned
def f_X3_dropLearned_7 : Nat → Int32 → Int32 → gM → Option (Int32 × gM)
  | 0, _, _, _ => none
  | n + 1, x1, x2, M => (if (M.1 47 2) ≤ x2 then (g_m (sI M 47 2 (0 : Int32)) (fun M2 => (g_m (sI M2 47 4 ((-1) : Int32)) (fun M3 => (some (x1, M3)))))) else (if (40 : Int32) ≤ x2 then (g_m (sI M 47 2 (0 : Int32)) (fun M4 => (g_m (sI M4 47 4 ((-1) : Int32)) (fun M5 => (some (x1, M5)))))) else (g_ck x2 40 (g_ck (M.1 48 (tn x2)) 2079 (g_m (sI M 49 (tn (M.1 48 (tn x2))) (0 : Int32)) (fun M6 => (f_X3_dropLearned_7 n x1 (x2 + 1) M6)))))))
set_option maxRecDepth 100000 in
set_option maxHeartbeats 4000000 in
theorem o_X3_dropLearned_7 {X : gX} : ∀ (n : Nat) (x1 : Int32) (x2 : Int32) (M : gM), G Y1 jX3_dropLearned X (g_fin g_ei) 7 [(0, .ref (ad X 47)), (1, .int x1), (2, .int x2)] [] M (f_X3_dropLearned_7 n x1 x2 M) := by
  intro n
  induction n with
  | zero => intro x1 x2 M; exact G_none
  | succ n ih =>
    intro x1 x2 M
    rw [f_X3_dropLearned_7]
    refine G_iload_n 2 dX3_dropLearned_7 rfl rfl ?_
    refine G_aload_n 0 dX3_dropLearned_8 rfl rfl ?_
    refine G_get 2 clX3 (y1_47) fl_X3_51 dX3_dropLearned_9 (by decide) rfl rfl ?_
    refine G_icmp_ge (tgt := 39) dX3_dropLearned_12 (by decide) ?_ ?_
    · refine G_aload_n 0 dX3_dropLearned_39 rfl rfl ?_
      refine G_iconst (v := 0) dX3_dropLearned_40 (by decide) ?_
      refine G_putI 2 clX3 (y1_47) fl_X3_51 dX3_dropLearned_41 (by decide) rfl rfl rfl ?_
      refine G_m (fun M2 => ?_)
      refine G_aload_n 0 dX3_dropLearned_44 rfl rfl ?_
      refine G_iconst (v := (-1)) dX3_dropLearned_45 (by decide) ?_
      refine G_putI 4 clX3 (y1_47) fl_X3_44 dX3_dropLearned_46 (by decide) rfl rfl rfl ?_
      refine G_m (fun M3 => ?_)
      refine G_iload_n 1 dX3_dropLearned_49 rfl rfl ?_
      exact G_iret rfl dX3_dropLearned_50
    · refine G_iload_n 2 dX3_dropLearned_15 rfl rfl ?_
      refine G_bipush (v := 40) dX3_dropLearned_16 (by decide) ?_
      refine G_icmp_ge (tgt := 39) dX3_dropLearned_18 (by decide) ?_ ?_
      · refine G_aload_n 0 dX3_dropLearned_39 rfl rfl ?_
        refine G_iconst (v := 0) dX3_dropLearned_40 (by decide) ?_
        refine G_putI 2 clX3 (y1_47) fl_X3_51 dX3_dropLearned_41 (by decide) rfl rfl rfl ?_
        refine G_m (fun M4 => ?_)
        refine G_aload_n 0 dX3_dropLearned_44 rfl rfl ?_
        refine G_iconst (v := (-1)) dX3_dropLearned_45 (by decide) ?_
        refine G_putI 4 clX3 (y1_47) fl_X3_44 dX3_dropLearned_46 (by decide) rfl rfl rfl ?_
        refine G_m (fun M5 => ?_)
        refine G_iload_n 1 dX3_dropLearned_49 rfl rfl ?_
        exact G_iret rfl dX3_dropLearned_50
      · refine G_aload_n 0 dX3_dropLearned_21 rfl rfl ?_
        refine G_get 3 clX3 (y1_47) fl_X3_15 dX3_dropLearned_22 (by decide) rfl rfl ?_
        refine G_aload_n 0 dX3_dropLearned_25 rfl rfl ?_
        refine G_get 1 clX3 (y1_47) fl_X3_11 dX3_dropLearned_26 (by decide) rfl rfl ?_
        refine G_iload_n 2 dX3_dropLearned_29 rfl rfl ?_
        refine G_iald (y1_48) dX3_dropLearned_30 ?_
        refine G_iconst (v := 0) dX3_dropLearned_31 (by decide) ?_
        refine G_iast (y1_49) dX3_dropLearned_32 ?_
        refine G_m (fun M6 => ?_)
        refine G_iinc (v := x2 + 1) (lv' := [(2, .int (x2 + 1)), (0, .ref (ad X 47)), (1, .int x1)]) 2 dX3_dropLearned_33 rfl rfl (by decide) rfl ?_
        refine G_goto (tgt := 7) dX3_dropLearned_36 (by decide) ?_
        exact G_sub [1, 2, 0] rfl (ih x1 (x2 + 1) M6)
def f_X3_dropLearned (M : gM) : Option (Int32 × gM) := (g_v (M.1 47 2) (fun y1 => (f_X3_dropLearned_7 FU y1 (0 : Int32) M)))
set_option maxRecDepth 100000 in
set_option maxHeartbeats 4000000 in
theorem ok_X3_dropLearned (M : gM) : g_met Y1 yX3_dropLearned jX3_dropLearned g_ei (fun Z => [.ref (Z.2.1 47)]) M (f_X3_dropLearned M) := by
  refine g_enter (fun Z => [(0, .ref (Z.2.1 47))]) (by decide) rfl (fun Z => Nat.le_of_ble_eq_true rfl) (fun Z => rfl) (fun X => ?_)
  rw [f_X3_dropLearned]
  refine G_aload_n 0 dX3_dropLearned_0 rfl rfl ?_
  refine G_get 2 clX3 (y1_47) fl_X3_51 dX3_dropLearned_1 (by decide) rfl rfl ?_
  refine G_vi (fun y1 => ?_)
  refine G_istore_n (lv' := [(1, .int y1), (0, .ref (ad X 47))]) dX3_dropLearned_4 rfl (by decide) rfl ?_
  refine G_iconst (v := 0) dX3_dropLearned_5 (by decide) ?_
  refine G_istore_n (lv' := [(2, .int 0), (1, .int y1), (0, .ref (ad X 47))]) dX3_dropLearned_6 rfl (by decide) rfl ?_
  exact G_sub [2, 1, 0] rfl (o_X3_dropLearned_7 FU y1 (0 : Int32) M)
-- X3_actIn
def f_X3_actIn_25 (x1 : Int32) (s0 : Int32) (M : gM) : Option (Int32 × gM) := (if s0 = 0 then (g_b (f_X0_draw x1 M) (fun r2 M1 => (some (r2, M1)))) else (g_ck x1 2079 (some (((M.1 49 (tn x1)) - (1 : Int32)), M))))
set_option maxRecDepth 100000 in
set_option maxHeartbeats 4000000 in
theorem o_X3_actIn_25 {X : gX} (x1 : Int32) (s0 : Int32) (M : gM) : G Y1 jX3_actIn X (g_fin g_ei) 25 [(0, .ref (ad X 47)), (1, .int x1)] [.int s0] M (f_X3_actIn_25 x1 s0 M) := by
  rw [f_X3_actIn_25]
  refine G_istore_n (lv' := [(2, .int s0), (0, .ref (ad X 47)), (1, .int x1)]) dX3_actIn_25 rfl (by decide) rfl ?_
  refine G_iload_n 0 dX3_actIn_26 rfl rfl ?_
  refine G_if_eq (tgt := 41) dX3_actIn_27 (by decide) ?_ ?_
  · refine G_aload_n 1 dX3_actIn_41 rfl rfl ?_
    refine G_get 0 clX3 (y1_47) fl_X3_40 dX3_actIn_42 (by decide) rfl rfl ?_
    refine G_iload_n 2 dX3_actIn_45 rfl rfl ?_
    refine G_cVi (As := [.int x1]) (rest := []) (ok_X0_draw x1 M) rfl (y1_27) rfl mv_X3_54 dX3_actIn_46 rfl rfl (Nat.le_of_ble_eq_true rfl) (g_fitN (by decide) (by decide)) (fun r2 M1 => ?_)
    exact G_iret rfl dX3_actIn_49
  · refine G_aload_n 1 dX3_actIn_30 rfl rfl ?_
    refine G_get 3 clX3 (y1_47) fl_X3_15 dX3_actIn_31 (by decide) rfl rfl ?_
    refine G_iload_n 2 dX3_actIn_34 rfl rfl ?_
    refine G_iald (y1_49) dX3_actIn_35 ?_
    refine G_iconst (v := 1) dX3_actIn_36 (by decide) ?_
    refine G_isub dX3_actIn_37 ?_
    refine G_goto (tgt := 49) dX3_actIn_38 (by decide) ?_
    exact G_iret rfl dX3_actIn_49
def f_X3_actIn_24 (k25 : Int32 → Int32 → gM → Option (Int32 × gM)) (x1 : Int32) (M : gM) : Option (Int32 × gM) := (k25 x1 (0 : Int32) M)
set_option maxRecDepth 100000 in
set_option maxHeartbeats 4000000 in
theorem o_X3_actIn_24 {X : gX} {k25 : Int32 → Int32 → gM → Option (Int32 × gM)} (hk25 : ∀ (x1 : Int32) (s0 : Int32) (M : gM), G Y1 jX3_actIn X (g_fin g_ei) 25 [(0, .ref (ad X 47)), (1, .int x1)] [.int s0] M (k25 x1 s0 M)) (x1 : Int32) (M : gM) : G Y1 jX3_actIn X (g_fin g_ei) 24 [(0, .ref (ad X 47)), (1, .int x1)] [] M (f_X3_actIn_24 k25 x1 M) := by
  rw [f_X3_actIn_24]
  refine G_iconst (v := 0) dX3_actIn_24 (by decide) ?_
  exact G_sub [0, 1] rfl (hk25 x1 (0 : Int32) M)
def f_X3_actIn (a1 : Int32) (M : gM) : Option (Int32 × gM) := (if a1 < 0 then (f_X3_actIn_24 (f_X3_actIn_25) a1 M) else (if (2079 : Int32) ≤ a1 then (f_X3_actIn_24 (f_X3_actIn_25) a1 M) else (g_ck a1 2079 (if (M.1 49 (tn a1)) ≤ 0 then (f_X3_actIn_24 (f_X3_actIn_25) a1 M) else (f_X3_actIn_25 a1 (1 : Int32) M)))))
set_option maxRecDepth 100000 in
set_option maxHeartbeats 4000000 in
theorem ok_X3_actIn (a1 : Int32) (M : gM) : g_met Y1 yX3_actIn jX3_actIn g_ei (fun Z => [.ref (Z.2.1 47), .int a1]) M (f_X3_actIn a1 M) := by
  refine g_enter (fun Z => [(0, .ref (Z.2.1 47)), (1, .int a1)]) (by decide) rfl (fun Z => Nat.le_of_ble_eq_true rfl) (fun Z => rfl) (fun X => ?_)
  rw [f_X3_actIn]
  refine G_iload_n 1 dX3_actIn_0 rfl rfl ?_
  refine G_if_lt (tgt := 24) dX3_actIn_1 (by decide) ?_ ?_
  · exact G_sub [0, 1] rfl (o_X3_actIn_24 (o_X3_actIn_25) a1 M)
  · refine G_iload_n 1 dX3_actIn_4 rfl rfl ?_
    refine G_sipush (v := 2079) dX3_actIn_5 (by decide) ?_
    refine G_icmp_ge (tgt := 24) dX3_actIn_8 (by decide) ?_ ?_
    · exact G_sub [0, 1] rfl (o_X3_actIn_24 (o_X3_actIn_25) a1 M)
    · refine G_aload_n 0 dX3_actIn_11 rfl rfl ?_
      refine G_get 3 clX3 (y1_47) fl_X3_15 dX3_actIn_12 (by decide) rfl rfl ?_
      refine G_iload_n 1 dX3_actIn_15 rfl rfl ?_
      refine G_iald (y1_49) dX3_actIn_16 ?_
      refine G_if_le (tgt := 24) dX3_actIn_17 (by decide) ?_ ?_
      · exact G_sub [0, 1] rfl (o_X3_actIn_24 (o_X3_actIn_25) a1 M)
      · refine G_iconst (v := 1) dX3_actIn_20 (by decide) ?_
        refine G_goto (tgt := 25) dX3_actIn_21 (by decide) ?_
        exact G_sub [0, 1] rfl (o_X3_actIn_25 a1 (1 : Int32) M)
-- X3_behind
def f_X3_behind (a1 : Int32) (a2 : Int32) (a3 : Int32) (M : gM) : Option (Int32 × gM) := (if 0 ≤ a2 then (g_b (f_X0_after a1 a2 a3 M) (fun r2 M1 => (some (r2, M1)))) else (some (((-2) : Int32), M)))
set_option maxRecDepth 100000 in
set_option maxHeartbeats 4000000 in
theorem ok_X3_behind (a1 : Int32) (a2 : Int32) (a3 : Int32) (M : gM) : g_met Y1 yX3_behind jX3_behind g_ei (fun Z => [.ref (Z.2.1 47), .int a1, .int a2, .int a3]) M (f_X3_behind a1 a2 a3 M) := by
  refine g_enter (fun Z => [(0, .ref (Z.2.1 47)), (1, .int a1), (2, .int a2), (3, .int a3)]) (by decide) rfl (fun Z => Nat.le_of_ble_eq_true rfl) (fun Z => rfl) (fun X => ?_)
  rw [f_X3_behind]
  refine G_iload_n 2 dX3_behind_0 rfl rfl ?_
  refine G_if_ge (tgt := 9) dX3_behind_1 (by decide) ?_ ?_
  · refine G_aload_n 0 dX3_behind_9 rfl rfl ?_
    refine G_get 0 clX3 (y1_47) fl_X3_40 dX3_behind_10 (by decide) rfl rfl ?_
    refine G_iload_n 1 dX3_behind_13 rfl rfl ?_
    refine G_iload_n 2 dX3_behind_14 rfl rfl ?_
    refine G_iload_n 3 dX3_behind_15 rfl rfl ?_
    refine G_cVi (As := [.int a1, .int a2, .int a3]) (rest := []) (ok_X0_after a1 a2 a3 M) rfl (y1_27) rfl mv_X3_60 dX3_behind_16 rfl rfl (Nat.le_of_ble_eq_true rfl) (g_fitN (by decide) (by decide)) (fun r2 M1 => ?_)
    exact G_iret rfl dX3_behind_19
  · refine G_bipush (v := (-2)) dX3_behind_4 (by decide) ?_
    refine G_goto (tgt := 19) dX3_behind_6 (by decide) ?_
    exact G_iret rfl dX3_behind_19
-- J7_fill_53178
def f_J7_fill_53178_5 (a0 : Nat) (n0 : Nat) : Nat → Int32 → Int32 → Int32 → gM → Option (Unit × gM)
  | 0, _, _, _, _ => none
  | n + 1, x1, x2, x3, M => (if x3 ≤ x2 then (some ((), M)) else (g_ck x2 n0 (g_m (sI M a0 (tn x2) x1) (fun M2 => (f_J7_fill_53178_5 a0 n0 n x1 (x2 + 1) x3 M2)))))
set_option maxRecDepth 100000 in
set_option maxHeartbeats 4000000 in
theorem o_J7_fill_53178_5 {X : gX} {a0 : Nat} {n0 : Nat} (ha0 : Y1[a0]? = some (1, n0, [])) : ∀ (n : Nat) (x1 : Int32) (x2 : Int32) (x3 : Int32) (M : gM), G Y1 jJ7_fill_53178 X (g_fin g_ev) 5 [(0, .ref (ad X a0)), (1, .int x1), (2, .int x2), (3, .int x3)] [] M (f_J7_fill_53178_5 a0 n0 n x1 x2 x3 M) := by
  intro n
  induction n with
  | zero => intro x1 x2 x3 M; exact G_none
  | succ n ih =>
    intro x1 x2 x3 M
    rw [f_J7_fill_53178_5]
    refine G_iload_n 2 dJ7_fill_53178_5 rfl rfl ?_
    refine G_iload_n 3 dJ7_fill_53178_6 rfl rfl ?_
    refine G_icmp_ge (tgt := 20) dJ7_fill_53178_7 (by decide) ?_ ?_
    · exact G_vret rfl dJ7_fill_53178_20
    · refine G_aload_n 0 dJ7_fill_53178_10 rfl rfl ?_
      refine G_iload_n 2 dJ7_fill_53178_11 rfl rfl ?_
      refine G_iload_n 1 dJ7_fill_53178_12 rfl rfl ?_
      refine G_iast (ha0) dJ7_fill_53178_13 ?_
      refine G_m (fun M2 => ?_)
      refine G_iinc (v := x2 + 1) (lv' := [(2, .int (x2 + 1)), (0, .ref (ad X a0)), (1, .int x1), (3, .int x3)]) 2 dJ7_fill_53178_14 rfl rfl (by decide) rfl ?_
      refine G_goto (tgt := 5) dJ7_fill_53178_17 (by decide) ?_
      exact G_sub [1, 2, 0, 3] rfl (ih x1 (x2 + 1) x3 M2)
def f_J7_fill_53178 (a0 : Nat) (n0 : Nat) (a1 : Int32) (M : gM) : Option (Unit × gM) := (g_v (Int32.ofNat n0) (fun y1 => (f_J7_fill_53178_5 a0 n0 FU a1 (0 : Int32) y1 M)))
set_option maxRecDepth 100000 in
set_option maxHeartbeats 4000000 in
theorem ok_J7_fill_53178 {a0 : Nat} {n0 : Nat} (ha0 : Y1[a0]? = some (1, n0, [])) (a1 : Int32) (M : gM) : g_met Y1 yJ7_fill_53178 jJ7_fill_53178 g_ev (fun Z => [.ref (Z.2.1 a0), .int a1]) M (f_J7_fill_53178 a0 n0 a1 M) := by
  refine g_enter (fun Z => [(0, .ref (Z.2.1 a0)), (1, .int a1)]) (by decide) rfl (fun Z => Nat.le_of_ble_eq_true rfl) (fun Z => rfl) (fun X => ?_)
  rw [f_J7_fill_53178]
  refine G_iconst (v := 0) dJ7_fill_53178_0 (by decide) ?_
  refine G_istore_n (lv' := [(2, .int 0), (0, .ref (ad X a0)), (1, .int a1)]) dJ7_fill_53178_1 rfl (by decide) rfl ?_
  refine G_aload_n 1 dJ7_fill_53178_2 rfl rfl ?_
  refine G_alen (v := Int32.ofNat n0) (ha0) rfl dJ7_fill_53178_3 ?_
  refine G_vi (fun y1 => ?_)
  refine G_istore_n (lv' := [(3, .int y1), (2, .int 0), (0, .ref (ad X a0)), (1, .int a1)]) dJ7_fill_53178_4 rfl (by decide) rfl ?_
  exact G_sub [2, 3, 1, 0] rfl (o_J7_fill_53178_5 ha0 FU a1 (0 : Int32) y1 M)
-- X3_enqueue
def f_X3_enqueue_53 (x1 : Int32) (x2 : Int32) (x3 : Int32) (s1 : Int32) (s2 : Int32) (M : gM) : Option (Unit × gM) := (g_ck s1 2079 (g_m (sI M 51 (tn s1) s2) (fun M1 => (g_ck x1 2079 (g_m (sI M1 52 (tn x1) x2) (fun M2 => (g_ck x1 2079 (g_m (sI M2 53 (tn x1) x3) (fun M3 => (g_ck (M3.1 47 7) 2079 (g_m (sI M3 50 (tn (M3.1 47 7)) x1) (fun M4 => (g_m (sI M4 47 7 ((M4.1 47 7) + (1 : Int32))) (fun M5 => (some ((), M5))))))))))))))))
set_option maxRecDepth 100000 in
set_option maxHeartbeats 4000000 in
theorem o_X3_enqueue_53 {X : gX} (x1 : Int32) (x2 : Int32) (x3 : Int32) (s1 : Int32) (s2 : Int32) (M : gM) : G Y1 jX3_enqueue X (g_fin g_ev) 53 [(0, .ref (ad X 47)), (1, .int x1), (2, .int x2), (3, .int x3)] [.int s2, .int s1, .ref (ad X 51)] M (f_X3_enqueue_53 x1 x2 x3 s1 s2 M) := by
  rw [f_X3_enqueue_53]
  refine G_iast (y1_51) dX3_enqueue_53 ?_
  refine G_m (fun M1 => ?_)
  refine G_aload_n 0 dX3_enqueue_54 rfl rfl ?_
  refine G_get 10 clX3 (y1_47) fl_X3_24 dX3_enqueue_55 (by decide) rfl rfl ?_
  refine G_iload_n 1 dX3_enqueue_58 rfl rfl ?_
  refine G_iload_n 2 dX3_enqueue_59 rfl rfl ?_
  refine G_iast (y1_52) dX3_enqueue_60 ?_
  refine G_m (fun M2 => ?_)
  refine G_aload_n 0 dX3_enqueue_61 rfl rfl ?_
  refine G_get 11 clX3 (y1_47) fl_X3_27 dX3_enqueue_62 (by decide) rfl rfl ?_
  refine G_iload_n 1 dX3_enqueue_65 rfl rfl ?_
  refine G_iload_n 3 dX3_enqueue_66 rfl rfl ?_
  refine G_iast (y1_53) dX3_enqueue_67 ?_
  refine G_m (fun M3 => ?_)
  refine G_aload_n 0 dX3_enqueue_68 rfl rfl ?_
  refine G_get 8 clX3 (y1_47) fl_X3_18 dX3_enqueue_69 (by decide) rfl rfl ?_
  refine G_aload_n 0 dX3_enqueue_72 rfl rfl ?_
  refine G_get 7 clX3 (y1_47) fl_X3_70 dX3_enqueue_73 (by decide) rfl rfl ?_
  refine G_iload_n 1 dX3_enqueue_76 rfl rfl ?_
  refine G_iast (y1_50) dX3_enqueue_77 ?_
  refine G_m (fun M4 => ?_)
  refine G_aload_n 0 dX3_enqueue_78 rfl rfl ?_
  refine G_dup dX3_enqueue_79 rfl ?_
  refine G_get 7 clX3 (y1_47) fl_X3_70 dX3_enqueue_80 (by decide) rfl rfl ?_
  refine G_iconst (v := 1) dX3_enqueue_83 (by decide) ?_
  refine G_iadd dX3_enqueue_84 ?_
  refine G_putI 7 clX3 (y1_47) fl_X3_70 dX3_enqueue_85 (by decide) rfl rfl rfl ?_
  refine G_m (fun M5 => ?_)
  exact G_vret rfl dX3_enqueue_88
def f_X3_enqueue (a1 : Int32) (a2 : Int32) (a3 : Int32) (M : gM) : Option (Unit × gM) := (if a1 < 0 then (some ((), M)) else (if (2079 : Int32) ≤ a1 then (some ((), M)) else (g_ck a1 2079 (if (M.1 51 (tn a1)) = ((-1) : Int32) then (if (M.1 47 7) < (2079 : Int32) then (if 0 ≤ a2 then (g_ck a2 2079 (f_X3_enqueue_53 a1 a2 a3 a1 ((M.1 51 (tn a2)) + (1 : Int32)) M)) else (f_X3_enqueue_53 a1 a2 a3 a1 (0 : Int32) M)) else (some ((), M))) else (some ((), M))))))
set_option maxRecDepth 100000 in
set_option maxHeartbeats 4000000 in
theorem ok_X3_enqueue (a1 : Int32) (a2 : Int32) (a3 : Int32) (M : gM) : g_met Y1 yX3_enqueue jX3_enqueue g_ev (fun Z => [.ref (Z.2.1 47), .int a1, .int a2, .int a3]) M (f_X3_enqueue a1 a2 a3 M) := by
  refine g_enter (fun Z => [(0, .ref (Z.2.1 47)), (1, .int a1), (2, .int a2), (3, .int a3)]) (by decide) rfl (fun Z => Nat.le_of_ble_eq_true rfl) (fun Z => rfl) (fun X => ?_)
  rw [f_X3_enqueue]
  refine G_iload_n 1 dX3_enqueue_0 rfl rfl ?_
  refine G_if_lt (tgt := 31) dX3_enqueue_1 (by decide) ?_ ?_
  · exact G_vret rfl dX3_enqueue_31
  · refine G_iload_n 1 dX3_enqueue_4 rfl rfl ?_
    refine G_sipush (v := 2079) dX3_enqueue_5 (by decide) ?_
    refine G_icmp_ge (tgt := 31) dX3_enqueue_8 (by decide) ?_ ?_
    · exact G_vret rfl dX3_enqueue_31
    · refine G_aload_n 0 dX3_enqueue_11 rfl rfl ?_
      refine G_get 9 clX3 (y1_47) fl_X3_21 dX3_enqueue_12 (by decide) rfl rfl ?_
      refine G_iload_n 1 dX3_enqueue_15 rfl rfl ?_
      refine G_iald (y1_51) dX3_enqueue_16 ?_
      refine G_iconst (v := (-1)) dX3_enqueue_17 (by decide) ?_
      refine G_icmp_ne (tgt := 31) dX3_enqueue_18 (by decide) ?_ ?_
      · exact G_vret rfl dX3_enqueue_31
      · refine G_aload_n 0 dX3_enqueue_21 rfl rfl ?_
        refine G_get 7 clX3 (y1_47) fl_X3_70 dX3_enqueue_22 (by decide) rfl rfl ?_
        refine G_sipush (v := 2079) dX3_enqueue_25 (by decide) ?_
        refine G_icmp_lt (tgt := 32) dX3_enqueue_28 (by decide) ?_ ?_
        · refine G_aload_n 0 dX3_enqueue_32 rfl rfl ?_
          refine G_get 9 clX3 (y1_47) fl_X3_21 dX3_enqueue_33 (by decide) rfl rfl ?_
          refine G_iload_n 1 dX3_enqueue_36 rfl rfl ?_
          refine G_iload_n 2 dX3_enqueue_37 rfl rfl ?_
          refine G_if_ge (tgt := 45) dX3_enqueue_38 (by decide) ?_ ?_
          · refine G_aload_n 0 dX3_enqueue_45 rfl rfl ?_
            refine G_get 9 clX3 (y1_47) fl_X3_21 dX3_enqueue_46 (by decide) rfl rfl ?_
            refine G_iload_n 2 dX3_enqueue_49 rfl rfl ?_
            refine G_iald (y1_51) dX3_enqueue_50 ?_
            refine G_iconst (v := 1) dX3_enqueue_51 (by decide) ?_
            refine G_iadd dX3_enqueue_52 ?_
            exact G_sub [0, 1, 2, 3] rfl (o_X3_enqueue_53 a1 a2 a3 a1 ((M.1 51 (tn a2)) + (1 : Int32)) M)
          · refine G_iconst (v := 0) dX3_enqueue_41 (by decide) ?_
            refine G_goto (tgt := 53) dX3_enqueue_42 (by decide) ?_
            exact G_sub [0, 1, 2, 3] rfl (o_X3_enqueue_53 a1 a2 a3 a1 (0 : Int32) M)
        · exact G_vret rfl dX3_enqueue_31
-- X3_explore
def f_X3_explore_117 (k41 : Int32 → gM → Option (Unit × gM)) : Nat → Int32 → Int32 → Int32 → Int32 → Int32 → gM → Option (Unit × gM)
  | 0, _, _, _, _, _, _ => none
  | n + 1, x2, x3, x4, x5, x6, M => (if x5 < x6 then (k41 (x2 + 1) M) else (if (M.1 47 5) = ((-1) : Int32) then (g_b (f_X3_behind x3 x4 x6 M) (fun r19 M18 => (if 0 ≤ r19 then (g_or 3 12 (M18.2.2 27 0) (fun t20 => (g_b (f_X4_isOver t20 r19 M18) (fun r22 M21 => (if r22 then (f_X3_explore_117 k41 n x2 x3 x4 x5 (x6 + 1) M21) else (g_b (f_X3_enqueue r19 x3 x6 M21) (fun r24 M23 => (f_X3_explore_117 k41 n x2 x3 x4 x5 (x6 + 1) M23)))))))) else (g_m (sI M18 47 5 x3) (fun M25 => (g_m (sI M25 47 6 x6) (fun M26 => (f_X3_explore_117 k41 n x2 x3 x4 x5 (x6 + 1) M26)))))))) else (k41 (x2 + 1) M)))
set_option maxRecDepth 100000 in
set_option maxHeartbeats 4000000 in
theorem o_X3_explore_117 {X : gX} {k41 : Int32 → gM → Option (Unit × gM)} (hk41 : ∀ (x2 : Int32) (M : gM), G Y1 jX3_explore X (g_fin g_ev) 41 [(0, .ref (ad X 47)), (2, .int x2)] [] M (k41 x2 M)) : ∀ (n : Nat) (x2 : Int32) (x3 : Int32) (x4 : Int32) (x5 : Int32) (x6 : Int32) (M : gM), G Y1 jX3_explore X (g_fin g_ev) 117 [(0, .ref (ad X 47)), (2, .int x2), (3, .int x3), (4, .int x4), (5, .int x5), (6, .int x6)] [] M (f_X3_explore_117 k41 n x2 x3 x4 x5 x6 M) := by
  intro n
  induction n with
  | zero => intro x2 x3 x4 x5 x6 M; exact G_none
  | succ n ih =>
    intro x2 x3 x4 x5 x6 M
    rw [f_X3_explore_117]
    refine G_iload 5 dX3_explore_117 rfl ?_
    refine G_iload 4 dX3_explore_119 rfl ?_
    refine G_icmp_gt (tgt := 192) dX3_explore_121 (by decide) ?_ ?_
    · refine G_iinc (v := x2 + 1) (lv' := [(2, .int (x2 + 1)), (0, .ref (ad X 47)), (3, .int x3), (4, .int x4), (5, .int x5), (6, .int x6)]) 1 dX3_explore_192 rfl rfl (by decide) rfl ?_
      refine G_goto (tgt := 41) dX3_explore_195 (by decide) ?_
      exact G_sub [1, 0] rfl (hk41 (x2 + 1) M)
    · refine G_aload_n 0 dX3_explore_124 rfl rfl ?_
      refine G_get 5 clX3 (y1_47) fl_X3_48 dX3_explore_125 (by decide) rfl rfl ?_
      refine G_iconst (v := (-1)) dX3_explore_128 (by decide) ?_
      refine G_icmp_ne (tgt := 192) dX3_explore_129 (by decide) ?_ ?_
      · refine G_iinc (v := x2 + 1) (lv' := [(2, .int (x2 + 1)), (0, .ref (ad X 47)), (3, .int x3), (4, .int x4), (5, .int x5), (6, .int x6)]) 1 dX3_explore_192 rfl rfl (by decide) rfl ?_
        refine G_goto (tgt := 41) dX3_explore_195 (by decide) ?_
        exact G_sub [1, 0] rfl (hk41 (x2 + 1) M)
      · refine G_aload_n 0 dX3_explore_132 rfl rfl ?_
        refine G_iload_n 2 dX3_explore_133 rfl rfl ?_
        refine G_iload 3 dX3_explore_134 rfl ?_
        refine G_iload 5 dX3_explore_136 rfl ?_
        refine G_cVi (As := [.int x3, .int x4, .int x6]) (rest := []) (ok_X3_behind x3 x4 x6 M) rfl (y1_47) rfl mv_X3_96 dX3_explore_138 rfl rfl (Nat.le_of_ble_eq_true rfl) (g_fitN (by decide) (by decide)) (fun r19 M18 => ?_)
        refine G_istore (lv' := [(7, .int r19), (0, .ref (ad X 47)), (2, .int x2), (3, .int x3), (4, .int x4), (5, .int x5), (6, .int x6)]) dX3_explore_141 (by decide) rfl ?_
        refine G_iload 0 dX3_explore_143 rfl ?_
        refine G_if_ge (tgt := 162) dX3_explore_145 (by decide) ?_ ?_
        · refine G_aload_n 1 dX3_explore_162 rfl rfl ?_
          refine G_get 0 clX3 (y1_47) fl_X3_40 dX3_explore_163 (by decide) rfl rfl ?_
          refine G_getO 0 clX0 (y1_27) fl_X3_80 dX3_explore_166 (by decide) rfl (by decide) (fun t20 ht20 => ?_)
          refine G_iload 0 dX3_explore_169 rfl ?_
          refine G_cVb (As := [.int r19]) (rest := []) (ok_X4_isOver ht20 r19 M18) rfl (ro_0 ht20) rfl mv_X3_84 dX3_explore_171 rfl rfl (Nat.le_of_ble_eq_true rfl) (g_fitN (by decide) (by decide)) (fun r22 M21 => ?_)
          refine G_ifB_ne (tgt := 186) dX3_explore_174 (by decide) ?_ ?_
          · refine G_iinc (v := x6 + 1) (lv' := [(6, .int (x6 + 1)), (7, .int r19), (0, .ref (ad X 47)), (2, .int x2), (3, .int x3), (4, .int x4), (5, .int x5)]) 6 dX3_explore_186 rfl rfl (by decide) rfl ?_
            refine G_goto (tgt := 117) dX3_explore_189 (by decide) ?_
            exact G_sub [2, 3, 4, 5, 6, 0] rfl (ih x2 x3 x4 x5 (x6 + 1) M21)
          · refine G_aload_n 1 dX3_explore_177 rfl rfl ?_
            refine G_iload 0 dX3_explore_178 rfl ?_
            refine G_iload_n 3 dX3_explore_180 rfl rfl ?_
            refine G_iload 6 dX3_explore_181 rfl ?_
            refine G_cVv (As := [.int r19, .int x3, .int x6]) (rest := []) (ok_X3_enqueue r19 x3 x6 M21) rfl (y1_47) rfl mv_X3_73 dX3_explore_183 rfl rfl (Nat.le_of_ble_eq_true rfl) (g_fitN (by decide) (by decide)) (fun r24 M23 => ?_)
            refine G_iinc (v := x6 + 1) (lv' := [(6, .int (x6 + 1)), (7, .int r19), (0, .ref (ad X 47)), (2, .int x2), (3, .int x3), (4, .int x4), (5, .int x5)]) 6 dX3_explore_186 rfl rfl (by decide) rfl ?_
            refine G_goto (tgt := 117) dX3_explore_189 (by decide) ?_
            exact G_sub [2, 3, 4, 5, 6, 0] rfl (ih x2 x3 x4 x5 (x6 + 1) M23)
        · refine G_aload_n 1 dX3_explore_148 rfl rfl ?_
          refine G_iload_n 3 dX3_explore_149 rfl rfl ?_
          refine G_putI 5 clX3 (y1_47) fl_X3_48 dX3_explore_150 (by decide) rfl rfl rfl ?_
          refine G_m (fun M25 => ?_)
          refine G_aload_n 1 dX3_explore_153 rfl rfl ?_
          refine G_iload 6 dX3_explore_154 rfl ?_
          refine G_putI 6 clX3 (y1_47) fl_X3_99 dX3_explore_156 (by decide) rfl rfl rfl ?_
          refine G_m (fun M26 => ?_)
          refine G_goto (tgt := 186) dX3_explore_159 (by decide) ?_
          refine G_iinc (v := x6 + 1) (lv' := [(6, .int (x6 + 1)), (7, .int r19), (0, .ref (ad X 47)), (2, .int x2), (3, .int x3), (4, .int x4), (5, .int x5)]) 6 dX3_explore_186 rfl rfl (by decide) rfl ?_
          refine G_goto (tgt := 117) dX3_explore_189 (by decide) ?_
          exact G_sub [2, 3, 4, 5, 6, 0] rfl (ih x2 x3 x4 x5 (x6 + 1) M26)
def f_X3_explore_105 (k41 : Int32 → gM → Option (Unit × gM)) (x2 : Int32) (x3 : Int32) (x4 : Int32) (s0 : Int32) (M : gM) : Option (Unit × gM) := (g_b (f_X0_least x3 M) (fun r17 M16 => (f_X3_explore_117 k41 FU x2 x3 x4 s0 r17 M16)))
set_option maxRecDepth 100000 in
set_option maxHeartbeats 4000000 in
theorem o_X3_explore_105 {X : gX} {k41 : Int32 → gM → Option (Unit × gM)} (hk41 : ∀ (x2 : Int32) (M : gM), G Y1 jX3_explore X (g_fin g_ev) 41 [(0, .ref (ad X 47)), (2, .int x2)] [] M (k41 x2 M)) (x2 : Int32) (x3 : Int32) (x4 : Int32) (s0 : Int32) (M : gM) : G Y1 jX3_explore X (g_fin g_ev) 105 [(0, .ref (ad X 47)), (2, .int x2), (3, .int x3), (4, .int x4)] [.int s0] M (f_X3_explore_105 k41 x2 x3 x4 s0 M) := by
  rw [f_X3_explore_105]
  refine G_istore (lv' := [(5, .int s0), (0, .ref (ad X 47)), (2, .int x2), (3, .int x3), (4, .int x4)]) dX3_explore_105 (by decide) rfl ?_
  refine G_aload_n 1 dX3_explore_107 rfl rfl ?_
  refine G_get 0 clX3 (y1_47) fl_X3_40 dX3_explore_108 (by decide) rfl rfl ?_
  refine G_iload_n 3 dX3_explore_111 rfl rfl ?_
  refine G_cVi (As := [.int x3]) (rest := []) (ok_X0_least x3 M) rfl (y1_27) rfl mv_X3_93 dX3_explore_112 rfl rfl (Nat.le_of_ble_eq_true rfl) (g_fitN (by decide) (by decide)) (fun r17 M16 => ?_)
  refine G_istore (lv' := [(6, .int r17), (5, .int s0), (0, .ref (ad X 47)), (2, .int x2), (3, .int x3), (4, .int x4)]) dX3_explore_115 (by decide) rfl ?_
  exact G_sub [2, 3, 4, 5, 1, 0] rfl (o_X3_explore_117 hk41 FU x2 x3 x4 s0 r17 M16)
def f_X3_explore_41 : Nat → Int32 → gM → Option (Unit × gM)
  | 0, _, _ => none
  | n + 1, x2, M => (if (M.1 47 7) ≤ x2 then (some ((), M)) else (if (2079 : Int32) ≤ x2 then (some ((), M)) else (if (M.1 47 5) = ((-1) : Int32) then (g_ck x2 2079 (g_v (M.1 50 (tn x2)) (fun y8 => (g_b (f_X3_actIn y8 M) (fun r10 M9 => (g_or 3 12 (M9.2.2 27 0) (fun t11 => (g_b (f_X4_isOver t11 y8 M9) (fun r13 M12 => (if r13 then (f_X3_explore_105 (f_X3_explore_41 n) x2 y8 r10 ((-13) : Int32) M12) else (g_b (f_X0_greatest y8 M12) (fun r15 M14 => (f_X3_explore_105 (f_X3_explore_41 n) x2 y8 r10 r15 M14))))))))))))) else (some ((), M)))))
set_option maxRecDepth 100000 in
set_option maxHeartbeats 4000000 in
theorem o_X3_explore_41 {X : gX} : ∀ (n : Nat) (x2 : Int32) (M : gM), G Y1 jX3_explore X (g_fin g_ev) 41 [(0, .ref (ad X 47)), (2, .int x2)] [] M (f_X3_explore_41 n x2 M) := by
  intro n
  induction n with
  | zero => intro x2 M; exact G_none
  | succ n ih =>
    intro x2 M
    rw [f_X3_explore_41]
    refine G_iload_n 1 dX3_explore_41 rfl rfl ?_
    refine G_aload_n 0 dX3_explore_42 rfl rfl ?_
    refine G_get 7 clX3 (y1_47) fl_X3_70 dX3_explore_43 (by decide) rfl rfl ?_
    refine G_icmp_ge (tgt := 198) dX3_explore_46 (by decide) ?_ ?_
    · exact G_vret rfl dX3_explore_198
    · refine G_iload_n 1 dX3_explore_49 rfl rfl ?_
      refine G_sipush (v := 2079) dX3_explore_50 (by decide) ?_
      refine G_icmp_ge (tgt := 198) dX3_explore_53 (by decide) ?_ ?_
      · exact G_vret rfl dX3_explore_198
      · refine G_aload_n 0 dX3_explore_56 rfl rfl ?_
        refine G_get 5 clX3 (y1_47) fl_X3_48 dX3_explore_57 (by decide) rfl rfl ?_
        refine G_iconst (v := (-1)) dX3_explore_60 (by decide) ?_
        refine G_icmp_ne (tgt := 198) dX3_explore_61 (by decide) ?_ ?_
        · exact G_vret rfl dX3_explore_198
        · refine G_aload_n 0 dX3_explore_64 rfl rfl ?_
          refine G_get 8 clX3 (y1_47) fl_X3_18 dX3_explore_65 (by decide) rfl rfl ?_
          refine G_iload_n 1 dX3_explore_68 rfl rfl ?_
          refine G_iald (y1_50) dX3_explore_69 ?_
          refine G_vi (fun y8 => ?_)
          refine G_istore_n (lv' := [(3, .int y8), (0, .ref (ad X 47)), (2, .int x2)]) dX3_explore_70 rfl (by decide) rfl ?_
          refine G_aload_n 1 dX3_explore_71 rfl rfl ?_
          refine G_iload_n 0 dX3_explore_72 rfl rfl ?_
          refine G_cVi (As := [.int y8]) (rest := []) (ok_X3_actIn y8 M) rfl (y1_47) rfl mv_X3_77 dX3_explore_73 rfl rfl (Nat.le_of_ble_eq_true rfl) (g_fitN (by decide) (by decide)) (fun r10 M9 => ?_)
          refine G_istore (lv' := [(4, .int r10), (3, .int y8), (0, .ref (ad X 47)), (2, .int x2)]) dX3_explore_76 (by decide) rfl ?_
          refine G_aload_n 2 dX3_explore_78 rfl rfl ?_
          refine G_get 0 clX3 (y1_47) fl_X3_40 dX3_explore_79 (by decide) rfl rfl ?_
          refine G_getO 0 clX0 (y1_27) fl_X3_80 dX3_explore_82 (by decide) rfl (by decide) (fun t11 ht11 => ?_)
          refine G_iload_n 1 dX3_explore_85 rfl rfl ?_
          refine G_cVb (As := [.int y8]) (rest := []) (ok_X4_isOver ht11 y8 M9) rfl (ro_0 ht11) rfl mv_X3_84 dX3_explore_86 rfl rfl (Nat.le_of_ble_eq_true rfl) (g_fitN (by decide) (by decide)) (fun r13 M12 => ?_)
          refine G_ifB_eq (tgt := 97) dX3_explore_89 (by decide) ?_ ?_
          · refine G_aload_n 2 dX3_explore_97 rfl rfl ?_
            refine G_get 0 clX3 (y1_47) fl_X3_40 dX3_explore_98 (by decide) rfl rfl ?_
            refine G_iload_n 1 dX3_explore_101 rfl rfl ?_
            refine G_cVi (As := [.int y8]) (rest := []) (ok_X0_greatest y8 M12) rfl (y1_27) rfl mv_X3_90 dX3_explore_102 rfl rfl (Nat.le_of_ble_eq_true rfl) (g_fitN (by decide) (by decide)) (fun r15 M14 => ?_)
            exact G_sub [2, 3, 1, 0] rfl (o_X3_explore_105 ih x2 y8 r10 r15 M14)
          · refine G_bipush (v := (-13)) dX3_explore_92 (by decide) ?_
            refine G_goto (tgt := 105) dX3_explore_94 (by decide) ?_
            exact G_sub [2, 3, 1, 0] rfl (o_X3_explore_105 ih x2 y8 r10 ((-13) : Int32) M12)
def f_X3_explore (a1 : Int32) (M : gM) : Option (Unit × gM) := (if (M.1 47 4) = a1 then (some ((), M)) else (g_m (sI M 47 4 a1) (fun M1 => (g_m (sI M1 47 5 ((-1) : Int32)) (fun M2 => (g_b (f_J7_fill_53178 51 2079 ((-1) : Int32) M2) (fun r4 M3 => (g_m (sI M3 47 7 (0 : Int32)) (fun M5 => (g_b (f_X3_enqueue a1 ((-1) : Int32) (0 : Int32) M5) (fun r7 M6 => (f_X3_explore_41 FU (0 : Int32) M6))))))))))))
set_option maxRecDepth 100000 in
set_option maxHeartbeats 4000000 in
theorem ok_X3_explore (a1 : Int32) (M : gM) : g_met Y1 yX3_explore jX3_explore g_ev (fun Z => [.ref (Z.2.1 47), .int a1]) M (f_X3_explore a1 M) := by
  refine g_enter (fun Z => [(0, .ref (Z.2.1 47)), (1, .int a1)]) (by decide) rfl (fun Z => Nat.le_of_ble_eq_true rfl) (fun Z => rfl) (fun X => ?_)
  rw [f_X3_explore]
  refine G_aload_n 0 dX3_explore_0 rfl rfl ?_
  refine G_get 4 clX3 (y1_47) fl_X3_44 dX3_explore_1 (by decide) rfl rfl ?_
  refine G_iload_n 1 dX3_explore_4 rfl rfl ?_
  refine G_icmp_ne (tgt := 9) dX3_explore_5 (by decide) ?_ ?_
  · refine G_aload_n 0 dX3_explore_9 rfl rfl ?_
    refine G_iload_n 1 dX3_explore_10 rfl rfl ?_
    refine G_putI 4 clX3 (y1_47) fl_X3_44 dX3_explore_11 (by decide) rfl rfl rfl ?_
    refine G_m (fun M1 => ?_)
    refine G_aload_n 0 dX3_explore_14 rfl rfl ?_
    refine G_iconst (v := (-1)) dX3_explore_15 (by decide) ?_
    refine G_putI 5 clX3 (y1_47) fl_X3_48 dX3_explore_16 (by decide) rfl rfl rfl ?_
    refine G_m (fun M2 => ?_)
    refine G_aload_n 0 dX3_explore_19 rfl rfl ?_
    refine G_get 9 clX3 (y1_47) fl_X3_21 dX3_explore_20 (by decide) rfl rfl ?_
    refine G_iconst (v := (-1)) dX3_explore_23 (by decide) ?_
    refine G_cSv (As := [.ref (ad X 51), .int (-1)]) (rest := []) (ok_J7_fill_53178 (y1_51) ((-1) : Int32) M2) rfl ms_X3_64 dX3_explore_24 rfl rfl (Nat.le_of_ble_eq_true rfl) (g_fitN (by decide) (by decide)) (fun r4 M3 => ?_)
    refine G_aload_n 0 dX3_explore_27 rfl rfl ?_
    refine G_iconst (v := 0) dX3_explore_28 (by decide) ?_
    refine G_putI 7 clX3 (y1_47) fl_X3_70 dX3_explore_29 (by decide) rfl rfl rfl ?_
    refine G_m (fun M5 => ?_)
    refine G_aload_n 0 dX3_explore_32 rfl rfl ?_
    refine G_iload_n 1 dX3_explore_33 rfl rfl ?_
    refine G_iconst (v := (-1)) dX3_explore_34 (by decide) ?_
    refine G_iconst (v := 0) dX3_explore_35 (by decide) ?_
    refine G_cVv (As := [.int a1, .int (-1), .int 0]) (rest := []) (ok_X3_enqueue a1 ((-1) : Int32) (0 : Int32) M5) rfl (y1_47) rfl mv_X3_73 dX3_explore_36 rfl rfl (Nat.le_of_ble_eq_true rfl) (g_fitN (by decide) (by decide)) (fun r7 M6 => ?_)
    refine G_iconst (v := 0) dX3_explore_39 (by decide) ?_
    refine G_istore_n (lv' := [(2, .int 0), (0, .ref (ad X 47)), (1, .int a1)]) dX3_explore_40 rfl (by decide) rfl ?_
    exact G_sub [1, 0] rfl (o_X3_explore_41 FU (0 : Int32) M6)
  · exact G_vret rfl dX3_explore_8
-- X3_beatsToFall
def f_X3_beatsToFall (M : gM) : Option (Int32 × gM) := (if (M.1 47 5) = ((-1) : Int32) then (some ((0 : Int32), M)) else (g_ck (M.1 47 5) 2079 (some (((M.1 51 (tn (M.1 47 5))) + (1 : Int32)), M))))
set_option maxRecDepth 100000 in
set_option maxHeartbeats 4000000 in
theorem ok_X3_beatsToFall (M : gM) : g_met Y1 yX3_beatsToFall jX3_beatsToFall g_ei (fun Z => [.ref (Z.2.1 47)]) M (f_X3_beatsToFall M) := by
  refine g_enter (fun Z => [(0, .ref (Z.2.1 47))]) (by decide) rfl (fun Z => Nat.le_of_ble_eq_true rfl) (fun Z => rfl) (fun X => ?_)
  rw [f_X3_beatsToFall]
  refine G_aload_n 0 dX3_beatsToFall_0 rfl rfl ?_
  refine G_get 5 clX3 (y1_47) fl_X3_48 dX3_beatsToFall_1 (by decide) rfl rfl ?_
  refine G_iconst (v := (-1)) dX3_beatsToFall_4 (by decide) ?_
  refine G_icmp_ne (tgt := 12) dX3_beatsToFall_5 (by decide) ?_ ?_
  · refine G_aload_n 0 dX3_beatsToFall_12 rfl rfl ?_
    refine G_get 9 clX3 (y1_47) fl_X3_21 dX3_beatsToFall_13 (by decide) rfl rfl ?_
    refine G_aload_n 0 dX3_beatsToFall_16 rfl rfl ?_
    refine G_get 5 clX3 (y1_47) fl_X3_48 dX3_beatsToFall_17 (by decide) rfl rfl ?_
    refine G_iald (y1_51) dX3_beatsToFall_20 ?_
    refine G_iconst (v := 1) dX3_beatsToFall_21 (by decide) ?_
    refine G_iadd dX3_beatsToFall_22 ?_
    exact G_iret rfl dX3_beatsToFall_23
  · refine G_iconst (v := 0) dX3_beatsToFall_8 (by decide) ?_
    refine G_goto (tgt := 23) dX3_beatsToFall_9 (by decide) ?_
    exact G_iret rfl dX3_beatsToFall_23
-- X3_witnessGust
def f_X3_witnessGust_33 : Nat → Int32 → Int32 → Int32 → Int32 → gM → Option (Int32 × gM)
  | 0, _, _, _, _, _ => none
  | n + 1, x1, x2, x3, x4, M => (if x4 ≤ x1 then (some (x2, M)) else (if x3 < 0 then (some (x2, M)) else (g_ck x3 2079 (g_v (M.1 53 (tn x3)) (fun y8 => (g_ck x3 2079 (g_v (M.1 52 (tn x3)) (fun y9 => (f_X3_witnessGust_33 n x1 y8 y9 (x4 + (-1)) M)))))))))
set_option maxRecDepth 100000 in
set_option maxHeartbeats 4000000 in
theorem o_X3_witnessGust_33 {X : gX} : ∀ (n : Nat) (x1 : Int32) (x2 : Int32) (x3 : Int32) (x4 : Int32) (M : gM), G Y1 jX3_witnessGust X (g_fin g_ei) 33 [(0, .ref (ad X 47)), (1, .int x1), (2, .int x2), (3, .int x3), (4, .int x4)] [] M (f_X3_witnessGust_33 n x1 x2 x3 x4 M) := by
  intro n
  induction n with
  | zero => intro x1 x2 x3 x4 M; exact G_none
  | succ n ih =>
    intro x1 x2 x3 x4 M
    rw [f_X3_witnessGust_33]
    refine G_iload 4 dX3_witnessGust_33 rfl ?_
    refine G_iload_n 1 dX3_witnessGust_35 rfl rfl ?_
    refine G_icmp_le (tgt := 63) dX3_witnessGust_36 (by decide) ?_ ?_
    · refine G_iload_n 2 dX3_witnessGust_63 rfl rfl ?_
      exact G_iret rfl dX3_witnessGust_64
    · refine G_iload_n 3 dX3_witnessGust_39 rfl rfl ?_
      refine G_if_lt (tgt := 63) dX3_witnessGust_40 (by decide) ?_ ?_
      · refine G_iload_n 2 dX3_witnessGust_63 rfl rfl ?_
        exact G_iret rfl dX3_witnessGust_64
      · refine G_aload_n 0 dX3_witnessGust_43 rfl rfl ?_
        refine G_get 11 clX3 (y1_47) fl_X3_27 dX3_witnessGust_44 (by decide) rfl rfl ?_
        refine G_iload_n 3 dX3_witnessGust_47 rfl rfl ?_
        refine G_iald (y1_53) dX3_witnessGust_48 ?_
        refine G_vi (fun y8 => ?_)
        refine G_istore_n (lv' := [(2, .int y8), (0, .ref (ad X 47)), (1, .int x1), (3, .int x3), (4, .int x4)]) dX3_witnessGust_49 rfl (by decide) rfl ?_
        refine G_aload_n 1 dX3_witnessGust_50 rfl rfl ?_
        refine G_get 10 clX3 (y1_47) fl_X3_24 dX3_witnessGust_51 (by decide) rfl rfl ?_
        refine G_iload_n 3 dX3_witnessGust_54 rfl rfl ?_
        refine G_iald (y1_52) dX3_witnessGust_55 ?_
        refine G_vi (fun y9 => ?_)
        refine G_istore_n (lv' := [(3, .int y9), (2, .int y8), (0, .ref (ad X 47)), (1, .int x1), (4, .int x4)]) dX3_witnessGust_56 rfl (by decide) rfl ?_
        refine G_iinc (v := x4 + (-1)) (lv' := [(4, .int (x4 + (-1))), (3, .int y9), (2, .int y8), (0, .ref (ad X 47)), (1, .int x1)]) 4 dX3_witnessGust_57 rfl rfl (by decide) rfl ?_
        refine G_goto (tgt := 33) dX3_witnessGust_60 (by decide) ?_
        exact G_sub [3, 4, 2, 1, 0] rfl (ih x1 y8 y9 (x4 + (-1)) M)
def f_X3_witnessGust (a1 : Int32) (M : gM) : Option (Int32 × gM) := (if a1 < 0 then (some (((-100) : Int32), M)) else (g_b (f_X3_beatsToFall M) (fun r2 M1 => (if a1 < r2 then (g_v (M1.1 47 6) (fun y3 => (g_v (M1.1 47 5) (fun y4 => (g_b (f_X3_beatsToFall M1) (fun r6 M5 => (g_v (r6 - (1 : Int32)) (fun y7 => (f_X3_witnessGust_33 FU a1 y3 y4 y7 M5))))))))) else (some (((-100) : Int32), M1))))))
set_option maxRecDepth 100000 in
set_option maxHeartbeats 4000000 in
theorem ok_X3_witnessGust (a1 : Int32) (M : gM) : g_met Y1 yX3_witnessGust jX3_witnessGust g_ei (fun Z => [.ref (Z.2.1 47), .int a1]) M (f_X3_witnessGust a1 M) := by
  refine g_enter (fun Z => [(0, .ref (Z.2.1 47)), (1, .int a1)]) (by decide) rfl (fun Z => Nat.le_of_ble_eq_true rfl) (fun Z => rfl) (fun X => ?_)
  rw [f_X3_witnessGust]
  refine G_iload_n 1 dX3_witnessGust_0 rfl rfl ?_
  refine G_if_lt (tgt := 12) dX3_witnessGust_1 (by decide) ?_ ?_
  · refine G_bipush (v := (-100)) dX3_witnessGust_12 (by decide) ?_
    exact G_iret rfl dX3_witnessGust_14
  · refine G_iload_n 1 dX3_witnessGust_4 rfl rfl ?_
    refine G_aload_n 0 dX3_witnessGust_5 rfl rfl ?_
    refine G_cVi (As := []) (rest := [.int a1]) (ok_X3_beatsToFall M) rfl (y1_47) rfl mv_X3_102 dX3_witnessGust_6 rfl rfl (Nat.le_of_ble_eq_true rfl) (g_fitN (by decide) (by decide)) (fun r2 M1 => ?_)
    refine G_icmp_lt (tgt := 15) dX3_witnessGust_9 (by decide) ?_ ?_
    · refine G_aload_n 0 dX3_witnessGust_15 rfl rfl ?_
      refine G_get 6 clX3 (y1_47) fl_X3_99 dX3_witnessGust_16 (by decide) rfl rfl ?_
      refine G_vi (fun y3 => ?_)
      refine G_istore_n (lv' := [(2, .int y3), (0, .ref (ad X 47)), (1, .int a1)]) dX3_witnessGust_19 rfl (by decide) rfl ?_
      refine G_aload_n 1 dX3_witnessGust_20 rfl rfl ?_
      refine G_get 5 clX3 (y1_47) fl_X3_48 dX3_witnessGust_21 (by decide) rfl rfl ?_
      refine G_vi (fun y4 => ?_)
      refine G_istore_n (lv' := [(3, .int y4), (2, .int y3), (0, .ref (ad X 47)), (1, .int a1)]) dX3_witnessGust_24 rfl (by decide) rfl ?_
      refine G_aload_n 2 dX3_witnessGust_25 rfl rfl ?_
      refine G_cVi (As := []) (rest := []) (ok_X3_beatsToFall M1) rfl (y1_47) rfl mv_X3_102 dX3_witnessGust_26 rfl rfl (Nat.le_of_ble_eq_true rfl) (g_fitN (by decide) (by decide)) (fun r6 M5 => ?_)
      refine G_iconst (v := 1) dX3_witnessGust_29 (by decide) ?_
      refine G_isub dX3_witnessGust_30 ?_
      refine G_vi (fun y7 => ?_)
      refine G_istore (lv' := [(4, .int y7), (3, .int y4), (2, .int y3), (0, .ref (ad X 47)), (1, .int a1)]) dX3_witnessGust_31 (by decide) rfl ?_
      exact G_sub [3, 4, 2, 1, 0] rfl (o_X3_witnessGust_33 FU a1 y3 y4 y7 M5)
    · refine G_bipush (v := (-100)) dX3_witnessGust_12 (by decide) ?_
      exact G_iret rfl dX3_witnessGust_14
-- X3_longestFrom
def f_X3_longestFrom_76 (k18 : Int32 → Int32 → Int32 → Int32 → gM → Option (Int32 × gM)) (x1 : Int32) (x2 : Int32) (x3 : Int32) (x4 : Int32) (s0 : Int32) (M : gM) : Option (Int32 × gM) := (if s0 = ((-1) : Int32) then (some (((-1) : Int32), M)) else (if s0 ≤ x3 then (k18 x1 x2 x3 (x4 + 1) M) else (k18 x1 x2 s0 (x4 + 1) M)))
set_option maxRecDepth 100000 in
set_option maxHeartbeats 4000000 in
theorem o_X3_longestFrom_76 {X : gX} {k18 : Int32 → Int32 → Int32 → Int32 → gM → Option (Int32 × gM)} (hk18 : ∀ (x1 : Int32) (x2 : Int32) (x3 : Int32) (x4 : Int32) (M : gM), G Y1 jX3_longestFrom X (g_fin g_ei) 18 [(0, .ref (ad X 47)), (1, .int x1), (2, .int x2), (3, .int x3), (4, .int x4)] [] M (k18 x1 x2 x3 x4 M)) (x1 : Int32) (x2 : Int32) (x3 : Int32) (x4 : Int32) (s0 : Int32) (M : gM) : G Y1 jX3_longestFrom X (g_fin g_ei) 76 [(0, .ref (ad X 47)), (1, .int x1), (2, .int x2), (3, .int x3), (4, .int x4)] [.int s0] M (f_X3_longestFrom_76 k18 x1 x2 x3 x4 s0 M) := by
  rw [f_X3_longestFrom_76]
  refine G_istore (lv' := [(6, .int s0), (0, .ref (ad X 47)), (1, .int x1), (2, .int x2), (3, .int x3), (4, .int x4)]) dX3_longestFrom_76 (by decide) rfl ?_
  refine G_iload 0 dX3_longestFrom_78 rfl ?_
  refine G_iconst (v := (-1)) dX3_longestFrom_80 (by decide) ?_
  refine G_icmp_ne (tgt := 86) dX3_longestFrom_81 (by decide) ?_ ?_
  · refine G_iload 0 dX3_longestFrom_86 rfl ?_
    refine G_iload_n 4 dX3_longestFrom_88 rfl rfl ?_
    refine G_icmp_le (tgt := 97) dX3_longestFrom_89 (by decide) ?_ ?_
    · refine G_iload_n 4 dX3_longestFrom_97 rfl rfl ?_
      refine G_istore_n (lv' := [(3, .int x3), (6, .int s0), (0, .ref (ad X 47)), (1, .int x1), (2, .int x2), (4, .int x4)]) dX3_longestFrom_98 rfl (by decide) rfl ?_
      refine G_iinc (v := x4 + 1) (lv' := [(4, .int (x4 + 1)), (3, .int x3), (6, .int s0), (0, .ref (ad X 47)), (1, .int x1), (2, .int x2)]) 5 dX3_longestFrom_99 rfl rfl (by decide) rfl ?_
      refine G_goto (tgt := 18) dX3_longestFrom_102 (by decide) ?_
      exact G_sub [3, 4, 5, 1, 0] rfl (hk18 x1 x2 x3 (x4 + 1) M)
    · refine G_iload 0 dX3_longestFrom_92 rfl ?_
      refine G_goto (tgt := 98) dX3_longestFrom_94 (by decide) ?_
      refine G_istore_n (lv' := [(3, .int s0), (6, .int s0), (0, .ref (ad X 47)), (1, .int x1), (2, .int x2), (4, .int x4)]) dX3_longestFrom_98 rfl (by decide) rfl ?_
      refine G_iinc (v := x4 + 1) (lv' := [(4, .int (x4 + 1)), (3, .int s0), (6, .int s0), (0, .ref (ad X 47)), (1, .int x1), (2, .int x2)]) 5 dX3_longestFrom_99 rfl rfl (by decide) rfl ?_
      refine G_goto (tgt := 18) dX3_longestFrom_102 (by decide) ?_
      exact G_sub [3, 4, 5, 1, 0] rfl (hk18 x1 x2 s0 (x4 + 1) M)
  · refine G_iconst (v := (-1)) dX3_longestFrom_84 (by decide) ?_
    exact G_iret rfl dX3_longestFrom_85
def f_X3_longestFrom_18 : Nat → Int32 → Int32 → Int32 → Int32 → gM → Option (Int32 × gM)
  | 0, _, _, _, _, _ => none
  | n + 1, x1, x2, x3, x4, M => (g_b (f_X0_greatest x1 M) (fun r6 M5 => (if r6 < x4 then (some ((x3 + (1 : Int32)), M5)) else (g_b (f_X3_behind x1 x2 x4 M5) (fun r8 M7 => (if 0 ≤ r8 then (g_or 3 12 (M7.2.2 27 0) (fun t9 => (g_b (f_X4_isOver t9 r8 M7) (fun r11 M10 => (if r11 then (f_X3_longestFrom_76 (f_X3_longestFrom_18 n) x1 x2 x3 x4 (0 : Int32) M10) else (g_ck r8 2079 (f_X3_longestFrom_76 (f_X3_longestFrom_18 n) x1 x2 x3 x4 (M10.1 54 (tn r8)) M10))))))) else (f_X3_longestFrom_76 (f_X3_longestFrom_18 n) x1 x2 x3 x4 ((-1) : Int32) M7)))))))
set_option maxRecDepth 100000 in
set_option maxHeartbeats 4000000 in
theorem o_X3_longestFrom_18 {X : gX} : ∀ (n : Nat) (x1 : Int32) (x2 : Int32) (x3 : Int32) (x4 : Int32) (M : gM), G Y1 jX3_longestFrom X (g_fin g_ei) 18 [(0, .ref (ad X 47)), (1, .int x1), (2, .int x2), (3, .int x3), (4, .int x4)] [] M (f_X3_longestFrom_18 n x1 x2 x3 x4 M) := by
  intro n
  induction n with
  | zero => intro x1 x2 x3 x4 M; exact G_none
  | succ n ih =>
    intro x1 x2 x3 x4 M
    rw [f_X3_longestFrom_18]
    refine G_iload 4 dX3_longestFrom_18 rfl ?_
    refine G_aload_n 0 dX3_longestFrom_20 rfl rfl ?_
    refine G_get 0 clX3 (y1_47) fl_X3_40 dX3_longestFrom_21 (by decide) rfl rfl ?_
    refine G_iload_n 1 dX3_longestFrom_24 rfl rfl ?_
    refine G_cVi (As := [.int x1]) (rest := [.int x4]) (ok_X0_greatest x1 M) rfl (y1_27) rfl mv_X3_90 dX3_longestFrom_25 rfl rfl (Nat.le_of_ble_eq_true rfl) (g_fitN (by decide) (by decide)) (fun r6 M5 => ?_)
    refine G_icmp_gt (tgt := 105) dX3_longestFrom_28 (by decide) ?_ ?_
    · refine G_iload_n 3 dX3_longestFrom_105 rfl rfl ?_
      refine G_iconst (v := 1) dX3_longestFrom_106 (by decide) ?_
      refine G_iadd dX3_longestFrom_107 ?_
      exact G_iret rfl dX3_longestFrom_108
    · refine G_aload_n 0 dX3_longestFrom_31 rfl rfl ?_
      refine G_iload_n 1 dX3_longestFrom_32 rfl rfl ?_
      refine G_iload_n 2 dX3_longestFrom_33 rfl rfl ?_
      refine G_iload 4 dX3_longestFrom_34 rfl ?_
      refine G_cVi (As := [.int x1, .int x2, .int x4]) (rest := []) (ok_X3_behind x1 x2 x4 M5) rfl (y1_47) rfl mv_X3_96 dX3_longestFrom_36 rfl rfl (Nat.le_of_ble_eq_true rfl) (g_fitN (by decide) (by decide)) (fun r8 M7 => ?_)
      refine G_istore (lv' := [(5, .int r8), (0, .ref (ad X 47)), (1, .int x1), (2, .int x2), (3, .int x3), (4, .int x4)]) dX3_longestFrom_39 (by decide) rfl ?_
      refine G_iload 0 dX3_longestFrom_41 rfl ?_
      refine G_if_ge (tgt := 50) dX3_longestFrom_43 (by decide) ?_ ?_
      · refine G_aload_n 1 dX3_longestFrom_50 rfl rfl ?_
        refine G_get 0 clX3 (y1_47) fl_X3_40 dX3_longestFrom_51 (by decide) rfl rfl ?_
        refine G_getO 0 clX0 (y1_27) fl_X3_80 dX3_longestFrom_54 (by decide) rfl (by decide) (fun t9 ht9 => ?_)
        refine G_iload 0 dX3_longestFrom_57 rfl ?_
        refine G_cVb (As := [.int r8]) (rest := []) (ok_X4_isOver ht9 r8 M7) rfl (ro_0 ht9) rfl mv_X3_84 dX3_longestFrom_59 rfl rfl (Nat.le_of_ble_eq_true rfl) (g_fitN (by decide) (by decide)) (fun r11 M10 => ?_)
        refine G_ifB_eq (tgt := 69) dX3_longestFrom_62 (by decide) ?_ ?_
        · refine G_aload_n 1 dX3_longestFrom_69 rfl rfl ?_
          refine G_get 12 clX3 (y1_47) fl_X3_30 dX3_longestFrom_70 (by decide) rfl rfl ?_
          refine G_iload 0 dX3_longestFrom_73 rfl ?_
          refine G_iald (y1_54) dX3_longestFrom_75 ?_
          exact G_sub [1, 2, 3, 4, 5] rfl (o_X3_longestFrom_76 ih x1 x2 x3 x4 (M10.1 54 (tn r8)) M10)
        · refine G_iconst (v := 0) dX3_longestFrom_65 (by decide) ?_
          refine G_goto (tgt := 76) dX3_longestFrom_66 (by decide) ?_
          exact G_sub [1, 2, 3, 4, 5] rfl (o_X3_longestFrom_76 ih x1 x2 x3 x4 (0 : Int32) M10)
      · refine G_iconst (v := (-1)) dX3_longestFrom_46 (by decide) ?_
        refine G_goto (tgt := 76) dX3_longestFrom_47 (by decide) ?_
        exact G_sub [1, 2, 3, 4, 5] rfl (o_X3_longestFrom_76 ih x1 x2 x3 x4 ((-1) : Int32) M7)
def f_X3_longestFrom (a1 : Int32) (M : gM) : Option (Int32 × gM) := (g_b (f_X3_actIn a1 M) (fun r2 M1 => (g_b (f_X0_least a1 M1) (fun r4 M3 => (f_X3_longestFrom_18 FU a1 r2 (0 : Int32) r4 M3)))))
set_option maxRecDepth 100000 in
set_option maxHeartbeats 4000000 in
theorem ok_X3_longestFrom (a1 : Int32) (M : gM) : g_met Y1 yX3_longestFrom jX3_longestFrom g_ei (fun Z => [.ref (Z.2.1 47), .int a1]) M (f_X3_longestFrom a1 M) := by
  refine g_enter (fun Z => [(0, .ref (Z.2.1 47)), (1, .int a1)]) (by decide) rfl (fun Z => Nat.le_of_ble_eq_true rfl) (fun Z => rfl) (fun X => ?_)
  rw [f_X3_longestFrom]
  refine G_aload_n 0 dX3_longestFrom_0 rfl rfl ?_
  refine G_iload_n 1 dX3_longestFrom_1 rfl rfl ?_
  refine G_cVi (As := [.int a1]) (rest := []) (ok_X3_actIn a1 M) rfl (y1_47) rfl mv_X3_77 dX3_longestFrom_2 rfl rfl (Nat.le_of_ble_eq_true rfl) (g_fitN (by decide) (by decide)) (fun r2 M1 => ?_)
  refine G_istore_n (lv' := [(2, .int r2), (0, .ref (ad X 47)), (1, .int a1)]) dX3_longestFrom_5 rfl (by decide) rfl ?_
  refine G_iconst (v := 0) dX3_longestFrom_6 (by decide) ?_
  refine G_istore_n (lv' := [(3, .int 0), (2, .int r2), (0, .ref (ad X 47)), (1, .int a1)]) dX3_longestFrom_7 rfl (by decide) rfl ?_
  refine G_aload_n 2 dX3_longestFrom_8 rfl rfl ?_
  refine G_get 0 clX3 (y1_47) fl_X3_40 dX3_longestFrom_9 (by decide) rfl rfl ?_
  refine G_iload_n 3 dX3_longestFrom_12 rfl rfl ?_
  refine G_cVi (As := [.int a1]) (rest := []) (ok_X0_least a1 M1) rfl (y1_27) rfl mv_X3_93 dX3_longestFrom_13 rfl rfl (Nat.le_of_ble_eq_true rfl) (g_fitN (by decide) (by decide)) (fun r4 M3 => ?_)
  refine G_istore (lv' := [(4, .int r4), (3, .int 0), (2, .int r2), (0, .ref (ad X 47)), (1, .int a1)]) dX3_longestFrom_16 (by decide) rfl ?_
  exact G_sub [3, 4, 2, 1, 0] rfl (o_X3_longestFrom_18 FU a1 r2 (0 : Int32) r4 M3)
-- X3_longestWay
def f_X3_longestWay_168 (x1 : Int32) (M : gM) : Option (Int32 × gM) := (g_ck x1 2079 (if (M.1 54 (tn x1)) = ((-1) : Int32) then (some (((-2) : Int32), M)) else (g_ck x1 2079 (some ((M.1 54 (tn x1)), M)))))
set_option maxRecDepth 100000 in
set_option maxHeartbeats 4000000 in
theorem o_X3_longestWay_168 {X : gX} (x1 : Int32) (M : gM) : G Y1 jX3_longestWay X (g_fin g_ei) 168 [(0, .ref (ad X 47)), (1, .int x1)] [] M (f_X3_longestWay_168 x1 M) := by
  rw [f_X3_longestWay_168]
  refine G_aload_n 0 dX3_longestWay_168 rfl rfl ?_
  refine G_get 12 clX3 (y1_47) fl_X3_30 dX3_longestWay_169 (by decide) rfl rfl ?_
  refine G_iload_n 1 dX3_longestWay_172 rfl rfl ?_
  refine G_iald (y1_54) dX3_longestWay_173 ?_
  refine G_iconst (v := (-1)) dX3_longestWay_174 (by decide) ?_
  refine G_icmp_ne (tgt := 183) dX3_longestWay_175 (by decide) ?_ ?_
  · refine G_aload_n 0 dX3_longestWay_183 rfl rfl ?_
    refine G_get 12 clX3 (y1_47) fl_X3_30 dX3_longestWay_184 (by decide) rfl rfl ?_
    refine G_iload_n 1 dX3_longestWay_187 rfl rfl ?_
    refine G_iald (y1_54) dX3_longestWay_188 ?_
    exact G_iret rfl dX3_longestWay_189
  · refine G_bipush (v := (-2)) dX3_longestWay_178 (by decide) ?_
    refine G_goto (tgt := 189) dX3_longestWay_180 (by decide) ?_
    exact G_iret rfl dX3_longestWay_189
def f_X3_longestWay_97 (k66 : Int32 → Int32 → Int32 → gM → Option (Int32 × gM)) : Nat → Int32 → Int32 → Int32 → Int32 → gM → Option (Int32 × gM)
  | 0, _, _, _, _, _ => none
  | n + 1, x1, x2, x3, x4, M => (if x4 < 0 then (k66 x1 x2 (x3 + 1) M) else (g_ck x4 2079 (g_v (M.1 50 (tn x4)) (fun y2 => (g_ck y2 2079 (if (M.1 54 (tn y2)) = ((-1) : Int32) then (g_b (f_X3_longestFrom y2 M) (fun r4 M3 => (g_ck y2 2079 (g_m (sI M3 54 (tn y2) r4) (fun M5 => (if x2 = 0 then (g_ck y2 2079 (if (M5.1 54 (tn y2)) = ((-1) : Int32) then (f_X3_longestWay_97 k66 n x1 (0 : Int32) x3 (x4 + (-1)) M5) else (f_X3_longestWay_97 k66 n x1 (1 : Int32) x3 (x4 + (-1)) M5))) else (f_X3_longestWay_97 k66 n x1 (1 : Int32) x3 (x4 + (-1)) M5))))))) else (f_X3_longestWay_97 k66 n x1 x2 x3 (x4 + (-1)) M)))))))
set_option maxRecDepth 100000 in
set_option maxHeartbeats 4000000 in
theorem o_X3_longestWay_97 {X : gX} {k66 : Int32 → Int32 → Int32 → gM → Option (Int32 × gM)} (hk66 : ∀ (x1 : Int32) (x2 : Int32) (x3 : Int32) (M : gM), G Y1 jX3_longestWay X (g_fin g_ei) 66 [(0, .ref (ad X 47)), (1, .int x1), (2, .int x2), (3, .int x3)] [] M (k66 x1 x2 x3 M)) : ∀ (n : Nat) (x1 : Int32) (x2 : Int32) (x3 : Int32) (x4 : Int32) (M : gM), G Y1 jX3_longestWay X (g_fin g_ei) 97 [(0, .ref (ad X 47)), (1, .int x1), (2, .int x2), (3, .int x3), (4, .int x4)] [] M (f_X3_longestWay_97 k66 n x1 x2 x3 x4 M) := by
  intro n
  induction n with
  | zero => intro x1 x2 x3 x4 M; exact G_none
  | succ n ih =>
    intro x1 x2 x3 x4 M
    rw [f_X3_longestWay_97]
    refine G_iload 4 dX3_longestWay_97 rfl ?_
    refine G_if_lt (tgt := 162) dX3_longestWay_99 (by decide) ?_ ?_
    · refine G_iinc (v := x3 + 1) (lv' := [(3, .int (x3 + 1)), (0, .ref (ad X 47)), (1, .int x1), (2, .int x2), (4, .int x4)]) 3 dX3_longestWay_162 rfl rfl (by decide) rfl ?_
      refine G_goto (tgt := 66) dX3_longestWay_165 (by decide) ?_
      exact G_sub [1, 2, 3, 0] rfl (hk66 x1 x2 (x3 + 1) M)
    · refine G_aload_n 0 dX3_longestWay_102 rfl rfl ?_
      refine G_get 8 clX3 (y1_47) fl_X3_18 dX3_longestWay_103 (by decide) rfl rfl ?_
      refine G_iload 4 dX3_longestWay_106 rfl ?_
      refine G_iald (y1_50) dX3_longestWay_108 ?_
      refine G_vi (fun y2 => ?_)
      refine G_istore (lv' := [(5, .int y2), (0, .ref (ad X 47)), (1, .int x1), (2, .int x2), (3, .int x3), (4, .int x4)]) dX3_longestWay_109 (by decide) rfl ?_
      refine G_aload_n 1 dX3_longestWay_111 rfl rfl ?_
      refine G_get 12 clX3 (y1_47) fl_X3_30 dX3_longestWay_112 (by decide) rfl rfl ?_
      refine G_iload 0 dX3_longestWay_115 rfl ?_
      refine G_iald (y1_54) dX3_longestWay_117 ?_
      refine G_iconst (v := (-1)) dX3_longestWay_118 (by decide) ?_
      refine G_icmp_ne (tgt := 156) dX3_longestWay_119 (by decide) ?_ ?_
      · refine G_iinc (v := x4 + (-1)) (lv' := [(4, .int (x4 + (-1))), (5, .int y2), (0, .ref (ad X 47)), (1, .int x1), (2, .int x2), (3, .int x3)]) 5 dX3_longestWay_156 rfl rfl (by decide) rfl ?_
        refine G_goto (tgt := 97) dX3_longestWay_159 (by decide) ?_
        exact G_sub [2, 3, 4, 5, 0] rfl (ih x1 x2 x3 (x4 + (-1)) M)
      · refine G_aload_n 1 dX3_longestWay_122 rfl rfl ?_
        refine G_get 12 clX3 (y1_47) fl_X3_30 dX3_longestWay_123 (by decide) rfl rfl ?_
        refine G_iload 0 dX3_longestWay_126 rfl ?_
        refine G_aload_n 1 dX3_longestWay_128 rfl rfl ?_
        refine G_iload 0 dX3_longestWay_129 rfl ?_
        refine G_cVi (As := [.int y2]) (rest := [.int y2, .ref (ad X 54)]) (ok_X3_longestFrom y2 M) rfl (y1_47) rfl mv_X3_106 dX3_longestWay_131 rfl rfl (Nat.le_of_ble_eq_true rfl) (g_fitN (by decide) (by decide)) (fun r4 M3 => ?_)
        refine G_iast (y1_54) dX3_longestWay_134 ?_
        refine G_m (fun M5 => ?_)
        refine G_iload_n 3 dX3_longestWay_135 rfl rfl ?_
        refine G_if_ne (tgt := 150) dX3_longestWay_136 (by decide) ?_ ?_
        · refine G_iconst (v := 1) dX3_longestWay_150 (by decide) ?_
          refine G_goto (tgt := 155) dX3_longestWay_151 (by decide) ?_
          refine G_istore_n (lv' := [(2, .int 1), (5, .int y2), (0, .ref (ad X 47)), (1, .int x1), (3, .int x3), (4, .int x4)]) dX3_longestWay_155 rfl (by decide) rfl ?_
          refine G_iinc (v := x4 + (-1)) (lv' := [(4, .int (x4 + (-1))), (2, .int 1), (5, .int y2), (0, .ref (ad X 47)), (1, .int x1), (3, .int x3)]) 5 dX3_longestWay_156 rfl rfl (by decide) rfl ?_
          refine G_goto (tgt := 97) dX3_longestWay_159 (by decide) ?_
          exact G_sub [3, 4, 1, 5, 0] rfl (ih x1 (1 : Int32) x3 (x4 + (-1)) M5)
        · refine G_aload_n 1 dX3_longestWay_139 rfl rfl ?_
          refine G_get 12 clX3 (y1_47) fl_X3_30 dX3_longestWay_140 (by decide) rfl rfl ?_
          refine G_iload 0 dX3_longestWay_143 rfl ?_
          refine G_iald (y1_54) dX3_longestWay_145 ?_
          refine G_iconst (v := (-1)) dX3_longestWay_146 (by decide) ?_
          refine G_icmp_eq (tgt := 154) dX3_longestWay_147 (by decide) ?_ ?_
          · refine G_iconst (v := 0) dX3_longestWay_154 (by decide) ?_
            refine G_istore_n (lv' := [(2, .int 0), (5, .int y2), (0, .ref (ad X 47)), (1, .int x1), (3, .int x3), (4, .int x4)]) dX3_longestWay_155 rfl (by decide) rfl ?_
            refine G_iinc (v := x4 + (-1)) (lv' := [(4, .int (x4 + (-1))), (2, .int 0), (5, .int y2), (0, .ref (ad X 47)), (1, .int x1), (3, .int x3)]) 5 dX3_longestWay_156 rfl rfl (by decide) rfl ?_
            refine G_goto (tgt := 97) dX3_longestWay_159 (by decide) ?_
            exact G_sub [3, 4, 1, 5, 0] rfl (ih x1 (0 : Int32) x3 (x4 + (-1)) M5)
          · refine G_iconst (v := 1) dX3_longestWay_150 (by decide) ?_
            refine G_goto (tgt := 155) dX3_longestWay_151 (by decide) ?_
            refine G_istore_n (lv' := [(2, .int 1), (5, .int y2), (0, .ref (ad X 47)), (1, .int x1), (3, .int x3), (4, .int x4)]) dX3_longestWay_155 rfl (by decide) rfl ?_
            refine G_iinc (v := x4 + (-1)) (lv' := [(4, .int (x4 + (-1))), (2, .int 1), (5, .int y2), (0, .ref (ad X 47)), (1, .int x1), (3, .int x3)]) 5 dX3_longestWay_156 rfl rfl (by decide) rfl ?_
            refine G_goto (tgt := 97) dX3_longestWay_159 (by decide) ?_
            exact G_sub [3, 4, 1, 5, 0] rfl (ih x1 (1 : Int32) x3 (x4 + (-1)) M5)
def f_X3_longestWay_66 : Nat → Int32 → Int32 → Int32 → gM → Option (Int32 × gM)
  | 0, _, _, _, _ => none
  | n + 1, x1, x2, x3, M => (if (2079 : Int32) < x3 then (f_X3_longestWay_168 x1 M) else (if x2 = 0 then (f_X3_longestWay_168 x1 M) else (g_ck x1 2079 (if (M.1 54 (tn x1)) = ((-1) : Int32) then (g_v ((M.1 47 7) - (1 : Int32)) (fun y1 => (f_X3_longestWay_97 (f_X3_longestWay_66 n) FU x1 (0 : Int32) x3 y1 M))) else (f_X3_longestWay_168 x1 M)))))
set_option maxRecDepth 100000 in
set_option maxHeartbeats 4000000 in
theorem o_X3_longestWay_66 {X : gX} : ∀ (n : Nat) (x1 : Int32) (x2 : Int32) (x3 : Int32) (M : gM), G Y1 jX3_longestWay X (g_fin g_ei) 66 [(0, .ref (ad X 47)), (1, .int x1), (2, .int x2), (3, .int x3)] [] M (f_X3_longestWay_66 n x1 x2 x3 M) := by
  intro n
  induction n with
  | zero => intro x1 x2 x3 M; exact G_none
  | succ n ih =>
    intro x1 x2 x3 M
    rw [f_X3_longestWay_66]
    refine G_iload_n 3 dX3_longestWay_66 rfl rfl ?_
    refine G_sipush (v := 2079) dX3_longestWay_67 (by decide) ?_
    refine G_icmp_gt (tgt := 168) dX3_longestWay_70 (by decide) ?_ ?_
    · exact G_sub [0, 1] rfl (o_X3_longestWay_168 x1 M)
    · refine G_iload_n 2 dX3_longestWay_73 rfl rfl ?_
      refine G_if_eq (tgt := 168) dX3_longestWay_74 (by decide) ?_ ?_
      · exact G_sub [0, 1] rfl (o_X3_longestWay_168 x1 M)
      · refine G_aload_n 0 dX3_longestWay_77 rfl rfl ?_
        refine G_get 12 clX3 (y1_47) fl_X3_30 dX3_longestWay_78 (by decide) rfl rfl ?_
        refine G_iload_n 1 dX3_longestWay_81 rfl rfl ?_
        refine G_iald (y1_54) dX3_longestWay_82 ?_
        refine G_iconst (v := (-1)) dX3_longestWay_83 (by decide) ?_
        refine G_icmp_ne (tgt := 168) dX3_longestWay_84 (by decide) ?_ ?_
        · exact G_sub [0, 1] rfl (o_X3_longestWay_168 x1 M)
        · refine G_iconst (v := 0) dX3_longestWay_87 (by decide) ?_
          refine G_istore_n (lv' := [(2, .int 0), (0, .ref (ad X 47)), (1, .int x1), (3, .int x3)]) dX3_longestWay_88 rfl (by decide) rfl ?_
          refine G_aload_n 1 dX3_longestWay_89 rfl rfl ?_
          refine G_get 7 clX3 (y1_47) fl_X3_70 dX3_longestWay_90 (by decide) rfl rfl ?_
          refine G_iconst (v := 1) dX3_longestWay_93 (by decide) ?_
          refine G_isub dX3_longestWay_94 ?_
          refine G_vi (fun y1 => ?_)
          refine G_istore (lv' := [(4, .int y1), (2, .int 0), (0, .ref (ad X 47)), (1, .int x1), (3, .int x3)]) dX3_longestWay_95 (by decide) rfl ?_
          exact G_sub [2, 3, 1, 4, 0] rfl (o_X3_longestWay_97 ih FU x1 (0 : Int32) x3 y1 M)
def f_X3_longestWay_13 : Nat → Int32 → Int32 → gM → Option (Int32 × gM)
  | 0, _, _, _ => none
  | n + 1, x1, x2, M => (if (M.1 47 7) ≤ x2 then (f_X3_longestWay_66 FU x1 (1 : Int32) (0 : Int32) M) else (g_ck x2 2079 (g_or 3 12 (M.2.2 27 0) (fun t6 => (g_ck x2 2079 (g_b (f_X4_isOver t6 (M.1 50 (tn x2)) M) (fun r8 M7 => (if r8 then (g_ck (M.1 50 (tn x2)) 2079 (g_m (sI M7 54 (tn (M.1 50 (tn x2))) (0 : Int32)) (fun M10 => (f_X3_longestWay_13 n x1 (x2 + 1) M10)))) else (g_ck (M.1 50 (tn x2)) 2079 (g_m (sI M7 54 (tn (M.1 50 (tn x2))) ((-1) : Int32)) (fun M9 => (f_X3_longestWay_13 n x1 (x2 + 1) M9))))))))))))
set_option maxRecDepth 100000 in
set_option maxHeartbeats 4000000 in
theorem o_X3_longestWay_13 {X : gX} : ∀ (n : Nat) (x1 : Int32) (x2 : Int32) (M : gM), G Y1 jX3_longestWay X (g_fin g_ei) 13 [(0, .ref (ad X 47)), (1, .int x1), (2, .int x2)] [] M (f_X3_longestWay_13 n x1 x2 M) := by
  intro n
  induction n with
  | zero => intro x1 x2 M; exact G_none
  | succ n ih =>
    intro x1 x2 M
    rw [f_X3_longestWay_13]
    refine G_iload_n 2 dX3_longestWay_13 rfl rfl ?_
    refine G_aload_n 0 dX3_longestWay_14 rfl rfl ?_
    refine G_get 7 clX3 (y1_47) fl_X3_70 dX3_longestWay_15 (by decide) rfl rfl ?_
    refine G_icmp_ge (tgt := 62) dX3_longestWay_18 (by decide) ?_ ?_
    · refine G_iconst (v := 1) dX3_longestWay_62 (by decide) ?_
      refine G_istore_n (lv' := [(2, .int 1), (0, .ref (ad X 47)), (1, .int x1)]) dX3_longestWay_63 rfl (by decide) rfl ?_
      refine G_iconst (v := 0) dX3_longestWay_64 (by decide) ?_
      refine G_istore_n (lv' := [(3, .int 0), (2, .int 1), (0, .ref (ad X 47)), (1, .int x1)]) dX3_longestWay_65 rfl (by decide) rfl ?_
      exact G_sub [2, 3, 1, 0] rfl (o_X3_longestWay_66 FU x1 (1 : Int32) (0 : Int32) M)
    · refine G_aload_n 0 dX3_longestWay_21 rfl rfl ?_
      refine G_get 12 clX3 (y1_47) fl_X3_30 dX3_longestWay_22 (by decide) rfl rfl ?_
      refine G_aload_n 0 dX3_longestWay_25 rfl rfl ?_
      refine G_get 8 clX3 (y1_47) fl_X3_18 dX3_longestWay_26 (by decide) rfl rfl ?_
      refine G_iload_n 2 dX3_longestWay_29 rfl rfl ?_
      refine G_iald (y1_50) dX3_longestWay_30 ?_
      refine G_aload_n 0 dX3_longestWay_31 rfl rfl ?_
      refine G_get 0 clX3 (y1_47) fl_X3_40 dX3_longestWay_32 (by decide) rfl rfl ?_
      refine G_getO 0 clX0 (y1_27) fl_X3_80 dX3_longestWay_35 (by decide) rfl (by decide) (fun t6 ht6 => ?_)
      refine G_aload_n 0 dX3_longestWay_38 rfl rfl ?_
      refine G_get 8 clX3 (y1_47) fl_X3_18 dX3_longestWay_39 (by decide) rfl rfl ?_
      refine G_iload_n 2 dX3_longestWay_42 rfl rfl ?_
      refine G_iald (y1_50) dX3_longestWay_43 ?_
      refine G_cVb (As := [.int (M.1 50 (tn x2))]) (rest := [.int (M.1 50 (tn x2)), .ref (ad X 54)]) (ok_X4_isOver ht6 (M.1 50 (tn x2)) M) rfl (ro_0 ht6) rfl mv_X3_84 dX3_longestWay_44 rfl rfl (Nat.le_of_ble_eq_true rfl) (g_fitN (by decide) (by decide)) (fun r8 M7 => ?_)
      refine G_ifB_eq (tgt := 54) dX3_longestWay_47 (by decide) ?_ ?_
      · refine G_iconst (v := (-1)) dX3_longestWay_54 (by decide) ?_
        refine G_iast (y1_54) dX3_longestWay_55 ?_
        refine G_m (fun M9 => ?_)
        refine G_iinc (v := x2 + 1) (lv' := [(2, .int (x2 + 1)), (0, .ref (ad X 47)), (1, .int x1)]) 2 dX3_longestWay_56 rfl rfl (by decide) rfl ?_
        refine G_goto (tgt := 13) dX3_longestWay_59 (by decide) ?_
        exact G_sub [1, 2, 0] rfl (ih x1 (x2 + 1) M9)
      · refine G_iconst (v := 0) dX3_longestWay_50 (by decide) ?_
        refine G_goto (tgt := 55) dX3_longestWay_51 (by decide) ?_
        refine G_iast (y1_54) dX3_longestWay_55 ?_
        refine G_m (fun M10 => ?_)
        refine G_iinc (v := x2 + 1) (lv' := [(2, .int (x2 + 1)), (0, .ref (ad X 47)), (1, .int x1)]) 2 dX3_longestWay_56 rfl rfl (by decide) rfl ?_
        refine G_goto (tgt := 13) dX3_longestWay_59 (by decide) ?_
        exact G_sub [1, 2, 0] rfl (ih x1 (x2 + 1) M10)
def f_X3_longestWay (a1 : Int32) (M : gM) : Option (Int32 × gM) := (if (M.1 47 5) = ((-1) : Int32) then (f_X3_longestWay_13 FU a1 (0 : Int32) M) else (some (((-2) : Int32), M)))
set_option maxRecDepth 100000 in
set_option maxHeartbeats 4000000 in
theorem ok_X3_longestWay (a1 : Int32) (M : gM) : g_met Y1 yX3_longestWay jX3_longestWay g_ei (fun Z => [.ref (Z.2.1 47), .int a1]) M (f_X3_longestWay a1 M) := by
  refine g_enter (fun Z => [(0, .ref (Z.2.1 47)), (1, .int a1)]) (by decide) rfl (fun Z => Nat.le_of_ble_eq_true rfl) (fun Z => rfl) (fun X => ?_)
  rw [f_X3_longestWay]
  refine G_aload_n 0 dX3_longestWay_0 rfl rfl ?_
  refine G_get 5 clX3 (y1_47) fl_X3_48 dX3_longestWay_1 (by decide) rfl rfl ?_
  refine G_iconst (v := (-1)) dX3_longestWay_4 (by decide) ?_
  refine G_icmp_eq (tgt := 11) dX3_longestWay_5 (by decide) ?_ ?_
  · refine G_iconst (v := 0) dX3_longestWay_11 (by decide) ?_
    refine G_istore_n (lv' := [(2, .int 0), (0, .ref (ad X 47)), (1, .int a1)]) dX3_longestWay_12 rfl (by decide) rfl ?_
    exact G_sub [1, 2, 0] rfl (o_X3_longestWay_13 FU a1 (0 : Int32) M)
  · refine G_bipush (v := (-2)) dX3_longestWay_8 (by decide) ?_
    exact G_iret rfl dX3_longestWay_10
-- J7_fill_d0a16
def f_J7_fill_d0a16_6 (a0 : Nat) (n0 : Nat) : Nat → Int64 → Int32 → Int32 → gM → Option (Unit × gM)
  | 0, _, _, _, _ => none
  | n + 1, x1, x3, x4, M => (if x4 ≤ x3 then (some ((), M)) else (g_ck x3 n0 (g_m (sL M a0 (tn x3) x1) (fun M2 => (f_J7_fill_d0a16_6 a0 n0 n x1 (x3 + 1) x4 M2)))))
set_option maxRecDepth 100000 in
set_option maxHeartbeats 4000000 in
theorem o_J7_fill_d0a16_6 {X : gX} {a0 : Nat} {n0 : Nat} (ha0 : Y1[a0]? = some (2, n0, [])) : ∀ (n : Nat) (x1 : Int64) (x3 : Int32) (x4 : Int32) (M : gM), G Y1 jJ7_fill_d0a16 X (g_fin g_ev) 6 [(0, .ref (ad X a0)), (1, .long x1), (3, .int x3), (4, .int x4)] [] M (f_J7_fill_d0a16_6 a0 n0 n x1 x3 x4 M) := by
  intro n
  induction n with
  | zero => intro x1 x3 x4 M; exact G_none
  | succ n ih =>
    intro x1 x3 x4 M
    rw [f_J7_fill_d0a16_6]
    refine G_iload_n 2 dJ7_fill_d0a16_6 rfl rfl ?_
    refine G_iload 3 dJ7_fill_d0a16_7 rfl ?_
    refine G_icmp_ge (tgt := 22) dJ7_fill_d0a16_9 (by decide) ?_ ?_
    · exact G_vret rfl dJ7_fill_d0a16_22
    · refine G_aload_n 0 dJ7_fill_d0a16_12 rfl rfl ?_
      refine G_iload_n 2 dJ7_fill_d0a16_13 rfl rfl ?_
      refine G_lload_n 1 dJ7_fill_d0a16_14 rfl rfl ?_
      refine G_last (ha0) dJ7_fill_d0a16_15 ?_
      refine G_m (fun M2 => ?_)
      refine G_iinc (v := x3 + 1) (lv' := [(3, .int (x3 + 1)), (0, .ref (ad X a0)), (1, .long x1), (4, .int x4)]) 2 dJ7_fill_d0a16_16 rfl rfl (by decide) rfl ?_
      refine G_goto (tgt := 6) dJ7_fill_d0a16_19 (by decide) ?_
      exact G_sub [1, 2, 0, 3] rfl (ih x1 (x3 + 1) x4 M2)
def f_J7_fill_d0a16 (a0 : Nat) (n0 : Nat) (a1 : Int64) (M : gM) : Option (Unit × gM) := (g_v (Int32.ofNat n0) (fun y1 => (f_J7_fill_d0a16_6 a0 n0 FU a1 (0 : Int32) y1 M)))
set_option maxRecDepth 100000 in
set_option maxHeartbeats 4000000 in
theorem ok_J7_fill_d0a16 {a0 : Nat} {n0 : Nat} (ha0 : Y1[a0]? = some (2, n0, [])) (a1 : Int64) (M : gM) : g_met Y1 yJ7_fill_d0a16 jJ7_fill_d0a16 g_ev (fun Z => [.ref (Z.2.1 a0), .long a1]) M (f_J7_fill_d0a16 a0 n0 a1 M) := by
  refine g_enter (fun Z => [(0, .ref (Z.2.1 a0)), (1, .long a1)]) (by decide) rfl (fun Z => Nat.le_of_ble_eq_true rfl) (fun Z => rfl) (fun X => ?_)
  rw [f_J7_fill_d0a16]
  refine G_iconst (v := 0) dJ7_fill_d0a16_0 (by decide) ?_
  refine G_istore_n (lv' := [(3, .int 0), (0, .ref (ad X a0)), (1, .long a1)]) dJ7_fill_d0a16_1 rfl (by decide) rfl ?_
  refine G_aload_n 1 dJ7_fill_d0a16_2 rfl rfl ?_
  refine G_alenL (v := Int32.ofNat n0) (ha0) rfl dJ7_fill_d0a16_3 ?_
  refine G_vi (fun y1 => ?_)
  refine G_istore (lv' := [(4, .int y1), (3, .int 0), (0, .ref (ad X a0)), (1, .long a1)]) dJ7_fill_d0a16_4 (by decide) rfl ?_
  exact G_sub [2, 3, 1, 0] rfl (o_J7_fill_d0a16_6 ha0 FU a1 (0 : Int32) y1 M)
-- X3_spread
def f_X3_spread_19 : Nat → Int32 → Int64 → Int32 → Int32 → gM → Option (Int64 × gM)
  | 0, _, _, _, _, _ => none
  | n + 1, x1, x2, x4, x5, M => (g_b (f_X0_greatest x1 M) (fun r6 M5 => (if r6 < x5 then (some (x2, M5)) else (g_b (f_X3_behind x1 x4 x5 M5) (fun r8 M7 => (if 0 ≤ r8 then (g_ck r8 2079 (g_ck x1 2079 (g_ck r8 2079 (g_m (sL M7 56 (tn r8) ((M7.2.1 56 (tn r8)) + (M7.2.1 55 (tn x1)))) (fun M9 => (f_X3_spread_19 n x1 x2 x4 (x5 + 1) M9)))))) else (g_ck x1 2079 (g_v (x2 + (M7.2.1 55 (tn x1))) (fun y10 => (f_X3_spread_19 n x1 y10 x4 (x5 + 1) M7))))))))))
set_option maxRecDepth 100000 in
set_option maxHeartbeats 4000000 in
theorem o_X3_spread_19 {X : gX} : ∀ (n : Nat) (x1 : Int32) (x2 : Int64) (x4 : Int32) (x5 : Int32) (M : gM), G Y1 jX3_spread X (g_fin g_el) 19 [(0, .ref (ad X 47)), (1, .int x1), (2, .long x2), (4, .int x4), (5, .int x5)] [] M (f_X3_spread_19 n x1 x2 x4 x5 M) := by
  intro n
  induction n with
  | zero => intro x1 x2 x4 x5 M; exact G_none
  | succ n ih =>
    intro x1 x2 x4 x5 M
    rw [f_X3_spread_19]
    refine G_iload 4 dX3_spread_19 rfl ?_
    refine G_aload_n 0 dX3_spread_21 rfl rfl ?_
    refine G_get 0 clX3 (y1_47) fl_X3_40 dX3_spread_22 (by decide) rfl rfl ?_
    refine G_iload_n 1 dX3_spread_25 rfl rfl ?_
    refine G_cVi (As := [.int x1]) (rest := [.int x5]) (ok_X0_greatest x1 M) rfl (y1_27) rfl mv_X3_90 dX3_spread_26 rfl rfl (Nat.le_of_ble_eq_true rfl) (g_fitN (by decide) (by decide)) (fun r6 M5 => ?_)
    refine G_icmp_gt (tgt := 82) dX3_spread_29 (by decide) ?_ ?_
    · refine G_lload_n 2 dX3_spread_82 rfl rfl ?_
      exact G_lret rfl dX3_spread_83
    · refine G_aload_n 0 dX3_spread_32 rfl rfl ?_
      refine G_iload_n 1 dX3_spread_33 rfl rfl ?_
      refine G_iload 3 dX3_spread_34 rfl ?_
      refine G_iload 4 dX3_spread_36 rfl ?_
      refine G_cVi (As := [.int x1, .int x4, .int x5]) (rest := []) (ok_X3_behind x1 x4 x5 M5) rfl (y1_47) rfl mv_X3_96 dX3_spread_38 rfl rfl (Nat.le_of_ble_eq_true rfl) (g_fitN (by decide) (by decide)) (fun r8 M7 => ?_)
      refine G_istore (lv' := [(6, .int r8), (0, .ref (ad X 47)), (1, .int x1), (2, .long x2), (4, .int x4), (5, .int x5)]) dX3_spread_41 (by decide) rfl ?_
      refine G_iload 0 dX3_spread_43 rfl ?_
      refine G_if_ge (tgt := 60) dX3_spread_45 (by decide) ?_ ?_
      · refine G_aload_n 1 dX3_spread_60 rfl rfl ?_
        refine G_get 14 clX3 (y1_47) fl_X3_37 dX3_spread_61 (by decide) rfl rfl ?_
        refine G_iload 0 dX3_spread_64 rfl ?_
        refine G_dup2 dX3_spread_66 rfl rfl ?_
        refine G_lald (y1_56) dX3_spread_67 ?_
        refine G_aload_n 1 dX3_spread_68 rfl rfl ?_
        refine G_get 13 clX3 (y1_47) fl_X3_33 dX3_spread_69 (by decide) rfl rfl ?_
        refine G_iload_n 2 dX3_spread_72 rfl rfl ?_
        refine G_lald (y1_55) dX3_spread_73 ?_
        refine G_ladd dX3_spread_74 ?_
        refine G_last (y1_56) dX3_spread_75 ?_
        refine G_m (fun M9 => ?_)
        refine G_iinc (v := x5 + 1) (lv' := [(5, .int (x5 + 1)), (6, .int r8), (0, .ref (ad X 47)), (1, .int x1), (2, .long x2), (4, .int x4)]) 5 dX3_spread_76 rfl rfl (by decide) rfl ?_
        refine G_goto (tgt := 19) dX3_spread_79 (by decide) ?_
        exact G_sub [2, 3, 4, 5, 0] rfl (ih x1 x2 x4 (x5 + 1) M9)
      · refine G_lload_n 3 dX3_spread_48 rfl rfl ?_
        refine G_aload_n 1 dX3_spread_49 rfl rfl ?_
        refine G_get 13 clX3 (y1_47) fl_X3_33 dX3_spread_50 (by decide) rfl rfl ?_
        refine G_iload_n 2 dX3_spread_53 rfl rfl ?_
        refine G_lald (y1_55) dX3_spread_54 ?_
        refine G_ladd dX3_spread_55 ?_
        refine G_vl (fun y10 => ?_)
        refine G_lstore_n (lv' := [(2, .long y10), (6, .int r8), (0, .ref (ad X 47)), (1, .int x1), (4, .int x4), (5, .int x5)]) dX3_spread_56 rfl (by decide) rfl ?_
        refine G_goto (tgt := 76) dX3_spread_57 (by decide) ?_
        refine G_iinc (v := x5 + 1) (lv' := [(5, .int (x5 + 1)), (2, .long y10), (6, .int r8), (0, .ref (ad X 47)), (1, .int x1), (4, .int x4)]) 5 dX3_spread_76 rfl rfl (by decide) rfl ?_
        refine G_goto (tgt := 19) dX3_spread_79 (by decide) ?_
        exact G_sub [3, 4, 1, 5, 0] rfl (ih x1 y10 x4 (x5 + 1) M7)
def f_X3_spread (a1 : Int32) (M : gM) : Option (Int64 × gM) := (g_b (f_X3_actIn a1 M) (fun r2 M1 => (g_b (f_X0_least a1 M1) (fun r4 M3 => (f_X3_spread_19 FU a1 (0 : Int64) r2 r4 M3)))))
set_option maxRecDepth 100000 in
set_option maxHeartbeats 4000000 in
theorem ok_X3_spread (a1 : Int32) (M : gM) : g_met Y1 yX3_spread jX3_spread g_el (fun Z => [.ref (Z.2.1 47), .int a1]) M (f_X3_spread a1 M) := by
  refine g_enter (fun Z => [(0, .ref (Z.2.1 47)), (1, .int a1)]) (by decide) rfl (fun Z => Nat.le_of_ble_eq_true rfl) (fun Z => rfl) (fun X => ?_)
  rw [f_X3_spread]
  refine G_lconst (v := 0) dX3_spread_0 (by decide) ?_
  refine G_lstore_n (lv' := [(2, .long 0), (0, .ref (ad X 47)), (1, .int a1)]) dX3_spread_1 rfl (by decide) rfl ?_
  refine G_aload_n 1 dX3_spread_2 rfl rfl ?_
  refine G_iload_n 2 dX3_spread_3 rfl rfl ?_
  refine G_cVi (As := [.int a1]) (rest := []) (ok_X3_actIn a1 M) rfl (y1_47) rfl mv_X3_77 dX3_spread_4 rfl rfl (Nat.le_of_ble_eq_true rfl) (g_fitN (by decide) (by decide)) (fun r2 M1 => ?_)
  refine G_istore (lv' := [(4, .int r2), (2, .long 0), (0, .ref (ad X 47)), (1, .int a1)]) dX3_spread_7 (by decide) rfl ?_
  refine G_aload_n 2 dX3_spread_9 rfl rfl ?_
  refine G_get 0 clX3 (y1_47) fl_X3_40 dX3_spread_10 (by decide) rfl rfl ?_
  refine G_iload_n 3 dX3_spread_13 rfl rfl ?_
  refine G_cVi (As := [.int a1]) (rest := []) (ok_X0_least a1 M1) rfl (y1_27) rfl mv_X3_93 dX3_spread_14 rfl rfl (Nat.le_of_ble_eq_true rfl) (g_fitN (by decide) (by decide)) (fun r4 M3 => ?_)
  refine G_istore (lv' := [(5, .int r4), (4, .int r2), (2, .long 0), (0, .ref (ad X 47)), (1, .int a1)]) dX3_spread_17 (by decide) rfl ?_
  exact G_sub [3, 4, 2, 1, 0] rfl (o_X3_spread_19 FU a1 (0 : Int64) r2 r4 M3)
-- X3_countRows
def f_X3_countRows_191 (k163 : Int32 → Int32 → Int64 → Int64 → Int64 → Int32 → gM → Option (Int64 × gM)) (x3 : Int32) (x4 : Int32) (x5 : Int64) (x9 : Int64) (x11 : Int32) (s0 : Int64) (s1 : Int64) (M : gM) : Option (Int64 × gM) := (g_v (s0 + s1) (fun y8 => (if x4 ≤ x11 then (g_v (x9 + (0 : Int64)) (fun y9 => (k163 x3 x4 x5 y8 y9 (x11 + 1) M))) else (g_ck x11 2079 (g_v (x9 + (M.2.1 55 (tn x11))) (fun y10 => (k163 x3 x4 x5 y8 y10 (x11 + 1) M)))))))
set_option maxRecDepth 100000 in
set_option maxHeartbeats 4000000 in
theorem o_X3_countRows_191 {X : gX} {k163 : Int32 → Int32 → Int64 → Int64 → Int64 → Int32 → gM → Option (Int64 × gM)} (hk163 : ∀ (x3 : Int32) (x4 : Int32) (x5 : Int64) (x7 : Int64) (x9 : Int64) (x11 : Int32) (M : gM), G Y1 jX3_countRows X (g_fin g_el) 163 [(0, .ref (ad X 47)), (3, .int x3), (4, .int x4), (5, .long x5), (7, .long x7), (9, .long x9), (11, .int x11)] [] M (k163 x3 x4 x5 x7 x9 x11 M)) (x3 : Int32) (x4 : Int32) (x5 : Int64) (x9 : Int64) (x11 : Int32) (s0 : Int64) (s1 : Int64) (M : gM) : G Y1 jX3_countRows X (g_fin g_el) 191 [(0, .ref (ad X 47)), (3, .int x3), (4, .int x4), (5, .long x5), (9, .long x9), (11, .int x11)] [.long s1, .long s0] M (f_X3_countRows_191 k163 x3 x4 x5 x9 x11 s0 s1 M) := by
  rw [f_X3_countRows_191]
  refine G_ladd dX3_countRows_191 ?_
  refine G_vl (fun y8 => ?_)
  refine G_lstore (lv' := [(7, .long y8), (0, .ref (ad X 47)), (3, .int x3), (4, .int x4), (5, .long x5), (9, .long x9), (11, .int x11)]) dX3_countRows_192 (by decide) rfl ?_
  refine G_lload 5 dX3_countRows_194 rfl ?_
  refine G_iload 6 dX3_countRows_196 rfl ?_
  refine G_iload 3 dX3_countRows_198 rfl ?_
  refine G_icmp_ge (tgt := 213) dX3_countRows_200 (by decide) ?_ ?_
  · refine G_lconst (v := 0) dX3_countRows_213 (by decide) ?_
    refine G_ladd dX3_countRows_214 ?_
    refine G_vl (fun y9 => ?_)
    refine G_lstore (lv' := [(9, .long y9), (7, .long y8), (0, .ref (ad X 47)), (3, .int x3), (4, .int x4), (5, .long x5), (11, .int x11)]) dX3_countRows_215 (by decide) rfl ?_
    refine G_iinc (v := x11 + 1) (lv' := [(11, .int (x11 + 1)), (9, .long y9), (7, .long y8), (0, .ref (ad X 47)), (3, .int x3), (4, .int x4), (5, .long x5)]) 6 dX3_countRows_217 rfl rfl (by decide) rfl ?_
    refine G_goto (tgt := 163) dX3_countRows_220 (by decide) ?_
    exact G_sub [3, 4, 5, 6, 2, 1, 0] rfl (hk163 x3 x4 x5 y8 y9 (x11 + 1) M)
  · refine G_aload_n 1 dX3_countRows_203 rfl rfl ?_
    refine G_get 13 clX3 (y1_47) fl_X3_33 dX3_countRows_204 (by decide) rfl rfl ?_
    refine G_iload 6 dX3_countRows_207 rfl ?_
    refine G_lald (y1_55) dX3_countRows_209 ?_
    refine G_goto (tgt := 214) dX3_countRows_210 (by decide) ?_
    refine G_ladd dX3_countRows_214 ?_
    refine G_vl (fun y10 => ?_)
    refine G_lstore (lv' := [(9, .long y10), (7, .long y8), (0, .ref (ad X 47)), (3, .int x3), (4, .int x4), (5, .long x5), (11, .int x11)]) dX3_countRows_215 (by decide) rfl ?_
    refine G_iinc (v := x11 + 1) (lv' := [(11, .int (x11 + 1)), (9, .long y10), (7, .long y8), (0, .ref (ad X 47)), (3, .int x3), (4, .int x4), (5, .long x5)]) 6 dX3_countRows_217 rfl rfl (by decide) rfl ?_
    refine G_goto (tgt := 163) dX3_countRows_220 (by decide) ?_
    exact G_sub [3, 4, 5, 6, 2, 1, 0] rfl (hk163 x3 x4 x5 y8 y10 (x11 + 1) M)
def f_X3_countRows_163 : Nat → Int32 → Int32 → Int64 → Int64 → Int64 → Int32 → gM → Option (Int64 × gM)
  | 0, _, _, _, _, _, _, _ => none
  | n + 1, x3, x4, x5, x7, x9, x11, M => (if (2079 : Int32) ≤ x11 then (if x3 = 0 then (some (x5, M)) else (if x3 = (1 : Int32) then (some (x7, M)) else (some (((x5 + x7) + x9), M)))) else (if x11 < x4 then (f_X3_countRows_191 (f_X3_countRows_163 n) x3 x4 x5 x9 x11 x7 (0 : Int64) M) else (g_ck x11 2079 (f_X3_countRows_191 (f_X3_countRows_163 n) x3 x4 x5 x9 x11 x7 (M.2.1 55 (tn x11)) M))))
set_option maxRecDepth 100000 in
set_option maxHeartbeats 4000000 in
theorem o_X3_countRows_163 {X : gX} : ∀ (n : Nat) (x3 : Int32) (x4 : Int32) (x5 : Int64) (x7 : Int64) (x9 : Int64) (x11 : Int32) (M : gM), G Y1 jX3_countRows X (g_fin g_el) 163 [(0, .ref (ad X 47)), (3, .int x3), (4, .int x4), (5, .long x5), (7, .long x7), (9, .long x9), (11, .int x11)] [] M (f_X3_countRows_163 n x3 x4 x5 x7 x9 x11 M) := by
  intro n
  induction n with
  | zero => intro x3 x4 x5 x7 x9 x11 M; exact G_none
  | succ n ih =>
    intro x3 x4 x5 x7 x9 x11 M
    rw [f_X3_countRows_163]
    refine G_iload 6 dX3_countRows_163 rfl ?_
    refine G_sipush (v := 2079) dX3_countRows_165 (by decide) ?_
    refine G_icmp_ge (tgt := 223) dX3_countRows_168 (by decide) ?_ ?_
    · refine G_iload_n 1 dX3_countRows_223 rfl rfl ?_
      refine G_if_ne (tgt := 232) dX3_countRows_224 (by decide) ?_ ?_
      · refine G_iload_n 1 dX3_countRows_232 rfl rfl ?_
        refine G_iconst (v := 1) dX3_countRows_233 (by decide) ?_
        refine G_icmp_ne (tgt := 242) dX3_countRows_234 (by decide) ?_ ?_
        · refine G_lload 3 dX3_countRows_242 rfl ?_
          refine G_lload 4 dX3_countRows_244 rfl ?_
          refine G_ladd dX3_countRows_246 ?_
          refine G_lload 5 dX3_countRows_247 rfl ?_
          refine G_ladd dX3_countRows_249 ?_
          exact G_lret rfl dX3_countRows_250
        · refine G_lload 4 dX3_countRows_237 rfl ?_
          refine G_goto (tgt := 250) dX3_countRows_239 (by decide) ?_
          exact G_lret rfl dX3_countRows_250
      · refine G_lload 3 dX3_countRows_227 rfl ?_
        refine G_goto (tgt := 250) dX3_countRows_229 (by decide) ?_
        exact G_lret rfl dX3_countRows_250
    · refine G_lload 4 dX3_countRows_171 rfl ?_
      refine G_iload 6 dX3_countRows_173 rfl ?_
      refine G_iload 2 dX3_countRows_175 rfl ?_
      refine G_icmp_lt (tgt := 190) dX3_countRows_177 (by decide) ?_ ?_
      · refine G_lconst (v := 0) dX3_countRows_190 (by decide) ?_
        exact G_sub [0, 1, 2, 3, 5, 6] rfl (o_X3_countRows_191 ih x3 x4 x5 x9 x11 x7 (0 : Int64) M)
      · refine G_aload_n 0 dX3_countRows_180 rfl rfl ?_
        refine G_get 13 clX3 (y1_47) fl_X3_33 dX3_countRows_181 (by decide) rfl rfl ?_
        refine G_iload 6 dX3_countRows_184 rfl ?_
        refine G_lald (y1_55) dX3_countRows_186 ?_
        refine G_goto (tgt := 191) dX3_countRows_187 (by decide) ?_
        exact G_sub [0, 1, 2, 3, 5, 6] rfl (o_X3_countRows_191 ih x3 x4 x5 x9 x11 x7 (M.2.1 55 (tn x11)) M)
def f_X3_countRows_109 (k45 : Int32 → Int32 → Int32 → Int64 → Int32 → gM → Option (Int64 × gM)) : Nat → Int32 → Int32 → Int32 → Int64 → Int32 → Int32 → gM → Option (Int64 × gM)
  | 0, _, _, _, _, _, _, _ => none
  | n + 1, x2, x3, x4, x5, x7, x8, M => (if (2079 : Int32) ≤ x8 then (k45 x2 x3 x4 x5 (x7 + 1) M) else (g_ck x8 2079 (g_ck x8 2079 (g_ck x8 2079 (g_m (sL M 55 (tn x8) ((M.2.1 55 (tn x8)) + (M.2.1 56 (tn x8)))) (fun M11 => (g_ck x8 2079 (g_m (sL M11 56 (tn x8) (0 : Int64)) (fun M12 => (f_X3_countRows_109 k45 n x2 x3 x4 x5 x7 (x8 + 1) M12))))))))))
set_option maxRecDepth 100000 in
set_option maxHeartbeats 4000000 in
theorem o_X3_countRows_109 {X : gX} {k45 : Int32 → Int32 → Int32 → Int64 → Int32 → gM → Option (Int64 × gM)} (hk45 : ∀ (x2 : Int32) (x3 : Int32) (x4 : Int32) (x5 : Int64) (x7 : Int32) (M : gM), G Y1 jX3_countRows X (g_fin g_el) 45 [(0, .ref (ad X 47)), (2, .int x2), (3, .int x3), (4, .int x4), (5, .long x5), (7, .int x7)] [] M (k45 x2 x3 x4 x5 x7 M)) : ∀ (n : Nat) (x2 : Int32) (x3 : Int32) (x4 : Int32) (x5 : Int64) (x7 : Int32) (x8 : Int32) (M : gM), G Y1 jX3_countRows X (g_fin g_el) 109 [(0, .ref (ad X 47)), (2, .int x2), (3, .int x3), (4, .int x4), (5, .long x5), (7, .int x7), (8, .int x8)] [] M (f_X3_countRows_109 k45 n x2 x3 x4 x5 x7 x8 M) := by
  intro n
  induction n with
  | zero => intro x2 x3 x4 x5 x7 x8 M; exact G_none
  | succ n ih =>
    intro x2 x3 x4 x5 x7 x8 M
    rw [f_X3_countRows_109]
    refine G_iload 6 dX3_countRows_109 rfl ?_
    refine G_sipush (v := 2079) dX3_countRows_111 (by decide) ?_
    refine G_icmp_ge (tgt := 148) dX3_countRows_114 (by decide) ?_ ?_
    · refine G_iinc (v := x7 + 1) (lv' := [(7, .int (x7 + 1)), (0, .ref (ad X 47)), (2, .int x2), (3, .int x3), (4, .int x4), (5, .long x5), (8, .int x8)]) 5 dX3_countRows_148 rfl rfl (by decide) rfl ?_
      refine G_goto (tgt := 45) dX3_countRows_151 (by decide) ?_
      exact G_sub [1, 2, 3, 4, 5, 0] rfl (hk45 x2 x3 x4 x5 (x7 + 1) M)
    · refine G_aload_n 0 dX3_countRows_117 rfl rfl ?_
      refine G_get 13 clX3 (y1_47) fl_X3_33 dX3_countRows_118 (by decide) rfl rfl ?_
      refine G_iload 6 dX3_countRows_121 rfl ?_
      refine G_dup2 dX3_countRows_123 rfl rfl ?_
      refine G_lald (y1_55) dX3_countRows_124 ?_
      refine G_aload_n 0 dX3_countRows_125 rfl rfl ?_
      refine G_get 14 clX3 (y1_47) fl_X3_37 dX3_countRows_126 (by decide) rfl rfl ?_
      refine G_iload 6 dX3_countRows_129 rfl ?_
      refine G_lald (y1_56) dX3_countRows_131 ?_
      refine G_ladd dX3_countRows_132 ?_
      refine G_last (y1_55) dX3_countRows_133 ?_
      refine G_m (fun M11 => ?_)
      refine G_aload_n 0 dX3_countRows_134 rfl rfl ?_
      refine G_get 14 clX3 (y1_47) fl_X3_37 dX3_countRows_135 (by decide) rfl rfl ?_
      refine G_iload 6 dX3_countRows_138 rfl ?_
      refine G_lconst (v := 0) dX3_countRows_140 (by decide) ?_
      refine G_last (y1_56) dX3_countRows_141 ?_
      refine G_m (fun M12 => ?_)
      refine G_iinc (v := x8 + 1) (lv' := [(8, .int (x8 + 1)), (0, .ref (ad X 47)), (2, .int x2), (3, .int x3), (4, .int x4), (5, .long x5), (7, .int x7)]) 6 dX3_countRows_142 rfl rfl (by decide) rfl ?_
      refine G_goto (tgt := 109) dX3_countRows_145 (by decide) ?_
      exact G_sub [1, 2, 3, 4, 5, 6, 0] rfl (ih x2 x3 x4 x5 x7 (x8 + 1) M12)
def f_X3_countRows_54 (k45 : Int32 → Int32 → Int32 → Int64 → Int32 → gM → Option (Int64 × gM)) : Nat → Int32 → Int32 → Int32 → Int64 → Int32 → Int32 → gM → Option (Int64 × gM)
  | 0, _, _, _, _, _, _, _ => none
  | n + 1, x2, x3, x4, x5, x7, x8, M => (if x4 ≤ x8 then (f_X3_countRows_109 k45 FU x2 x3 x4 x5 x7 (0 : Int32) M) else (if (2079 : Int32) ≤ x8 then (f_X3_countRows_109 k45 FU x2 x3 x4 x5 x7 (0 : Int32) M) else (g_ck x8 2079 (if (lg_cmp (M.2.1 55 (tn x8)) (0 : Int64)) = 0 then (f_X3_countRows_54 k45 n x2 x3 x4 x5 x7 (x8 + 1) M) else (g_b (f_X3_spread x8 M) (fun r14 M13 => (g_v (x5 + r14) (fun y15 => (g_ck x8 2079 (g_m (sL M13 55 (tn x8) (0 : Int64)) (fun M16 => (f_X3_countRows_54 k45 n x2 x3 x4 y15 x7 (x8 + 1) M16))))))))))))
set_option maxRecDepth 100000 in
set_option maxHeartbeats 4000000 in
theorem o_X3_countRows_54 {X : gX} {k45 : Int32 → Int32 → Int32 → Int64 → Int32 → gM → Option (Int64 × gM)} (hk45 : ∀ (x2 : Int32) (x3 : Int32) (x4 : Int32) (x5 : Int64) (x7 : Int32) (M : gM), G Y1 jX3_countRows X (g_fin g_el) 45 [(0, .ref (ad X 47)), (2, .int x2), (3, .int x3), (4, .int x4), (5, .long x5), (7, .int x7)] [] M (k45 x2 x3 x4 x5 x7 M)) : ∀ (n : Nat) (x2 : Int32) (x3 : Int32) (x4 : Int32) (x5 : Int64) (x7 : Int32) (x8 : Int32) (M : gM), G Y1 jX3_countRows X (g_fin g_el) 54 [(0, .ref (ad X 47)), (2, .int x2), (3, .int x3), (4, .int x4), (5, .long x5), (7, .int x7), (8, .int x8)] [] M (f_X3_countRows_54 k45 n x2 x3 x4 x5 x7 x8 M) := by
  intro n
  induction n with
  | zero => intro x2 x3 x4 x5 x7 x8 M; exact G_none
  | succ n ih =>
    intro x2 x3 x4 x5 x7 x8 M
    rw [f_X3_countRows_54]
    refine G_iload 6 dX3_countRows_54 rfl ?_
    refine G_iload 3 dX3_countRows_56 rfl ?_
    refine G_icmp_ge (tgt := 106) dX3_countRows_58 (by decide) ?_ ?_
    · refine G_iconst (v := 0) dX3_countRows_106 (by decide) ?_
      refine G_istore (lv' := [(8, .int 0), (0, .ref (ad X 47)), (2, .int x2), (3, .int x3), (4, .int x4), (5, .long x5), (7, .int x7)]) dX3_countRows_107 (by decide) rfl ?_
      exact G_sub [1, 2, 3, 4, 5, 6, 0] rfl (o_X3_countRows_109 hk45 FU x2 x3 x4 x5 x7 (0 : Int32) M)
    · refine G_iload 6 dX3_countRows_61 rfl ?_
      refine G_sipush (v := 2079) dX3_countRows_63 (by decide) ?_
      refine G_icmp_ge (tgt := 106) dX3_countRows_66 (by decide) ?_ ?_
      · refine G_iconst (v := 0) dX3_countRows_106 (by decide) ?_
        refine G_istore (lv' := [(8, .int 0), (0, .ref (ad X 47)), (2, .int x2), (3, .int x3), (4, .int x4), (5, .long x5), (7, .int x7)]) dX3_countRows_107 (by decide) rfl ?_
        exact G_sub [1, 2, 3, 4, 5, 6, 0] rfl (o_X3_countRows_109 hk45 FU x2 x3 x4 x5 x7 (0 : Int32) M)
      · refine G_aload_n 0 dX3_countRows_69 rfl rfl ?_
        refine G_get 13 clX3 (y1_47) fl_X3_33 dX3_countRows_70 (by decide) rfl rfl ?_
        refine G_iload 6 dX3_countRows_73 rfl ?_
        refine G_lald (y1_55) dX3_countRows_75 ?_
        refine G_lconst (v := 0) dX3_countRows_76 (by decide) ?_
        refine G_lcmp dX3_countRows_77 ?_
        refine G_if_eq (tgt := 100) dX3_countRows_78 (by decide) ?_ ?_
        · refine G_iinc (v := x8 + 1) (lv' := [(8, .int (x8 + 1)), (0, .ref (ad X 47)), (2, .int x2), (3, .int x3), (4, .int x4), (5, .long x5), (7, .int x7)]) 6 dX3_countRows_100 rfl rfl (by decide) rfl ?_
          refine G_goto (tgt := 54) dX3_countRows_103 (by decide) ?_
          exact G_sub [1, 2, 3, 4, 5, 6, 0] rfl (ih x2 x3 x4 x5 x7 (x8 + 1) M)
        · refine G_lload 4 dX3_countRows_81 rfl ?_
          refine G_aload_n 0 dX3_countRows_83 rfl rfl ?_
          refine G_iload 6 dX3_countRows_84 rfl ?_
          refine G_cVl (As := [.int x8]) (rest := [.long x5]) (ok_X3_spread x8 M) rfl (y1_47) rfl mv_X3_115 dX3_countRows_86 rfl rfl (Nat.le_of_ble_eq_true rfl) (g_fitN (by decide) (by decide)) (fun r14 M13 => ?_)
          refine G_ladd dX3_countRows_89 ?_
          refine G_vl (fun y15 => ?_)
          refine G_lstore (lv' := [(5, .long y15), (0, .ref (ad X 47)), (2, .int x2), (3, .int x3), (4, .int x4), (7, .int x7), (8, .int x8)]) dX3_countRows_90 (by decide) rfl ?_
          refine G_aload_n 1 dX3_countRows_92 rfl rfl ?_
          refine G_get 13 clX3 (y1_47) fl_X3_33 dX3_countRows_93 (by decide) rfl rfl ?_
          refine G_iload 6 dX3_countRows_96 rfl ?_
          refine G_lconst (v := 0) dX3_countRows_98 (by decide) ?_
          refine G_last (y1_55) dX3_countRows_99 ?_
          refine G_m (fun M16 => ?_)
          refine G_iinc (v := x8 + 1) (lv' := [(8, .int (x8 + 1)), (5, .long y15), (0, .ref (ad X 47)), (2, .int x2), (3, .int x3), (4, .int x4), (7, .int x7)]) 6 dX3_countRows_100 rfl rfl (by decide) rfl ?_
          refine G_goto (tgt := 54) dX3_countRows_103 (by decide) ?_
          exact G_sub [2, 3, 4, 5, 1, 6, 0] rfl (ih x2 x3 x4 y15 x7 (x8 + 1) M16)
def f_X3_countRows_45 : Nat → Int32 → Int32 → Int32 → Int64 → Int32 → gM → Option (Int64 × gM)
  | 0, _, _, _, _, _, _ => none
  | n + 1, x2, x3, x4, x5, x7, M => (if x2 ≤ x7 then (f_X3_countRows_163 FU x3 x4 x5 (0 : Int64) (0 : Int64) (0 : Int32) M) else (f_X3_countRows_54 (f_X3_countRows_45 n) FU x2 x3 x4 x5 x7 (0 : Int32) M))
set_option maxRecDepth 100000 in
set_option maxHeartbeats 4000000 in
theorem o_X3_countRows_45 {X : gX} : ∀ (n : Nat) (x2 : Int32) (x3 : Int32) (x4 : Int32) (x5 : Int64) (x7 : Int32) (M : gM), G Y1 jX3_countRows X (g_fin g_el) 45 [(0, .ref (ad X 47)), (2, .int x2), (3, .int x3), (4, .int x4), (5, .long x5), (7, .int x7)] [] M (f_X3_countRows_45 n x2 x3 x4 x5 x7 M) := by
  intro n
  induction n with
  | zero => intro x2 x3 x4 x5 x7 M; exact G_none
  | succ n ih =>
    intro x2 x3 x4 x5 x7 M
    rw [f_X3_countRows_45]
    refine G_iload 5 dX3_countRows_45 rfl ?_
    refine G_iload_n 1 dX3_countRows_47 rfl rfl ?_
    refine G_icmp_ge (tgt := 154) dX3_countRows_48 (by decide) ?_ ?_
    · refine G_lconst (v := 0) dX3_countRows_154 (by decide) ?_
      refine G_lstore (lv' := [(7, .long 0), (0, .ref (ad X 47)), (2, .int x2), (3, .int x3), (4, .int x4), (5, .long x5)]) dX3_countRows_155 (by decide) rfl ?_
      refine G_lconst (v := 0) dX3_countRows_157 (by decide) ?_
      refine G_lstore (lv' := [(9, .long 0), (7, .long 0), (0, .ref (ad X 47)), (2, .int x2), (3, .int x3), (4, .int x4), (5, .long x5)]) dX3_countRows_158 (by decide) rfl ?_
      refine G_iconst (v := 0) dX3_countRows_160 (by decide) ?_
      refine G_istore (lv' := [(11, .int 0), (9, .long 0), (7, .long 0), (0, .ref (ad X 47)), (2, .int x2), (3, .int x3), (4, .int x4), (5, .long x5)]) dX3_countRows_161 (by decide) rfl ?_
      exact G_sub [3, 5, 6, 7, 2, 1, 0] rfl (o_X3_countRows_163 FU x3 x4 x5 (0 : Int64) (0 : Int64) (0 : Int32) M)
    · refine G_iconst (v := 0) dX3_countRows_51 (by decide) ?_
      refine G_istore (lv' := [(8, .int 0), (0, .ref (ad X 47)), (2, .int x2), (3, .int x3), (4, .int x4), (5, .long x5), (7, .int x7)]) dX3_countRows_52 (by decide) rfl ?_
      exact G_sub [1, 2, 3, 4, 5, 6, 0] rfl (o_X3_countRows_54 ih FU x2 x3 x4 x5 x7 (0 : Int32) M)
def f_X3_countRows (a1 : Int32) (a2 : Int32) (a3 : Int32) (M : gM) : Option (Int64 × gM) := (g_or 3 12 (M.2.2 27 0) (fun t1 => (g_v ((M.1 t1 0) * (231 : Int32)) (fun y2 => (g_b (f_J7_fill_d0a16 55 2079 (0 : Int64) M) (fun r4 M3 => (g_b (f_J7_fill_d0a16 56 2079 (0 : Int64) M3) (fun r6 M5 => (g_ck a1 2079 (g_m (sL M5 55 (tn a1) (1 : Int64)) (fun M7 => (f_X3_countRows_45 FU a2 a3 y2 (0 : Int64) (0 : Int32) M7))))))))))))
set_option maxRecDepth 100000 in
set_option maxHeartbeats 4000000 in
theorem ok_X3_countRows (a1 : Int32) (a2 : Int32) (a3 : Int32) (M : gM) : g_met Y1 yX3_countRows jX3_countRows g_el (fun Z => [.ref (Z.2.1 47), .int a1, .int a2, .int a3]) M (f_X3_countRows a1 a2 a3 M) := by
  refine g_enter (fun Z => [(0, .ref (Z.2.1 47)), (1, .int a1), (2, .int a2), (3, .int a3)]) (by decide) rfl (fun Z => Nat.le_of_ble_eq_true rfl) (fun Z => rfl) (fun X => ?_)
  rw [f_X3_countRows]
  refine G_aload_n 0 dX3_countRows_0 rfl rfl ?_
  refine G_get 0 clX3 (y1_47) fl_X3_40 dX3_countRows_1 (by decide) rfl rfl ?_
  refine G_getO 0 clX0 (y1_27) fl_X3_80 dX3_countRows_4 (by decide) rfl (by decide) (fun t1 ht1 => ?_)
  refine G_get 0 clX4 (ro_0 ht1) fl_X3_109 dX3_countRows_7 (by decide) rfl rfl ?_
  refine G_sipush (v := 231) dX3_countRows_10 (by decide) ?_
  refine G_imul dX3_countRows_13 ?_
  refine G_vi (fun y2 => ?_)
  refine G_istore (lv' := [(4, .int y2), (0, .ref (ad X 47)), (1, .int a1), (2, .int a2), (3, .int a3)]) dX3_countRows_14 (by decide) rfl ?_
  refine G_aload_n 1 dX3_countRows_16 rfl rfl ?_
  refine G_get 13 clX3 (y1_47) fl_X3_33 dX3_countRows_17 (by decide) rfl rfl ?_
  refine G_lconst (v := 0) dX3_countRows_20 (by decide) ?_
  refine G_cSv (As := [.ref (ad X 55), .long 0]) (rest := []) (ok_J7_fill_d0a16 (y1_55) (0 : Int64) M) rfl ms_X3_112 dX3_countRows_21 rfl rfl (Nat.le_of_ble_eq_true rfl) (g_fitN (by decide) (by decide)) (fun r4 M3 => ?_)
  refine G_aload_n 1 dX3_countRows_24 rfl rfl ?_
  refine G_get 14 clX3 (y1_47) fl_X3_37 dX3_countRows_25 (by decide) rfl rfl ?_
  refine G_lconst (v := 0) dX3_countRows_28 (by decide) ?_
  refine G_cSv (As := [.ref (ad X 56), .long 0]) (rest := []) (ok_J7_fill_d0a16 (y1_56) (0 : Int64) M3) rfl ms_X3_112 dX3_countRows_29 rfl rfl (Nat.le_of_ble_eq_true rfl) (g_fitN (by decide) (by decide)) (fun r6 M5 => ?_)
  refine G_aload_n 1 dX3_countRows_32 rfl rfl ?_
  refine G_get 13 clX3 (y1_47) fl_X3_33 dX3_countRows_33 (by decide) rfl rfl ?_
  refine G_iload_n 2 dX3_countRows_36 rfl rfl ?_
  refine G_lconst (v := 1) dX3_countRows_37 (by decide) ?_
  refine G_last (y1_55) dX3_countRows_38 ?_
  refine G_m (fun M7 => ?_)
  refine G_lconst (v := 0) dX3_countRows_39 (by decide) ?_
  refine G_lstore (lv' := [(5, .long 0), (4, .int y2), (0, .ref (ad X 47)), (1, .int a1), (2, .int a2), (3, .int a3)]) dX3_countRows_40 (by decide) rfl ?_
  refine G_iconst (v := 0) dX3_countRows_42 (by decide) ?_
  refine G_istore (lv' := [(7, .int 0), (5, .long 0), (4, .int y2), (0, .ref (ad X 47)), (1, .int a1), (2, .int a2), (3, .int a3)]) dX3_countRows_43 (by decide) rfl ?_
  exact G_sub [3, 5, 6, 2, 1, 0] rfl (o_X3_countRows_45 FU a2 a3 y2 (0 : Int64) (0 : Int32) M7)
-- X5_isSafe
def f_X5_isSafe (a1 : Int32) (M : gM) : Option (Bool × gM) := (if a1 < 0 then (some (false, M)) else (if (2079 : Int32) ≤ a1 then (some (false, M)) else (g_ck a1 2079 (if (M.1 38 (tn a1)) = (1048576 : Int32) then (some (true, M)) else (some (false, M))))))
set_option maxRecDepth 100000 in
set_option maxHeartbeats 4000000 in
theorem ok_X5_isSafe (a1 : Int32) (M : gM) : g_met Y1 yX5_isSafe jX5_isSafe g_eb (fun Z => [.ref (Z.2.1 37), .int a1]) M (f_X5_isSafe a1 M) := by
  refine g_enter (fun Z => [(0, .ref (Z.2.1 37)), (1, .int a1)]) (by decide) rfl (fun Z => Nat.le_of_ble_eq_true rfl) (fun Z => rfl) (fun X => ?_)
  rw [f_X5_isSafe]
  refine G_iload_n 1 dX5_isSafe_0 rfl rfl ?_
  refine G_if_lt (tgt := 26) dX5_isSafe_1 (by decide) ?_ ?_
  · refine G_iconst (v := 0) dX5_isSafe_26 (by decide) ?_
    exact G_zret (b := false) rfl dX5_isSafe_27
  · refine G_iload_n 1 dX5_isSafe_4 rfl rfl ?_
    refine G_sipush (v := 2079) dX5_isSafe_5 (by decide) ?_
    refine G_icmp_ge (tgt := 26) dX5_isSafe_8 (by decide) ?_ ?_
    · refine G_iconst (v := 0) dX5_isSafe_26 (by decide) ?_
      exact G_zret (b := false) rfl dX5_isSafe_27
    · refine G_aload_n 0 dX5_isSafe_11 rfl rfl ?_
      refine G_get 1 clX5 (y1_37) fl_X5_9 dX5_isSafe_12 (by decide) rfl rfl ?_
      refine G_iload_n 1 dX5_isSafe_15 rfl rfl ?_
      refine G_iald (y1_38) dX5_isSafe_16 ?_
      refine G_ldc (v := 1048576) ci_X5_57 dX5_isSafe_17 ?_
      refine G_icmp_ne (tgt := 26) dX5_isSafe_19 (by decide) ?_ ?_
      · refine G_iconst (v := 0) dX5_isSafe_26 (by decide) ?_
        exact G_zret (b := false) rfl dX5_isSafe_27
      · refine G_iconst (v := 1) dX5_isSafe_22 (by decide) ?_
        refine G_goto (tgt := 27) dX5_isSafe_23 (by decide) ?_
        exact G_zret (b := true) rfl dX5_isSafe_27
-- X3_learnFrom
def f_X3_learnFrom_103 (k11 : Int32 → Int32 → Int32 → Int32 → gM → Option (Int32 × gM)) (x1 : Int32) (x3 : Int32) (x5 : Int32) (x6 : Int32) (s0 : Int32) (M : gM) : Option (Int32 × gM) := (if s0 = 0 then (k11 x1 x3 s0 (x5 + 1) M) else (g_ck x6 2079 (g_ck x6 2079 (g_m (sI M 49 (tn x6) ((M.1 39 (tn x6)) + (1 : Int32))) (fun M5 => (g_ck (M5.1 47 2) 40 (g_m (sI M5 48 (tn (M5.1 47 2)) x6) (fun M6 => (g_m (sI M6 47 2 ((M6.1 47 2) + (1 : Int32))) (fun M7 => (g_m (sI M7 47 4 ((-1) : Int32)) (fun M8 => (k11 x1 x3 s0 (x5 + 1) M8)))))))))))))
set_option maxRecDepth 100000 in
set_option maxHeartbeats 4000000 in
theorem o_X3_learnFrom_103 {X : gX} {k11 : Int32 → Int32 → Int32 → Int32 → gM → Option (Int32 × gM)} (hk11 : ∀ (x1 : Int32) (x3 : Int32) (x4 : Int32) (x5 : Int32) (M : gM), G Y1 jX3_learnFrom X (g_fin g_ei) 11 [(0, .ref (ad X 47)), (1, .int x1), (2, .ref (ad X 37)), (3, .int x3), (4, .int x4), (5, .int x5)] [] M (k11 x1 x3 x4 x5 M)) (x1 : Int32) (x3 : Int32) (x5 : Int32) (x6 : Int32) (s0 : Int32) (M : gM) : G Y1 jX3_learnFrom X (g_fin g_ei) 103 [(0, .ref (ad X 47)), (1, .int x1), (2, .ref (ad X 37)), (3, .int x3), (5, .int x5), (6, .int x6)] [.int s0] M (f_X3_learnFrom_103 k11 x1 x3 x5 x6 s0 M) := by
  rw [f_X3_learnFrom_103]
  refine G_istore (lv' := [(4, .int s0), (0, .ref (ad X 47)), (1, .int x1), (2, .ref (ad X 37)), (3, .int x3), (5, .int x5), (6, .int x6)]) dX3_learnFrom_103 (by decide) rfl ?_
  refine G_iload 0 dX3_learnFrom_105 rfl ?_
  refine G_if_eq (tgt := 152) dX3_learnFrom_107 (by decide) ?_ ?_
  · refine G_iinc (v := x5 + 1) (lv' := [(5, .int (x5 + 1)), (4, .int s0), (0, .ref (ad X 47)), (1, .int x1), (2, .ref (ad X 37)), (3, .int x3), (6, .int x6)]) 5 dX3_learnFrom_152 rfl rfl (by decide) rfl ?_
    refine G_goto (tgt := 11) dX3_learnFrom_155 (by decide) ?_
    exact G_sub [2, 3, 4, 5, 1, 0] rfl (hk11 x1 x3 s0 (x5 + 1) M)
  · refine G_aload_n 1 dX3_learnFrom_110 rfl rfl ?_
    refine G_get 3 clX3 (y1_47) fl_X3_15 dX3_learnFrom_111 (by decide) rfl rfl ?_
    refine G_iload 6 dX3_learnFrom_114 rfl ?_
    refine G_aload_n 3 dX3_learnFrom_116 rfl rfl ?_
    refine G_get 2 clX5 (y1_37) fl_X3_128 dX3_learnFrom_117 (by decide) rfl rfl ?_
    refine G_iload 6 dX3_learnFrom_120 rfl ?_
    refine G_iald (y1_39) dX3_learnFrom_122 ?_
    refine G_iconst (v := 1) dX3_learnFrom_123 (by decide) ?_
    refine G_iadd dX3_learnFrom_124 ?_
    refine G_iast (y1_49) dX3_learnFrom_125 ?_
    refine G_m (fun M5 => ?_)
    refine G_aload_n 1 dX3_learnFrom_126 rfl rfl ?_
    refine G_get 1 clX3 (y1_47) fl_X3_11 dX3_learnFrom_127 (by decide) rfl rfl ?_
    refine G_aload_n 1 dX3_learnFrom_130 rfl rfl ?_
    refine G_get 2 clX3 (y1_47) fl_X3_51 dX3_learnFrom_131 (by decide) rfl rfl ?_
    refine G_iload 6 dX3_learnFrom_134 rfl ?_
    refine G_iast (y1_48) dX3_learnFrom_136 ?_
    refine G_m (fun M6 => ?_)
    refine G_aload_n 1 dX3_learnFrom_137 rfl rfl ?_
    refine G_dup dX3_learnFrom_138 rfl ?_
    refine G_get 2 clX3 (y1_47) fl_X3_51 dX3_learnFrom_139 (by decide) rfl rfl ?_
    refine G_iconst (v := 1) dX3_learnFrom_142 (by decide) ?_
    refine G_iadd dX3_learnFrom_143 ?_
    refine G_putI 2 clX3 (y1_47) fl_X3_51 dX3_learnFrom_144 (by decide) rfl rfl rfl ?_
    refine G_m (fun M7 => ?_)
    refine G_aload_n 1 dX3_learnFrom_147 rfl rfl ?_
    refine G_iconst (v := (-1)) dX3_learnFrom_148 (by decide) ?_
    refine G_putI 4 clX3 (y1_47) fl_X3_44 dX3_learnFrom_149 (by decide) rfl rfl rfl ?_
    refine G_m (fun M8 => ?_)
    refine G_iinc (v := x5 + 1) (lv' := [(5, .int (x5 + 1)), (4, .int s0), (0, .ref (ad X 47)), (1, .int x1), (2, .ref (ad X 37)), (3, .int x3), (6, .int x6)]) 5 dX3_learnFrom_152 rfl rfl (by decide) rfl ?_
    refine G_goto (tgt := 11) dX3_learnFrom_155 (by decide) ?_
    exact G_sub [2, 3, 4, 5, 1, 0] rfl (hk11 x1 x3 s0 (x5 + 1) M8)
def f_X3_learnFrom_93 (k11 : Int32 → Int32 → Int32 → Int32 → gM → Option (Int32 × gM)) (x1 : Int32) (x3 : Int32) (x5 : Int32) (x6 : Int32) (M : gM) : Option (Int32 × gM) := (if x6 < 0 then (f_X3_learnFrom_103 k11 x1 x3 x5 x6 (0 : Int32) M) else (f_X3_learnFrom_103 k11 x1 x3 x5 x6 (1 : Int32) M))
set_option maxRecDepth 100000 in
set_option maxHeartbeats 4000000 in
theorem o_X3_learnFrom_93 {X : gX} {k11 : Int32 → Int32 → Int32 → Int32 → gM → Option (Int32 × gM)} (hk11 : ∀ (x1 : Int32) (x3 : Int32) (x4 : Int32) (x5 : Int32) (M : gM), G Y1 jX3_learnFrom X (g_fin g_ei) 11 [(0, .ref (ad X 47)), (1, .int x1), (2, .ref (ad X 37)), (3, .int x3), (4, .int x4), (5, .int x5)] [] M (k11 x1 x3 x4 x5 M)) (x1 : Int32) (x3 : Int32) (x5 : Int32) (x6 : Int32) (M : gM) : G Y1 jX3_learnFrom X (g_fin g_ei) 93 [(0, .ref (ad X 47)), (1, .int x1), (2, .ref (ad X 37)), (3, .int x3), (5, .int x5), (6, .int x6)] [] M (f_X3_learnFrom_93 k11 x1 x3 x5 x6 M) := by
  rw [f_X3_learnFrom_93]
  refine G_iload 5 dX3_learnFrom_93 rfl ?_
  refine G_if_lt (tgt := 102) dX3_learnFrom_95 (by decide) ?_ ?_
  · refine G_iconst (v := 0) dX3_learnFrom_102 (by decide) ?_
    exact G_sub [0, 1, 2, 3, 4, 5] rfl (o_X3_learnFrom_103 hk11 x1 x3 x5 x6 (0 : Int32) M)
  · refine G_iconst (v := 1) dX3_learnFrom_98 (by decide) ?_
    refine G_goto (tgt := 103) dX3_learnFrom_99 (by decide) ?_
    exact G_sub [0, 1, 2, 3, 4, 5] rfl (o_X3_learnFrom_103 hk11 x1 x3 x5 x6 (1 : Int32) M)
def f_X3_learnFrom_46 (k11 : Int32 → Int32 → Int32 → Int32 → gM → Option (Int32 × gM)) : Nat → Int32 → Int32 → Int32 → Int32 → Int32 → gM → Option (Int32 × gM)
  | 0, _, _, _, _, _, _ => none
  | n + 1, x1, x3, x5, x6, x7, M => (if (2079 : Int32) ≤ x7 then (f_X3_learnFrom_93 k11 x1 x3 x5 x6 M) else (if x6 < 0 then (f_X3_learnFrom_93 k11 x1 x3 x5 x6 M) else (g_b (f_X5_isSafe x6 M) (fun r10 M9 => (if r10 then (g_ck x6 2079 (if (M9.1 49 (tn x6)) = 0 then (f_X3_learnFrom_93 k11 x1 x3 x5 x6 M9) else (g_ck x6 2079 (g_v (M9.1 52 (tn x6)) (fun y12 => (f_X3_learnFrom_46 k11 n x1 x3 x5 y12 (x7 + 1) M9)))))) else (g_ck x6 2079 (g_v (M9.1 52 (tn x6)) (fun y11 => (f_X3_learnFrom_46 k11 n x1 x3 x5 y11 (x7 + 1) M9)))))))))
set_option maxRecDepth 100000 in
set_option maxHeartbeats 4000000 in
theorem o_X3_learnFrom_46 {X : gX} {k11 : Int32 → Int32 → Int32 → Int32 → gM → Option (Int32 × gM)} (hk11 : ∀ (x1 : Int32) (x3 : Int32) (x4 : Int32) (x5 : Int32) (M : gM), G Y1 jX3_learnFrom X (g_fin g_ei) 11 [(0, .ref (ad X 47)), (1, .int x1), (2, .ref (ad X 37)), (3, .int x3), (4, .int x4), (5, .int x5)] [] M (k11 x1 x3 x4 x5 M)) : ∀ (n : Nat) (x1 : Int32) (x3 : Int32) (x5 : Int32) (x6 : Int32) (x7 : Int32) (M : gM), G Y1 jX3_learnFrom X (g_fin g_ei) 46 [(0, .ref (ad X 47)), (1, .int x1), (2, .ref (ad X 37)), (3, .int x3), (5, .int x5), (6, .int x6), (7, .int x7)] [] M (f_X3_learnFrom_46 k11 n x1 x3 x5 x6 x7 M) := by
  intro n
  induction n with
  | zero => intro x1 x3 x5 x6 x7 M; exact G_none
  | succ n ih =>
    intro x1 x3 x5 x6 x7 M
    rw [f_X3_learnFrom_46]
    refine G_iload 6 dX3_learnFrom_46 rfl ?_
    refine G_sipush (v := 2079) dX3_learnFrom_48 (by decide) ?_
    refine G_icmp_ge (tgt := 93) dX3_learnFrom_51 (by decide) ?_ ?_
    · exact G_sub [0, 1, 2, 3, 4, 5] rfl (o_X3_learnFrom_93 hk11 x1 x3 x5 x6 M)
    · refine G_iload 5 dX3_learnFrom_54 rfl ?_
      refine G_if_lt (tgt := 93) dX3_learnFrom_56 (by decide) ?_ ?_
      · exact G_sub [0, 1, 2, 3, 4, 5] rfl (o_X3_learnFrom_93 hk11 x1 x3 x5 x6 M)
      · refine G_aload_n 2 dX3_learnFrom_59 rfl rfl ?_
        refine G_iload 5 dX3_learnFrom_60 rfl ?_
        refine G_cVb (As := [.int x6]) (rest := []) (ok_X5_isSafe x6 M) rfl (y1_37) rfl mv_X3_123 dX3_learnFrom_62 rfl rfl (Nat.le_of_ble_eq_true rfl) (g_fitN (by decide) (by decide)) (fun r10 M9 => ?_)
        refine G_ifB_eq (tgt := 78) dX3_learnFrom_65 (by decide) ?_ ?_
        · refine G_aload_n 0 dX3_learnFrom_78 rfl rfl ?_
          refine G_get 10 clX3 (y1_47) fl_X3_24 dX3_learnFrom_79 (by decide) rfl rfl ?_
          refine G_iload 5 dX3_learnFrom_82 rfl ?_
          refine G_iald (y1_52) dX3_learnFrom_84 ?_
          refine G_vi (fun y11 => ?_)
          refine G_istore (lv' := [(6, .int y11), (0, .ref (ad X 47)), (1, .int x1), (2, .ref (ad X 37)), (3, .int x3), (5, .int x5), (7, .int x7)]) dX3_learnFrom_85 (by decide) rfl ?_
          refine G_iinc (v := x7 + 1) (lv' := [(7, .int (x7 + 1)), (6, .int y11), (0, .ref (ad X 47)), (1, .int x1), (2, .ref (ad X 37)), (3, .int x3), (5, .int x5)]) 6 dX3_learnFrom_87 rfl rfl (by decide) rfl ?_
          refine G_goto (tgt := 46) dX3_learnFrom_90 (by decide) ?_
          exact G_sub [2, 3, 4, 5, 6, 1, 0] rfl (ih x1 x3 x5 y11 (x7 + 1) M9)
        · refine G_aload_n 0 dX3_learnFrom_68 rfl rfl ?_
          refine G_get 3 clX3 (y1_47) fl_X3_15 dX3_learnFrom_69 (by decide) rfl rfl ?_
          refine G_iload 5 dX3_learnFrom_72 rfl ?_
          refine G_iald (y1_49) dX3_learnFrom_74 ?_
          refine G_if_eq (tgt := 93) dX3_learnFrom_75 (by decide) ?_ ?_
          · exact G_sub [0, 1, 2, 3, 4, 5] rfl (o_X3_learnFrom_93 hk11 x1 x3 x5 x6 M9)
          · refine G_aload_n 0 dX3_learnFrom_78 rfl rfl ?_
            refine G_get 10 clX3 (y1_47) fl_X3_24 dX3_learnFrom_79 (by decide) rfl rfl ?_
            refine G_iload 5 dX3_learnFrom_82 rfl ?_
            refine G_iald (y1_52) dX3_learnFrom_84 ?_
            refine G_vi (fun y12 => ?_)
            refine G_istore (lv' := [(6, .int y12), (0, .ref (ad X 47)), (1, .int x1), (2, .ref (ad X 37)), (3, .int x3), (5, .int x5), (7, .int x7)]) dX3_learnFrom_85 (by decide) rfl ?_
            refine G_iinc (v := x7 + 1) (lv' := [(7, .int (x7 + 1)), (6, .int y12), (0, .ref (ad X 47)), (1, .int x1), (2, .ref (ad X 37)), (3, .int x3), (5, .int x5)]) 6 dX3_learnFrom_87 rfl rfl (by decide) rfl ?_
            refine G_goto (tgt := 46) dX3_learnFrom_90 (by decide) ?_
            exact G_sub [2, 3, 4, 5, 6, 1, 0] rfl (ih x1 x3 x5 y12 (x7 + 1) M9)
def f_X3_learnFrom_11 : Nat → Int32 → Int32 → Int32 → Int32 → gM → Option (Int32 × gM)
  | 0, _, _, _, _, _ => none
  | n + 1, x1, x3, x4, x5, M => (if (40 : Int32) ≤ x5 then (some (((M.1 47 2) - x3), M)) else (if (40 : Int32) ≤ (M.1 47 2) then (some (((M.1 47 2) - x3), M)) else (if x4 = 0 then (some (((M.1 47 2) - x3), M)) else (g_b (f_X3_explore x1 M) (fun r3 M2 => (g_v (M2.1 47 5) (fun y4 => (f_X3_learnFrom_46 (f_X3_learnFrom_11 n) FU x1 x3 x5 y4 (0 : Int32) M2))))))))
set_option maxRecDepth 100000 in
set_option maxHeartbeats 4000000 in
theorem o_X3_learnFrom_11 {X : gX} : ∀ (n : Nat) (x1 : Int32) (x3 : Int32) (x4 : Int32) (x5 : Int32) (M : gM), G Y1 jX3_learnFrom X (g_fin g_ei) 11 [(0, .ref (ad X 47)), (1, .int x1), (2, .ref (ad X 37)), (3, .int x3), (4, .int x4), (5, .int x5)] [] M (f_X3_learnFrom_11 n x1 x3 x4 x5 M) := by
  intro n
  induction n with
  | zero => intro x1 x3 x4 x5 M; exact G_none
  | succ n ih =>
    intro x1 x3 x4 x5 M
    rw [f_X3_learnFrom_11]
    refine G_iload 5 dX3_learnFrom_11 rfl ?_
    refine G_bipush (v := 40) dX3_learnFrom_13 (by decide) ?_
    refine G_icmp_ge (tgt := 158) dX3_learnFrom_15 (by decide) ?_ ?_
    · refine G_aload_n 0 dX3_learnFrom_158 rfl rfl ?_
      refine G_get 2 clX3 (y1_47) fl_X3_51 dX3_learnFrom_159 (by decide) rfl rfl ?_
      refine G_iload_n 3 dX3_learnFrom_162 rfl rfl ?_
      refine G_isub dX3_learnFrom_163 ?_
      exact G_iret rfl dX3_learnFrom_164
    · refine G_aload_n 0 dX3_learnFrom_18 rfl rfl ?_
      refine G_get 2 clX3 (y1_47) fl_X3_51 dX3_learnFrom_19 (by decide) rfl rfl ?_
      refine G_bipush (v := 40) dX3_learnFrom_22 (by decide) ?_
      refine G_icmp_ge (tgt := 158) dX3_learnFrom_24 (by decide) ?_ ?_
      · refine G_aload_n 0 dX3_learnFrom_158 rfl rfl ?_
        refine G_get 2 clX3 (y1_47) fl_X3_51 dX3_learnFrom_159 (by decide) rfl rfl ?_
        refine G_iload_n 3 dX3_learnFrom_162 rfl rfl ?_
        refine G_isub dX3_learnFrom_163 ?_
        exact G_iret rfl dX3_learnFrom_164
      · refine G_iload 4 dX3_learnFrom_27 rfl ?_
        refine G_if_eq (tgt := 158) dX3_learnFrom_29 (by decide) ?_ ?_
        · refine G_aload_n 0 dX3_learnFrom_158 rfl rfl ?_
          refine G_get 2 clX3 (y1_47) fl_X3_51 dX3_learnFrom_159 (by decide) rfl rfl ?_
          refine G_iload_n 3 dX3_learnFrom_162 rfl rfl ?_
          refine G_isub dX3_learnFrom_163 ?_
          exact G_iret rfl dX3_learnFrom_164
        · refine G_aload_n 0 dX3_learnFrom_32 rfl rfl ?_
          refine G_iload_n 1 dX3_learnFrom_33 rfl rfl ?_
          refine G_cVv (As := [.int x1]) (rest := []) (ok_X3_explore x1 M) rfl (y1_47) rfl mv_X3_119 dX3_learnFrom_34 rfl rfl (Nat.le_of_ble_eq_true rfl) (g_fitN (by decide) (by decide)) (fun r3 M2 => ?_)
          refine G_aload_n 0 dX3_learnFrom_37 rfl rfl ?_
          refine G_get 5 clX3 (y1_47) fl_X3_48 dX3_learnFrom_38 (by decide) rfl rfl ?_
          refine G_vi (fun y4 => ?_)
          refine G_istore (lv' := [(6, .int y4), (0, .ref (ad X 47)), (1, .int x1), (2, .ref (ad X 37)), (3, .int x3), (4, .int x4), (5, .int x5)]) dX3_learnFrom_41 (by decide) rfl ?_
          refine G_iconst (v := 0) dX3_learnFrom_43 (by decide) ?_
          refine G_istore (lv' := [(7, .int 0), (6, .int y4), (0, .ref (ad X 47)), (1, .int x1), (2, .ref (ad X 37)), (3, .int x3), (4, .int x4), (5, .int x5)]) dX3_learnFrom_44 (by decide) rfl ?_
          exact G_sub [2, 3, 4, 5, 7, 1, 0] rfl (o_X3_learnFrom_46 ih FU x1 x3 x5 y4 (0 : Int32) M2)
def f_X3_learnFrom (a1 : Int32) (M : gM) : Option (Int32 × gM) := (g_v (M.1 47 2) (fun y1 => (f_X3_learnFrom_11 FU a1 y1 (1 : Int32) (0 : Int32) M)))
set_option maxRecDepth 100000 in
set_option maxHeartbeats 4000000 in
theorem ok_X3_learnFrom (a1 : Int32) (M : gM) : g_met Y1 yX3_learnFrom jX3_learnFrom g_ei (fun Z => [.ref (Z.2.1 47), .int a1, .ref (Z.2.1 37)]) M (f_X3_learnFrom a1 M) := by
  refine g_enter (fun Z => [(0, .ref (Z.2.1 47)), (1, .int a1), (2, .ref (Z.2.1 37))]) (by decide) rfl (fun Z => Nat.le_of_ble_eq_true rfl) (fun Z => rfl) (fun X => ?_)
  rw [f_X3_learnFrom]
  refine G_aload_n 0 dX3_learnFrom_0 rfl rfl ?_
  refine G_get 2 clX3 (y1_47) fl_X3_51 dX3_learnFrom_1 (by decide) rfl rfl ?_
  refine G_vi (fun y1 => ?_)
  refine G_istore_n (lv' := [(3, .int y1), (0, .ref (ad X 47)), (1, .int a1), (2, .ref (ad X 37))]) dX3_learnFrom_4 rfl (by decide) rfl ?_
  refine G_iconst (v := 1) dX3_learnFrom_5 (by decide) ?_
  refine G_istore (lv' := [(4, .int 1), (3, .int y1), (0, .ref (ad X 47)), (1, .int a1), (2, .ref (ad X 37))]) dX3_learnFrom_6 (by decide) rfl ?_
  refine G_iconst (v := 0) dX3_learnFrom_8 (by decide) ?_
  refine G_istore (lv' := [(5, .int 0), (4, .int 1), (3, .int y1), (0, .ref (ad X 47)), (1, .int a1), (2, .ref (ad X 37))]) dX3_learnFrom_9 (by decide) rfl ?_
  exact G_sub [3, 4, 5, 2, 1, 0] rfl (o_X3_learnFrom_11 FU a1 y1 (1 : Int32) (0 : Int32) M)
