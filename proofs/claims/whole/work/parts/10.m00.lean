-- X0_settle
def f_X0_settle (a1 : Nat) (a2 : Int32) (M : gM) : Option (Unit × gM) := (g_m (sR M 27 0 a1) (fun M1 => (g_m (sI M1 27 1 a2) (fun M2 => (g_m (sI M2 27 2 ((M2.1 27 2) + (1 : Int32))) (fun M3 => (some ((), M3))))))))
set_option maxRecDepth 100000 in
set_option maxHeartbeats 4000000 in
theorem ok_X0_settle {a1 : Nat} (ha1 : a1 = 3 ∨ a1 = 12) (a2 : Int32) (M : gM) : g_met Y1 yX0_settle jX0_settle g_ev (fun Z => [.ref (Z.2.1 27), .ref (Z.2.1 a1), .int a2]) M (f_X0_settle a1 a2 M) := by
  refine g_enter (fun Z => [(0, .ref (Z.2.1 27)), (1, .ref (Z.2.1 a1)), (2, .int a2)]) (by decide) rfl (fun Z => Nat.le_of_ble_eq_true rfl) (fun Z => rfl) (fun X => ?_)
  rw [f_X0_settle]
  refine G_aload_n 0 dX0_settle_0 rfl rfl ?_
  refine G_aload_n 1 dX0_settle_1 rfl rfl ?_
  refine G_putR 0 clX0 (y1_27) fl_X0_39 dX0_settle_2 (by decide) rfl rfl rfl (by rcases ha1 with h | h <;> rw [h] <;> decide) ?_
  refine G_m (fun M1 => ?_)
  refine G_aload_n 0 dX0_settle_5 rfl rfl ?_
  refine G_iload_n 2 dX0_settle_6 rfl rfl ?_
  refine G_putI 1 clX0 (y1_27) fl_X0_43 dX0_settle_7 (by decide) rfl rfl rfl ?_
  refine G_m (fun M2 => ?_)
  refine G_aload_n 0 dX0_settle_10 rfl rfl ?_
  refine G_dup dX0_settle_11 rfl ?_
  refine G_get 2 clX0 (y1_27) fl_X0_47 dX0_settle_12 (by decide) rfl rfl ?_
  refine G_iconst (v := 1) dX0_settle_15 (by decide) ?_
  refine G_iadd dX0_settle_16 ?_
  refine G_putI 2 clX0 (y1_27) fl_X0_47 dX0_settle_17 (by decide) rfl rfl rfl ?_
  refine G_m (fun M3 => ?_)
  exact G_vret rfl dX0_settle_20
-- X2_literal
def f_X2_literal_130 (x4 : Int32) (s0 : Int32) (M : gM) : Option (Bool × gM) := (if s0 = x4 then (some (false, M)) else (some (true, M)))
set_option maxRecDepth 100000 in
set_option maxHeartbeats 4000000 in
theorem o_X2_literal_130 {X : gX} (x4 : Int32) (s0 : Int32) (M : gM) : G Y1 jX2_literal X (g_fin g_eb) 130 [(4, .int x4)] [.int s0] M (f_X2_literal_130 x4 s0 M) := by
  rw [f_X2_literal_130]
  refine G_iload 0 dX2_literal_130 rfl ?_
  refine G_icmp_eq (tgt := 139) dX2_literal_132 (by decide) ?_ ?_
  · refine G_iconst (v := 0) dX2_literal_139 (by decide) ?_
    exact G_zret (b := false) rfl dX2_literal_140
  · refine G_iconst (v := 1) dX2_literal_135 (by decide) ?_
    refine G_goto (tgt := 140) dX2_literal_136 (by decide) ?_
    exact G_zret (b := true) rfl dX2_literal_140
def f_X2_literal_129 (k130 : Int32 → Int32 → gM → Option (Bool × gM)) (x4 : Int32) (M : gM) : Option (Bool × gM) := (k130 x4 (0 : Int32) M)
set_option maxRecDepth 100000 in
set_option maxHeartbeats 4000000 in
theorem o_X2_literal_129 {X : gX} {k130 : Int32 → Int32 → gM → Option (Bool × gM)} (hk130 : ∀ (x4 : Int32) (s0 : Int32) (M : gM), G Y1 jX2_literal X (g_fin g_eb) 130 [(4, .int x4)] [.int s0] M (k130 x4 s0 M)) (x4 : Int32) (M : gM) : G Y1 jX2_literal X (g_fin g_eb) 129 [(4, .int x4)] [] M (f_X2_literal_129 k130 x4 M) := by
  rw [f_X2_literal_129]
  refine G_iconst (v := 0) dX2_literal_129 (by decide) ?_
  exact G_sub [0] rfl (hk130 x4 (0 : Int32) M)
def f_X2_literal_113 (x4 : Int32) (x5 : Int32) (M : gM) : Option (Bool × gM) := (if x5 = 0 then (f_X2_literal_129 (f_X2_literal_130) x4 M) else (if (M.1 28 2) = 0 then (f_X2_literal_130 x4 (1 : Int32) M) else (f_X2_literal_129 (f_X2_literal_130) x4 M)))
set_option maxRecDepth 100000 in
set_option maxHeartbeats 4000000 in
theorem o_X2_literal_113 {X : gX} (x4 : Int32) (x5 : Int32) (M : gM) : G Y1 jX2_literal X (g_fin g_eb) 113 [(0, .ref (ad X 28)), (4, .int x4), (5, .int x5)] [] M (f_X2_literal_113 x4 x5 M) := by
  rw [f_X2_literal_113]
  refine G_iload 2 dX2_literal_113 rfl ?_
  refine G_if_eq (tgt := 129) dX2_literal_115 (by decide) ?_ ?_
  · exact G_sub [1] rfl (o_X2_literal_129 (o_X2_literal_130) x4 M)
  · refine G_aload_n 0 dX2_literal_118 rfl rfl ?_
    refine G_get 2 clX2 (y1_28) fl_X2_26 dX2_literal_119 (by decide) rfl rfl ?_
    refine G_if_ne (tgt := 129) dX2_literal_122 (by decide) ?_ ?_
    · exact G_sub [1] rfl (o_X2_literal_129 (o_X2_literal_130) x4 M)
    · refine G_iconst (v := 1) dX2_literal_125 (by decide) ?_
      refine G_goto (tgt := 130) dX2_literal_126 (by decide) ?_
      exact G_sub [1] rfl (o_X2_literal_130 x4 (1 : Int32) M)
def f_X2_literal_66 (k113 : Int32 → Int32 → gM → Option (Bool × gM)) (x4 : Int32) (s0 : Int32) (M : gM) : Option (Bool × gM) := (k113 x4 s0 M)
set_option maxRecDepth 100000 in
set_option maxHeartbeats 4000000 in
theorem o_X2_literal_66 {X : gX} {k113 : Int32 → Int32 → gM → Option (Bool × gM)} (hk113 : ∀ (x4 : Int32) (x5 : Int32) (M : gM), G Y1 jX2_literal X (g_fin g_eb) 113 [(0, .ref (ad X 28)), (4, .int x4), (5, .int x5)] [] M (k113 x4 x5 M)) (x4 : Int32) (s0 : Int32) (M : gM) : G Y1 jX2_literal X (g_fin g_eb) 66 [(0, .ref (ad X 28)), (4, .int x4)] [.int s0] M (f_X2_literal_66 k113 x4 s0 M) := by
  rw [f_X2_literal_66]
  refine G_istore (lv' := [(5, .int s0), (0, .ref (ad X 28)), (4, .int x4)]) dX2_literal_66 (by decide) rfl ?_
  refine G_goto (tgt := 113) dX2_literal_68 (by decide) ?_
  exact G_sub [1, 2, 0] rfl (hk113 x4 s0 M)
def f_X2_literal_81 (k113 : Int32 → Int32 → gM → Option (Bool × gM)) (x4 : Int32) (s0 : Int32) (M : gM) : Option (Bool × gM) := (k113 x4 s0 M)
set_option maxRecDepth 100000 in
set_option maxHeartbeats 4000000 in
theorem o_X2_literal_81 {X : gX} {k113 : Int32 → Int32 → gM → Option (Bool × gM)} (hk113 : ∀ (x4 : Int32) (x5 : Int32) (M : gM), G Y1 jX2_literal X (g_fin g_eb) 113 [(0, .ref (ad X 28)), (4, .int x4), (5, .int x5)] [] M (k113 x4 x5 M)) (x4 : Int32) (s0 : Int32) (M : gM) : G Y1 jX2_literal X (g_fin g_eb) 81 [(0, .ref (ad X 28)), (4, .int x4)] [.int s0] M (f_X2_literal_81 k113 x4 s0 M) := by
  rw [f_X2_literal_81]
  refine G_istore (lv' := [(5, .int s0), (0, .ref (ad X 28)), (4, .int x4)]) dX2_literal_81 (by decide) rfl ?_
  refine G_goto (tgt := 113) dX2_literal_83 (by decide) ?_
  exact G_sub [1, 2, 0] rfl (hk113 x4 s0 M)
def f_X2_literal_96 (k113 : Int32 → Int32 → gM → Option (Bool × gM)) (x4 : Int32) (s0 : Int32) (M : gM) : Option (Bool × gM) := (k113 x4 s0 M)
set_option maxRecDepth 100000 in
set_option maxHeartbeats 4000000 in
theorem o_X2_literal_96 {X : gX} {k113 : Int32 → Int32 → gM → Option (Bool × gM)} (hk113 : ∀ (x4 : Int32) (x5 : Int32) (M : gM), G Y1 jX2_literal X (g_fin g_eb) 113 [(0, .ref (ad X 28)), (4, .int x4), (5, .int x5)] [] M (k113 x4 x5 M)) (x4 : Int32) (s0 : Int32) (M : gM) : G Y1 jX2_literal X (g_fin g_eb) 96 [(0, .ref (ad X 28)), (4, .int x4)] [.int s0] M (f_X2_literal_96 k113 x4 s0 M) := by
  rw [f_X2_literal_96]
  refine G_istore (lv' := [(5, .int s0), (0, .ref (ad X 28)), (4, .int x4)]) dX2_literal_96 (by decide) rfl ?_
  refine G_goto (tgt := 113) dX2_literal_98 (by decide) ?_
  exact G_sub [1, 2, 0] rfl (hk113 x4 s0 M)
def f_X2_literal_111 (k113 : Int32 → Int32 → gM → Option (Bool × gM)) (x4 : Int32) (s0 : Int32) (M : gM) : Option (Bool × gM) := (k113 x4 s0 M)
set_option maxRecDepth 100000 in
set_option maxHeartbeats 4000000 in
theorem o_X2_literal_111 {X : gX} {k113 : Int32 → Int32 → gM → Option (Bool × gM)} (hk113 : ∀ (x4 : Int32) (x5 : Int32) (M : gM), G Y1 jX2_literal X (g_fin g_eb) 113 [(0, .ref (ad X 28)), (4, .int x4), (5, .int x5)] [] M (k113 x4 x5 M)) (x4 : Int32) (s0 : Int32) (M : gM) : G Y1 jX2_literal X (g_fin g_eb) 111 [(0, .ref (ad X 28)), (4, .int x4)] [.int s0] M (f_X2_literal_111 k113 x4 s0 M) := by
  rw [f_X2_literal_111]
  refine G_istore (lv' := [(5, .int s0), (0, .ref (ad X 28)), (4, .int x4)]) dX2_literal_111 (by decide) rfl ?_
  exact G_sub [1, 2, 0] rfl (hk113 x4 s0 M)
def f_X2_literal_26 (x1 : Int32) (x2 : Int32) (x3 : Int32) (s0 : Int32) (M : gM) : Option (Bool × gM) := (g_v (x1 / (2 : Int32)) (fun y3 => (if y3 = 0 then (if x2 = x3 then (f_X2_literal_66 (f_X2_literal_113) s0 (1 : Int32) M) else (f_X2_literal_66 (f_X2_literal_113) s0 (0 : Int32) M)) else (if y3 = 1 then (if x2 = x3 then (f_X2_literal_81 (f_X2_literal_113) s0 (0 : Int32) M) else (f_X2_literal_81 (f_X2_literal_113) s0 (1 : Int32) M)) else (if y3 = 2 then (if x3 ≤ x2 then (f_X2_literal_96 (f_X2_literal_113) s0 (0 : Int32) M) else (f_X2_literal_96 (f_X2_literal_113) s0 (1 : Int32) M)) else (if x3 < x2 then (f_X2_literal_111 (f_X2_literal_113) s0 (0 : Int32) M) else (f_X2_literal_111 (f_X2_literal_113) s0 (1 : Int32) M)))))))
set_option maxRecDepth 100000 in
set_option maxHeartbeats 4000000 in
theorem o_X2_literal_26 {X : gX} (x1 : Int32) (x2 : Int32) (x3 : Int32) (s0 : Int32) (M : gM) : G Y1 jX2_literal X (g_fin g_eb) 26 [(0, .ref (ad X 28)), (1, .int x1), (2, .int x2), (3, .int x3)] [.int s0] M (f_X2_literal_26 x1 x2 x3 s0 M) := by
  rw [f_X2_literal_26]
  refine G_istore (lv' := [(4, .int s0), (0, .ref (ad X 28)), (1, .int x1), (2, .int x2), (3, .int x3)]) dX2_literal_26 (by decide) rfl ?_
  refine G_iload_n 2 dX2_literal_28 rfl rfl ?_
  refine G_iconst (v := 2) dX2_literal_29 (by decide) ?_
  refine G_idivK dX2_literal_30 (by decide) ?_
  refine G_vi (fun y3 => ?_)
  refine G_ite (fun h4 => ?_) (fun h4 => ?_)
  · refine G_tabIn (tgt := 56) (off := 25) dX2_literal_31 (by rw [h4]; decide) (by rw [h4]; decide) (by rw [h4]; decide) (by decide) ?_
    refine G_iload_n 3 dX2_literal_56 rfl rfl ?_
    refine G_iload_n 4 dX2_literal_57 rfl rfl ?_
    refine G_icmp_ne (tgt := 65) dX2_literal_58 (by decide) ?_ ?_
    · refine G_iconst (v := 0) dX2_literal_65 (by decide) ?_
      exact G_sub [1, 0] rfl (o_X2_literal_66 (o_X2_literal_113) s0 (0 : Int32) M)
    · refine G_iconst (v := 1) dX2_literal_61 (by decide) ?_
      refine G_goto (tgt := 66) dX2_literal_62 (by decide) ?_
      exact G_sub [1, 0] rfl (o_X2_literal_66 (o_X2_literal_113) s0 (1 : Int32) M)
  refine G_ite (fun h5 => ?_) (fun h5 => ?_)
  · refine G_tabIn (tgt := 71) (off := 40) dX2_literal_31 (by rw [h5]; decide) (by rw [h5]; decide) (by rw [h5]; decide) (by decide) ?_
    refine G_iload_n 3 dX2_literal_71 rfl rfl ?_
    refine G_iload_n 4 dX2_literal_72 rfl rfl ?_
    refine G_icmp_eq (tgt := 80) dX2_literal_73 (by decide) ?_ ?_
    · refine G_iconst (v := 0) dX2_literal_80 (by decide) ?_
      exact G_sub [1, 0] rfl (o_X2_literal_81 (o_X2_literal_113) s0 (0 : Int32) M)
    · refine G_iconst (v := 1) dX2_literal_76 (by decide) ?_
      refine G_goto (tgt := 81) dX2_literal_77 (by decide) ?_
      exact G_sub [1, 0] rfl (o_X2_literal_81 (o_X2_literal_113) s0 (1 : Int32) M)
  refine G_ite (fun h6 => ?_) (fun h6 => ?_)
  · refine G_tabIn (tgt := 86) (off := 55) dX2_literal_31 (by rw [h6]; decide) (by rw [h6]; decide) (by rw [h6]; decide) (by decide) ?_
    refine G_iload_n 3 dX2_literal_86 rfl rfl ?_
    refine G_iload_n 4 dX2_literal_87 rfl rfl ?_
    refine G_icmp_ge (tgt := 95) dX2_literal_88 (by decide) ?_ ?_
    · refine G_iconst (v := 0) dX2_literal_95 (by decide) ?_
      exact G_sub [1, 0] rfl (o_X2_literal_96 (o_X2_literal_113) s0 (0 : Int32) M)
    · refine G_iconst (v := 1) dX2_literal_91 (by decide) ?_
      refine G_goto (tgt := 96) dX2_literal_92 (by decide) ?_
      exact G_sub [1, 0] rfl (o_X2_literal_96 (o_X2_literal_113) s0 (1 : Int32) M)
  refine G_tabOut (tgt := 101) dX2_literal_31 (by have := g_nk (k := 0) h4 (by decide); have := g_nk (k := 1) h5 (by decide); have := g_nk (k := 2) h6 (by decide); omega) (by decide) ?_
  refine G_iload_n 3 dX2_literal_101 rfl rfl ?_
  refine G_iload_n 4 dX2_literal_102 rfl rfl ?_
  refine G_icmp_gt (tgt := 110) dX2_literal_103 (by decide) ?_ ?_
  · refine G_iconst (v := 0) dX2_literal_110 (by decide) ?_
    exact G_sub [1, 0] rfl (o_X2_literal_111 (o_X2_literal_113) s0 (0 : Int32) M)
  · refine G_iconst (v := 1) dX2_literal_106 (by decide) ?_
    refine G_goto (tgt := 111) dX2_literal_107 (by decide) ?_
    exact G_sub [1, 0] rfl (o_X2_literal_111 (o_X2_literal_113) s0 (1 : Int32) M)
def f_X2_literal (a1 : Int32) (M : gM) : Option (Bool × gM) := (g_ck (0 : Int32) 64 (g_v (M.1 29 (tn (0 : Int32))) (fun y1 => (g_ck (1 : Int32) 64 (g_v (M.1 29 (tn (1 : Int32))) (fun y2 => (if (a1 &&& (1 : Int32)) = (1 : Int32) then (f_X2_literal_26 a1 y1 y2 (1 : Int32) M) else (f_X2_literal_26 a1 y1 y2 (0 : Int32) M))))))))
set_option maxRecDepth 100000 in
set_option maxHeartbeats 4000000 in
theorem ok_X2_literal (a1 : Int32) (M : gM) : g_met Y1 yX2_literal jX2_literal g_eb (fun Z => [.ref (Z.2.1 28), .int a1]) M (f_X2_literal a1 M) := by
  refine g_enter (fun Z => [(0, .ref (Z.2.1 28)), (1, .int a1)]) (by decide) rfl (fun Z => Nat.le_of_ble_eq_true rfl) (fun Z => rfl) (fun X => ?_)
  rw [f_X2_literal]
  refine G_aload_n 0 dX2_literal_0 rfl rfl ?_
  refine G_get 0 clX2 (y1_28) fl_X2_9 dX2_literal_1 (by decide) rfl rfl ?_
  refine G_iconst (v := 0) dX2_literal_4 (by decide) ?_
  refine G_iald (y1_29) dX2_literal_5 ?_
  refine G_vi (fun y1 => ?_)
  refine G_istore_n (lv' := [(2, .int y1), (0, .ref (ad X 28)), (1, .int a1)]) dX2_literal_6 rfl (by decide) rfl ?_
  refine G_aload_n 1 dX2_literal_7 rfl rfl ?_
  refine G_get 0 clX2 (y1_28) fl_X2_9 dX2_literal_8 (by decide) rfl rfl ?_
  refine G_iconst (v := 1) dX2_literal_11 (by decide) ?_
  refine G_iald (y1_29) dX2_literal_12 ?_
  refine G_vi (fun y2 => ?_)
  refine G_istore_n (lv' := [(3, .int y2), (2, .int y1), (0, .ref (ad X 28)), (1, .int a1)]) dX2_literal_13 rfl (by decide) rfl ?_
  refine G_iload_n 3 dX2_literal_14 rfl rfl ?_
  refine G_iconst (v := 1) dX2_literal_15 (by decide) ?_
  refine G_iand dX2_literal_16 ?_
  refine G_iconst (v := 1) dX2_literal_17 (by decide) ?_
  refine G_icmp_ne (tgt := 25) dX2_literal_18 (by decide) ?_ ?_
  · refine G_iconst (v := 0) dX2_literal_25 (by decide) ?_
    exact G_sub [2, 3, 1, 0] rfl (o_X2_literal_26 a1 y1 y2 (0 : Int32) M)
  · refine G_iconst (v := 1) dX2_literal_21 (by decide) ?_
    refine G_goto (tgt := 26) dX2_literal_22 (by decide) ?_
    exact G_sub [2, 3, 1, 0] rfl (o_X2_literal_26 a1 y1 y2 (1 : Int32) M)
-- X2_run
def f_X2_run_66 (a1 : Nat) (k18 : Int32 → Int32 → gM → Option (Int32 × gM)) (x4 : Int32) (x5 : Int32) (s0 : Int32) (s1 : Int32) (M : gM) : Option (Int32 × gM) := (g_v (s0 + s1) (fun y3 => (g_ck (y3 &&& (63 : Int32)) 64 (g_v (M.1 29 (tn (y3 &&& (63 : Int32)))) (fun y4 => (g_ck ((y3 + (1 : Int32)) &&& (63 : Int32)) 64 (g_v (M.1 29 (tn ((y3 + (1 : Int32)) &&& (63 : Int32)))) (fun y5 => (if x5 = 0 then (g_ck x4 800 (g_v ((M.1 a1 (tn x4)) / (16 : Int32)) (fun y20 => (g_ck (y3 &&& (63 : Int32)) 64 (g_m (sI M 29 (tn (y3 &&& (63 : Int32))) y20) (fun M21 => (k18 y3 (x4 + 1) M21))))))) else (if x5 = (1 : Int32) then (g_ck x4 800 (g_ck (((M.1 a1 (tn x4)) / (16 : Int32)) &&& (7 : Int32)) 8 (g_v (M.1 30 (tn (((M.1 a1 (tn x4)) / (16 : Int32)) &&& (7 : Int32)))) (fun y18 => (g_ck (y3 &&& (63 : Int32)) 64 (g_m (sI M 29 (tn (y3 &&& (63 : Int32))) y18) (fun M19 => (k18 y3 (x4 + 1) M19)))))))) else (if x5 = (2 : Int32) then (g_v (-y4) (fun y16 => (g_ck (y3 &&& (63 : Int32)) 64 (g_m (sI M 29 (tn (y3 &&& (63 : Int32))) y16) (fun M17 => (k18 y3 (x4 + 1) M17)))))) else (if x5 = (3 : Int32) then (g_v (y4 + y5) (fun y14 => (g_ck (y3 &&& (63 : Int32)) 64 (g_m (sI M 29 (tn (y3 &&& (63 : Int32))) y14) (fun M15 => (k18 y3 (x4 + 1) M15)))))) else (if x5 = (4 : Int32) then (g_v (y4 - y5) (fun y12 => (g_ck (y3 &&& (63 : Int32)) 64 (g_m (sI M 29 (tn (y3 &&& (63 : Int32))) y12) (fun M13 => (k18 y3 (x4 + 1) M13)))))) else (if x5 = (5 : Int32) then (g_v (y4 * y5) (fun y10 => (g_ck (y3 &&& (63 : Int32)) 64 (g_m (sI M 29 (tn (y3 &&& (63 : Int32))) y10) (fun M11 => (k18 y3 (x4 + 1) M11)))))) else (if y5 = 0 then (g_m (sI M 28 2 (1 : Int32)) (fun M6 => (g_ck (y3 &&& (63 : Int32)) 64 (g_m (sI M6 29 (tn (y3 &&& (63 : Int32))) y4) (fun M7 => (k18 y3 (x4 + 1) M7)))))) else (g_nz y5 (g_v (y4 / y5) (fun y8 => (g_ck (y3 &&& (63 : Int32)) 64 (g_m (sI M 29 (tn (y3 &&& (63 : Int32))) y8) (fun M9 => (k18 y3 (x4 + 1) M9))))))))))))))))))))))
set_option maxRecDepth 100000 in
set_option maxHeartbeats 4000000 in
theorem o_X2_run_66 {X : gX} {a1 : Nat} {k18 : Int32 → Int32 → gM → Option (Int32 × gM)} (ha1 : Y1[a1]? = some (1, 800, [])) (hk18 : ∀ (x3 : Int32) (x4 : Int32) (M : gM), G Y1 jX2_run X (g_fin g_ei) 18 [(0, .ref (ad X 28)), (1, .ref (ad X a1)), (3, .int x3), (4, .int x4)] [] M (k18 x3 x4 M)) (x4 : Int32) (x5 : Int32) (s0 : Int32) (s1 : Int32) (M : gM) : G Y1 jX2_run X (g_fin g_ei) 66 [(0, .ref (ad X 28)), (1, .ref (ad X a1)), (4, .int x4), (5, .int x5)] [.int s1, .int s0] M (f_X2_run_66 a1 k18 x4 x5 s0 s1 M) := by
  rw [f_X2_run_66]
  refine G_iadd dX2_run_66 ?_
  refine G_vi (fun y3 => ?_)
  refine G_istore_n (lv' := [(3, .int y3), (0, .ref (ad X 28)), (1, .ref (ad X a1)), (4, .int x4), (5, .int x5)]) dX2_run_67 rfl (by decide) rfl ?_
  refine G_aload_n 1 dX2_run_68 rfl rfl ?_
  refine G_get 0 clX2 (y1_28) fl_X2_9 dX2_run_69 (by decide) rfl rfl ?_
  refine G_iload_n 0 dX2_run_72 rfl rfl ?_
  refine G_bipush (v := 63) dX2_run_73 (by decide) ?_
  refine G_iand dX2_run_75 ?_
  refine G_iald (y1_29) dX2_run_76 ?_
  refine G_vi (fun y4 => ?_)
  refine G_istore (lv' := [(6, .int y4), (3, .int y3), (0, .ref (ad X 28)), (1, .ref (ad X a1)), (4, .int x4), (5, .int x5)]) dX2_run_77 (by decide) rfl ?_
  refine G_aload_n 2 dX2_run_79 rfl rfl ?_
  refine G_get 0 clX2 (y1_28) fl_X2_9 dX2_run_80 (by decide) rfl rfl ?_
  refine G_iload_n 1 dX2_run_83 rfl rfl ?_
  refine G_iconst (v := 1) dX2_run_84 (by decide) ?_
  refine G_iadd dX2_run_85 ?_
  refine G_bipush (v := 63) dX2_run_86 (by decide) ?_
  refine G_iand dX2_run_88 ?_
  refine G_iald (y1_29) dX2_run_89 ?_
  refine G_vi (fun y5 => ?_)
  refine G_istore (lv' := [(7, .int y5), (6, .int y4), (3, .int y3), (0, .ref (ad X 28)), (1, .ref (ad X a1)), (4, .int x4), (5, .int x5)]) dX2_run_90 (by decide) rfl ?_
  refine G_iload 6 dX2_run_92 rfl ?_
  refine G_if_ne (tgt := 109) dX2_run_94 (by decide) ?_ ?_
  · refine G_iload 6 dX2_run_109 rfl ?_
    refine G_iconst (v := 1) dX2_run_111 (by decide) ?_
    refine G_icmp_ne (tgt := 135) dX2_run_112 (by decide) ?_ ?_
    · refine G_iload 6 dX2_run_135 rfl ?_
      refine G_iconst (v := 2) dX2_run_137 (by decide) ?_
      refine G_icmp_ne (tgt := 149) dX2_run_138 (by decide) ?_ ?_
      · refine G_iload 6 dX2_run_149 rfl ?_
        refine G_iconst (v := 3) dX2_run_151 (by decide) ?_
        refine G_icmp_ne (tgt := 165) dX2_run_152 (by decide) ?_ ?_
        · refine G_iload 6 dX2_run_165 rfl ?_
          refine G_iconst (v := 4) dX2_run_167 (by decide) ?_
          refine G_icmp_ne (tgt := 181) dX2_run_168 (by decide) ?_ ?_
          · refine G_iload 6 dX2_run_181 rfl ?_
            refine G_iconst (v := 5) dX2_run_183 (by decide) ?_
            refine G_icmp_ne (tgt := 197) dX2_run_184 (by decide) ?_ ?_
            · refine G_iload 0 dX2_run_197 rfl ?_
              refine G_if_eq (tgt := 212) dX2_run_199 (by decide) ?_ ?_
              · refine G_aload_n 3 dX2_run_212 rfl rfl ?_
                refine G_iconst (v := 1) dX2_run_213 (by decide) ?_
                refine G_putZ 2 clX2 (y1_28) fl_X2_26 dX2_run_214 (by decide) rfl rfl rfl ⟨rfl, rfl⟩ ?_
                refine G_m (fun M6 => ?_)
                refine G_aload_n 3 dX2_run_217 rfl rfl ?_
                refine G_get 0 clX2 (y1_28) fl_X2_9 dX2_run_218 (by decide) rfl rfl ?_
                refine G_iload_n 2 dX2_run_221 rfl rfl ?_
                refine G_bipush (v := 63) dX2_run_222 (by decide) ?_
                refine G_iand dX2_run_224 ?_
                refine G_iload 1 dX2_run_225 rfl ?_
                refine G_iast (y1_29) dX2_run_227 ?_
                refine G_m (fun M7 => ?_)
                refine G_iinc (v := x4 + 1) (lv' := [(4, .int (x4 + 1)), (7, .int y5), (6, .int y4), (3, .int y3), (0, .ref (ad X 28)), (1, .ref (ad X a1)), (5, .int x5)]) 5 dX2_run_228 rfl rfl (by decide) rfl ?_
                refine G_goto (tgt := 18) dX2_run_231 (by decide) ?_
                exact G_sub [4, 5, 3, 0] rfl (hk18 y3 (x4 + 1) M7)
              · refine G_iload 1 dX2_run_202 rfl ?_
                refine G_iload 0 dX2_run_204 rfl ?_
                refine G_idiv dX2_run_206 ?_
                refine G_vi (fun y8 => ?_)
                refine G_istore (lv' := [(6, .int y8), (7, .int y5), (3, .int y3), (0, .ref (ad X 28)), (1, .ref (ad X a1)), (4, .int x4), (5, .int x5)]) dX2_run_207 (by decide) rfl ?_
                refine G_goto (tgt := 217) dX2_run_209 (by decide) ?_
                refine G_aload_n 3 dX2_run_217 rfl rfl ?_
                refine G_get 0 clX2 (y1_28) fl_X2_9 dX2_run_218 (by decide) rfl rfl ?_
                refine G_iload_n 2 dX2_run_221 rfl rfl ?_
                refine G_bipush (v := 63) dX2_run_222 (by decide) ?_
                refine G_iand dX2_run_224 ?_
                refine G_iload 0 dX2_run_225 rfl ?_
                refine G_iast (y1_29) dX2_run_227 ?_
                refine G_m (fun M9 => ?_)
                refine G_iinc (v := x4 + 1) (lv' := [(4, .int (x4 + 1)), (6, .int y8), (7, .int y5), (3, .int y3), (0, .ref (ad X 28)), (1, .ref (ad X a1)), (5, .int x5)]) 5 dX2_run_228 rfl rfl (by decide) rfl ?_
                refine G_goto (tgt := 18) dX2_run_231 (by decide) ?_
                exact G_sub [4, 5, 3, 0] rfl (hk18 y3 (x4 + 1) M9)
            · refine G_iload 1 dX2_run_187 rfl ?_
              refine G_iload 0 dX2_run_189 rfl ?_
              refine G_imul dX2_run_191 ?_
              refine G_vi (fun y10 => ?_)
              refine G_istore (lv' := [(6, .int y10), (7, .int y5), (3, .int y3), (0, .ref (ad X 28)), (1, .ref (ad X a1)), (4, .int x4), (5, .int x5)]) dX2_run_192 (by decide) rfl ?_
              refine G_goto (tgt := 217) dX2_run_194 (by decide) ?_
              refine G_aload_n 3 dX2_run_217 rfl rfl ?_
              refine G_get 0 clX2 (y1_28) fl_X2_9 dX2_run_218 (by decide) rfl rfl ?_
              refine G_iload_n 2 dX2_run_221 rfl rfl ?_
              refine G_bipush (v := 63) dX2_run_222 (by decide) ?_
              refine G_iand dX2_run_224 ?_
              refine G_iload 0 dX2_run_225 rfl ?_
              refine G_iast (y1_29) dX2_run_227 ?_
              refine G_m (fun M11 => ?_)
              refine G_iinc (v := x4 + 1) (lv' := [(4, .int (x4 + 1)), (6, .int y10), (7, .int y5), (3, .int y3), (0, .ref (ad X 28)), (1, .ref (ad X a1)), (5, .int x5)]) 5 dX2_run_228 rfl rfl (by decide) rfl ?_
              refine G_goto (tgt := 18) dX2_run_231 (by decide) ?_
              exact G_sub [4, 5, 3, 0] rfl (hk18 y3 (x4 + 1) M11)
          · refine G_iload 1 dX2_run_171 rfl ?_
            refine G_iload 0 dX2_run_173 rfl ?_
            refine G_isub dX2_run_175 ?_
            refine G_vi (fun y12 => ?_)
            refine G_istore (lv' := [(6, .int y12), (7, .int y5), (3, .int y3), (0, .ref (ad X 28)), (1, .ref (ad X a1)), (4, .int x4), (5, .int x5)]) dX2_run_176 (by decide) rfl ?_
            refine G_goto (tgt := 217) dX2_run_178 (by decide) ?_
            refine G_aload_n 3 dX2_run_217 rfl rfl ?_
            refine G_get 0 clX2 (y1_28) fl_X2_9 dX2_run_218 (by decide) rfl rfl ?_
            refine G_iload_n 2 dX2_run_221 rfl rfl ?_
            refine G_bipush (v := 63) dX2_run_222 (by decide) ?_
            refine G_iand dX2_run_224 ?_
            refine G_iload 0 dX2_run_225 rfl ?_
            refine G_iast (y1_29) dX2_run_227 ?_
            refine G_m (fun M13 => ?_)
            refine G_iinc (v := x4 + 1) (lv' := [(4, .int (x4 + 1)), (6, .int y12), (7, .int y5), (3, .int y3), (0, .ref (ad X 28)), (1, .ref (ad X a1)), (5, .int x5)]) 5 dX2_run_228 rfl rfl (by decide) rfl ?_
            refine G_goto (tgt := 18) dX2_run_231 (by decide) ?_
            exact G_sub [4, 5, 3, 0] rfl (hk18 y3 (x4 + 1) M13)
        · refine G_iload 1 dX2_run_155 rfl ?_
          refine G_iload 0 dX2_run_157 rfl ?_
          refine G_iadd dX2_run_159 ?_
          refine G_vi (fun y14 => ?_)
          refine G_istore (lv' := [(6, .int y14), (7, .int y5), (3, .int y3), (0, .ref (ad X 28)), (1, .ref (ad X a1)), (4, .int x4), (5, .int x5)]) dX2_run_160 (by decide) rfl ?_
          refine G_goto (tgt := 217) dX2_run_162 (by decide) ?_
          refine G_aload_n 3 dX2_run_217 rfl rfl ?_
          refine G_get 0 clX2 (y1_28) fl_X2_9 dX2_run_218 (by decide) rfl rfl ?_
          refine G_iload_n 2 dX2_run_221 rfl rfl ?_
          refine G_bipush (v := 63) dX2_run_222 (by decide) ?_
          refine G_iand dX2_run_224 ?_
          refine G_iload 0 dX2_run_225 rfl ?_
          refine G_iast (y1_29) dX2_run_227 ?_
          refine G_m (fun M15 => ?_)
          refine G_iinc (v := x4 + 1) (lv' := [(4, .int (x4 + 1)), (6, .int y14), (7, .int y5), (3, .int y3), (0, .ref (ad X 28)), (1, .ref (ad X a1)), (5, .int x5)]) 5 dX2_run_228 rfl rfl (by decide) rfl ?_
          refine G_goto (tgt := 18) dX2_run_231 (by decide) ?_
          exact G_sub [4, 5, 3, 0] rfl (hk18 y3 (x4 + 1) M15)
      · refine G_iload 1 dX2_run_141 rfl ?_
        refine G_ineg dX2_run_143 ?_
        refine G_vi (fun y16 => ?_)
        refine G_istore (lv' := [(6, .int y16), (7, .int y5), (3, .int y3), (0, .ref (ad X 28)), (1, .ref (ad X a1)), (4, .int x4), (5, .int x5)]) dX2_run_144 (by decide) rfl ?_
        refine G_goto (tgt := 217) dX2_run_146 (by decide) ?_
        refine G_aload_n 3 dX2_run_217 rfl rfl ?_
        refine G_get 0 clX2 (y1_28) fl_X2_9 dX2_run_218 (by decide) rfl rfl ?_
        refine G_iload_n 2 dX2_run_221 rfl rfl ?_
        refine G_bipush (v := 63) dX2_run_222 (by decide) ?_
        refine G_iand dX2_run_224 ?_
        refine G_iload 0 dX2_run_225 rfl ?_
        refine G_iast (y1_29) dX2_run_227 ?_
        refine G_m (fun M17 => ?_)
        refine G_iinc (v := x4 + 1) (lv' := [(4, .int (x4 + 1)), (6, .int y16), (7, .int y5), (3, .int y3), (0, .ref (ad X 28)), (1, .ref (ad X a1)), (5, .int x5)]) 5 dX2_run_228 rfl rfl (by decide) rfl ?_
        refine G_goto (tgt := 18) dX2_run_231 (by decide) ?_
        exact G_sub [4, 5, 3, 0] rfl (hk18 y3 (x4 + 1) M17)
    · refine G_aload_n 3 dX2_run_115 rfl rfl ?_
      refine G_get 1 clX2 (y1_28) fl_X2_15 dX2_run_116 (by decide) rfl rfl ?_
      refine G_aload_n 4 dX2_run_119 rfl rfl ?_
      refine G_iload 5 dX2_run_120 rfl ?_
      refine G_iald (ha1) dX2_run_122 ?_
      refine G_bipush (v := 16) dX2_run_123 (by decide) ?_
      refine G_idivK dX2_run_125 (by decide) ?_
      refine G_bipush (v := 7) dX2_run_126 (by decide) ?_
      refine G_iand dX2_run_128 ?_
      refine G_iald (y1_30) dX2_run_129 ?_
      refine G_vi (fun y18 => ?_)
      refine G_istore (lv' := [(6, .int y18), (7, .int y5), (3, .int y3), (0, .ref (ad X 28)), (1, .ref (ad X a1)), (4, .int x4), (5, .int x5)]) dX2_run_130 (by decide) rfl ?_
      refine G_goto (tgt := 217) dX2_run_132 (by decide) ?_
      refine G_aload_n 3 dX2_run_217 rfl rfl ?_
      refine G_get 0 clX2 (y1_28) fl_X2_9 dX2_run_218 (by decide) rfl rfl ?_
      refine G_iload_n 2 dX2_run_221 rfl rfl ?_
      refine G_bipush (v := 63) dX2_run_222 (by decide) ?_
      refine G_iand dX2_run_224 ?_
      refine G_iload 0 dX2_run_225 rfl ?_
      refine G_iast (y1_29) dX2_run_227 ?_
      refine G_m (fun M19 => ?_)
      refine G_iinc (v := x4 + 1) (lv' := [(4, .int (x4 + 1)), (6, .int y18), (7, .int y5), (3, .int y3), (0, .ref (ad X 28)), (1, .ref (ad X a1)), (5, .int x5)]) 5 dX2_run_228 rfl rfl (by decide) rfl ?_
      refine G_goto (tgt := 18) dX2_run_231 (by decide) ?_
      exact G_sub [4, 5, 3, 0] rfl (hk18 y3 (x4 + 1) M19)
  · refine G_aload_n 4 dX2_run_97 rfl rfl ?_
    refine G_iload 5 dX2_run_98 rfl ?_
    refine G_iald (ha1) dX2_run_100 ?_
    refine G_bipush (v := 16) dX2_run_101 (by decide) ?_
    refine G_idivK dX2_run_103 (by decide) ?_
    refine G_vi (fun y20 => ?_)
    refine G_istore (lv' := [(6, .int y20), (7, .int y5), (3, .int y3), (0, .ref (ad X 28)), (1, .ref (ad X a1)), (4, .int x4), (5, .int x5)]) dX2_run_104 (by decide) rfl ?_
    refine G_goto (tgt := 217) dX2_run_106 (by decide) ?_
    refine G_aload_n 3 dX2_run_217 rfl rfl ?_
    refine G_get 0 clX2 (y1_28) fl_X2_9 dX2_run_218 (by decide) rfl rfl ?_
    refine G_iload_n 2 dX2_run_221 rfl rfl ?_
    refine G_bipush (v := 63) dX2_run_222 (by decide) ?_
    refine G_iand dX2_run_224 ?_
    refine G_iload 0 dX2_run_225 rfl ?_
    refine G_iast (y1_29) dX2_run_227 ?_
    refine G_m (fun M21 => ?_)
    refine G_iinc (v := x4 + 1) (lv' := [(4, .int (x4 + 1)), (6, .int y20), (7, .int y5), (3, .int y3), (0, .ref (ad X 28)), (1, .ref (ad X a1)), (5, .int x5)]) 5 dX2_run_228 rfl rfl (by decide) rfl ?_
    refine G_goto (tgt := 18) dX2_run_231 (by decide) ?_
    exact G_sub [4, 5, 3, 0] rfl (hk18 y3 (x4 + 1) M21)
def f_X2_run_18 (a1 : Nat) : Nat → Int32 → Int32 → gM → Option (Int32 × gM)
  | 0, _, _, _ => none
  | n + 1, x3, x4, M => (if (800 : Int32) ≤ x4 then (some (x4, M)) else (g_ck x4 800 (g_v ((M.1 a1 (tn x4)) &&& (15 : Int32)) (fun y2 => (if y2 < (7 : Int32) then (if (1 : Int32) < y2 then (if y2 = (2 : Int32) then (f_X2_run_66 a1 (f_X2_run_18 a1 n) x4 y2 x3 (0 : Int32) M) else (f_X2_run_66 a1 (f_X2_run_18 a1 n) x4 y2 x3 ((-1) : Int32) M)) else (f_X2_run_66 a1 (f_X2_run_18 a1 n) x4 y2 x3 (1 : Int32) M)) else (some (x4, M)))))))
set_option maxRecDepth 100000 in
set_option maxHeartbeats 4000000 in
theorem o_X2_run_18 {X : gX} {a1 : Nat} (ha1 : Y1[a1]? = some (1, 800, [])) : ∀ (n : Nat) (x3 : Int32) (x4 : Int32) (M : gM), G Y1 jX2_run X (g_fin g_ei) 18 [(0, .ref (ad X 28)), (1, .ref (ad X a1)), (3, .int x3), (4, .int x4)] [] M (f_X2_run_18 a1 n x3 x4 M) := by
  intro n
  induction n with
  | zero => intro x3 x4 M; exact G_none
  | succ n ih =>
    intro x3 x4 M
    rw [f_X2_run_18]
    refine G_iload 3 dX2_run_18 rfl ?_
    refine G_aload_n 1 dX2_run_20 rfl rfl ?_
    refine G_alen (v := 800) (ha1) rfl dX2_run_21 ?_
    refine G_icmp_ge (tgt := 234) dX2_run_22 (by decide) ?_ ?_
    · refine G_iload 3 dX2_run_234 rfl ?_
      exact G_iret rfl dX2_run_236
    · refine G_aload_n 1 dX2_run_25 rfl rfl ?_
      refine G_iload 3 dX2_run_26 rfl ?_
      refine G_iald (ha1) dX2_run_28 ?_
      refine G_bipush (v := 15) dX2_run_29 (by decide) ?_
      refine G_iand dX2_run_31 ?_
      refine G_vi (fun y2 => ?_)
      refine G_istore (lv' := [(5, .int y2), (0, .ref (ad X 28)), (1, .ref (ad X a1)), (3, .int x3), (4, .int x4)]) dX2_run_32 (by decide) rfl ?_
      refine G_iload 0 dX2_run_34 rfl ?_
      refine G_bipush (v := 7) dX2_run_36 (by decide) ?_
      refine G_icmp_lt (tgt := 44) dX2_run_38 (by decide) ?_ ?_
      · refine G_iload_n 3 dX2_run_44 rfl rfl ?_
        refine G_iload 0 dX2_run_45 rfl ?_
        refine G_iconst (v := 1) dX2_run_47 (by decide) ?_
        refine G_icmp_gt (tgt := 55) dX2_run_48 (by decide) ?_ ?_
        · refine G_iload 0 dX2_run_55 rfl ?_
          refine G_iconst (v := 2) dX2_run_57 (by decide) ?_
          refine G_icmp_ne (tgt := 65) dX2_run_58 (by decide) ?_ ?_
          · refine G_iconst (v := (-1)) dX2_run_65 (by decide) ?_
            exact G_sub [1, 2, 4, 0] rfl (o_X2_run_66 ha1 ih x4 y2 x3 ((-1) : Int32) M)
          · refine G_iconst (v := 0) dX2_run_61 (by decide) ?_
            refine G_goto (tgt := 66) dX2_run_62 (by decide) ?_
            exact G_sub [1, 2, 4, 0] rfl (o_X2_run_66 ha1 ih x4 y2 x3 (0 : Int32) M)
        · refine G_iconst (v := 1) dX2_run_51 (by decide) ?_
          refine G_goto (tgt := 66) dX2_run_52 (by decide) ?_
          exact G_sub [1, 2, 4, 0] rfl (o_X2_run_66 ha1 ih x4 y2 x3 (1 : Int32) M)
      · refine G_iload 4 dX2_run_41 rfl ?_
        exact G_iret rfl dX2_run_43
def f_X2_run (a1 : Nat) (a2 : Int32) (M : gM) : Option (Int32 × gM) := (g_m (sI M 28 2 (0 : Int32)) (fun M1 => (if 0 ≤ a2 then (f_X2_run_18 a1 FU ((-1) : Int32) a2 M1) else (f_X2_run_18 a1 FU ((-1) : Int32) (0 : Int32) M1))))
set_option maxRecDepth 100000 in
set_option maxHeartbeats 4000000 in
theorem ok_X2_run {a1 : Nat} (ha1 : Y1[a1]? = some (1, 800, [])) (a2 : Int32) (M : gM) : g_met Y1 yX2_run jX2_run g_ei (fun Z => [.ref (Z.2.1 28), .ref (Z.2.1 a1), .int a2]) M (f_X2_run a1 a2 M) := by
  refine g_enter (fun Z => [(0, .ref (Z.2.1 28)), (1, .ref (Z.2.1 a1)), (2, .int a2)]) (by decide) rfl (fun Z => Nat.le_of_ble_eq_true rfl) (fun Z => rfl) (fun X => ?_)
  rw [f_X2_run]
  refine G_aload_n 0 dX2_run_0 rfl rfl ?_
  refine G_iconst (v := 0) dX2_run_1 (by decide) ?_
  refine G_putZ 2 clX2 (y1_28) fl_X2_26 dX2_run_2 (by decide) rfl rfl rfl ⟨rfl, rfl⟩ ?_
  refine G_m (fun M1 => ?_)
  refine G_iconst (v := (-1)) dX2_run_5 (by decide) ?_
  refine G_istore_n (lv' := [(3, .int (-1)), (0, .ref (ad X 28)), (1, .ref (ad X a1)), (2, .int a2)]) dX2_run_6 rfl (by decide) rfl ?_
  refine G_iload_n 3 dX2_run_7 rfl rfl ?_
  refine G_if_ge (tgt := 15) dX2_run_8 (by decide) ?_ ?_
  · refine G_iload_n 3 dX2_run_15 rfl rfl ?_
    refine G_istore (lv' := [(4, .int a2), (3, .int (-1)), (0, .ref (ad X 28)), (1, .ref (ad X a1)), (2, .int a2)]) dX2_run_16 (by decide) rfl ?_
    exact G_sub [2, 3, 1, 0] rfl (o_X2_run_18 ha1 FU ((-1) : Int32) a2 M1)
  · refine G_iconst (v := 0) dX2_run_11 (by decide) ?_
    refine G_goto (tgt := 16) dX2_run_12 (by decide) ?_
    refine G_istore (lv' := [(4, .int 0), (3, .int (-1)), (0, .ref (ad X 28)), (1, .ref (ad X a1)), (2, .int a2)]) dX2_run_16 (by decide) rfl ?_
    exact G_sub [2, 3, 1, 0] rfl (o_X2_run_18 ha1 FU ((-1) : Int32) (0 : Int32) M1)
-- X2_holds
def f_X2_holds_52 (a1 : Nat) (k15 : Int32 → Int32 → Int32 → gM → Option (Bool × gM)) (x3 : Int32) (x4 : Int32) (x5 : Int32) (s0 : Int32) (M : gM) : Option (Bool × gM) := (g_v (s0 &&& (15 : Int32)) (fun y3 => (if y3 = (7 : Int32) then (if x3 = 0 then (k15 (0 : Int32) (x4 + 1) (x5 + 1) M) else (g_b (f_X2_literal (s0 / (16 : Int32)) M) (fun r5 M4 => (if r5 then (k15 (1 : Int32) (x4 + 1) (x5 + 1) M4) else (k15 (0 : Int32) (x4 + 1) (x5 + 1) M4))))) else (if x3 = 0 then (if y3 = (8 : Int32) then (k15 (1 : Int32) (x4 + 1) (x5 + 1) M) else (g_tb x3 (fun b => some (b, M)))) else (g_tb x3 (fun b => some (b, M)))))))
set_option maxRecDepth 100000 in
set_option maxHeartbeats 4000000 in
theorem o_X2_holds_52 {X : gX} {a1 : Nat} {k15 : Int32 → Int32 → Int32 → gM → Option (Bool × gM)} (ha1 : Y1[a1]? = some (1, 800, [])) (hk15 : ∀ (x3 : Int32) (x4 : Int32) (x5 : Int32) (M : gM), G Y1 jX2_holds X (g_fin g_eb) 15 [(0, .ref (ad X 28)), (1, .ref (ad X a1)), (3, .int x3), (4, .int x4), (5, .int x5)] [] M (k15 x3 x4 x5 M)) (x3 : Int32) (x4 : Int32) (x5 : Int32) (s0 : Int32) (M : gM) : G Y1 jX2_holds X (g_fin g_eb) 52 [(0, .ref (ad X 28)), (1, .ref (ad X a1)), (3, .int x3), (4, .int x4), (5, .int x5)] [.int s0] M (f_X2_holds_52 a1 k15 x3 x4 x5 s0 M) := by
  rw [f_X2_holds_52]
  refine G_istore (lv' := [(6, .int s0), (0, .ref (ad X 28)), (1, .ref (ad X a1)), (3, .int x3), (4, .int x4), (5, .int x5)]) dX2_holds_52 (by decide) rfl ?_
  refine G_iload 0 dX2_holds_54 rfl ?_
  refine G_bipush (v := 15) dX2_holds_56 (by decide) ?_
  refine G_iand dX2_holds_58 ?_
  refine G_vi (fun y3 => ?_)
  refine G_istore (lv' := [(7, .int y3), (6, .int s0), (0, .ref (ad X 28)), (1, .ref (ad X a1)), (3, .int x3), (4, .int x4), (5, .int x5)]) dX2_holds_59 (by decide) rfl ?_
  refine G_iload 0 dX2_holds_61 rfl ?_
  refine G_bipush (v := 7) dX2_holds_63 (by decide) ?_
  refine G_icmp_ne (tgt := 93) dX2_holds_65 (by decide) ?_ ?_
  · refine G_iload_n 4 dX2_holds_93 rfl rfl ?_
    refine G_if_ne (tgt := 104) dX2_holds_94 (by decide) ?_ ?_
    · refine G_iload_n 4 dX2_holds_104 rfl rfl ?_
      exact G_zretI rfl dX2_holds_105
    · refine G_iload 0 dX2_holds_97 rfl ?_
      refine G_bipush (v := 8) dX2_holds_99 (by decide) ?_
      refine G_icmp_eq (tgt := 106) dX2_holds_101 (by decide) ?_ ?_
      · refine G_iconst (v := 1) dX2_holds_106 (by decide) ?_
        refine G_istore_n (lv' := [(3, .int 1), (7, .int y3), (6, .int s0), (0, .ref (ad X 28)), (1, .ref (ad X a1)), (4, .int x4), (5, .int x5)]) dX2_holds_107 rfl (by decide) rfl ?_
        refine G_iinc (v := x4 + 1) (lv' := [(4, .int (x4 + 1)), (3, .int 1), (7, .int y3), (6, .int s0), (0, .ref (ad X 28)), (1, .ref (ad X a1)), (5, .int x5)]) 5 dX2_holds_108 rfl rfl (by decide) rfl ?_
        refine G_iinc (v := x5 + 1) (lv' := [(5, .int (x5 + 1)), (4, .int (x4 + 1)), (3, .int 1), (7, .int y3), (6, .int s0), (0, .ref (ad X 28)), (1, .ref (ad X a1))]) 6 dX2_holds_111 rfl rfl (by decide) rfl ?_
        refine G_goto (tgt := 15) dX2_holds_114 (by decide) ?_
        exact G_sub [5, 6, 2, 1, 0] rfl (hk15 (1 : Int32) (x4 + 1) (x5 + 1) M)
      · refine G_iload_n 4 dX2_holds_104 rfl rfl ?_
        exact G_zretI rfl dX2_holds_105
  · refine G_iload_n 4 dX2_holds_68 rfl rfl ?_
    refine G_if_eq (tgt := 88) dX2_holds_69 (by decide) ?_ ?_
    · refine G_iconst (v := 0) dX2_holds_88 (by decide) ?_
      refine G_istore_n (lv' := [(3, .int 0), (7, .int y3), (6, .int s0), (0, .ref (ad X 28)), (1, .ref (ad X a1)), (4, .int x4), (5, .int x5)]) dX2_holds_89 rfl (by decide) rfl ?_
      refine G_goto (tgt := 108) dX2_holds_90 (by decide) ?_
      refine G_iinc (v := x4 + 1) (lv' := [(4, .int (x4 + 1)), (3, .int 0), (7, .int y3), (6, .int s0), (0, .ref (ad X 28)), (1, .ref (ad X a1)), (5, .int x5)]) 5 dX2_holds_108 rfl rfl (by decide) rfl ?_
      refine G_iinc (v := x5 + 1) (lv' := [(5, .int (x5 + 1)), (4, .int (x4 + 1)), (3, .int 0), (7, .int y3), (6, .int s0), (0, .ref (ad X 28)), (1, .ref (ad X a1))]) 6 dX2_holds_111 rfl rfl (by decide) rfl ?_
      refine G_goto (tgt := 15) dX2_holds_114 (by decide) ?_
      exact G_sub [5, 6, 2, 1, 0] rfl (hk15 (0 : Int32) (x4 + 1) (x5 + 1) M)
    · refine G_aload_n 2 dX2_holds_72 rfl rfl ?_
      refine G_iload 1 dX2_holds_73 rfl ?_
      refine G_bipush (v := 16) dX2_holds_75 (by decide) ?_
      refine G_idivK dX2_holds_77 (by decide) ?_
      refine G_cVb (As := [.int (s0 / (16 : Int32))]) (rest := []) (ok_X2_literal (s0 / (16 : Int32)) M) rfl (y1_28) rfl mv_X2_22 dX2_holds_78 rfl rfl (Nat.le_of_ble_eq_true rfl) (g_fitN (by decide) (by decide)) (fun r5 M4 => ?_)
      refine G_ifB_eq (tgt := 88) dX2_holds_81 (by decide) ?_ ?_
      · refine G_iconst (v := 0) dX2_holds_88 (by decide) ?_
        refine G_istore_n (lv' := [(3, .int 0), (7, .int y3), (6, .int s0), (0, .ref (ad X 28)), (1, .ref (ad X a1)), (4, .int x4), (5, .int x5)]) dX2_holds_89 rfl (by decide) rfl ?_
        refine G_goto (tgt := 108) dX2_holds_90 (by decide) ?_
        refine G_iinc (v := x4 + 1) (lv' := [(4, .int (x4 + 1)), (3, .int 0), (7, .int y3), (6, .int s0), (0, .ref (ad X 28)), (1, .ref (ad X a1)), (5, .int x5)]) 5 dX2_holds_108 rfl rfl (by decide) rfl ?_
        refine G_iinc (v := x5 + 1) (lv' := [(5, .int (x5 + 1)), (4, .int (x4 + 1)), (3, .int 0), (7, .int y3), (6, .int s0), (0, .ref (ad X 28)), (1, .ref (ad X a1))]) 6 dX2_holds_111 rfl rfl (by decide) rfl ?_
        refine G_goto (tgt := 15) dX2_holds_114 (by decide) ?_
        exact G_sub [5, 6, 2, 1, 0] rfl (hk15 (0 : Int32) (x4 + 1) (x5 + 1) M4)
      · refine G_iconst (v := 1) dX2_holds_84 (by decide) ?_
        refine G_goto (tgt := 89) dX2_holds_85 (by decide) ?_
        refine G_istore_n (lv' := [(3, .int 1), (7, .int y3), (6, .int s0), (0, .ref (ad X 28)), (1, .ref (ad X a1)), (4, .int x4), (5, .int x5)]) dX2_holds_89 rfl (by decide) rfl ?_
        refine G_goto (tgt := 108) dX2_holds_90 (by decide) ?_
        refine G_iinc (v := x4 + 1) (lv' := [(4, .int (x4 + 1)), (3, .int 1), (7, .int y3), (6, .int s0), (0, .ref (ad X 28)), (1, .ref (ad X a1)), (5, .int x5)]) 5 dX2_holds_108 rfl rfl (by decide) rfl ?_
        refine G_iinc (v := x5 + 1) (lv' := [(5, .int (x5 + 1)), (4, .int (x4 + 1)), (3, .int 1), (7, .int y3), (6, .int s0), (0, .ref (ad X 28)), (1, .ref (ad X a1))]) 6 dX2_holds_111 rfl rfl (by decide) rfl ?_
        refine G_goto (tgt := 15) dX2_holds_114 (by decide) ?_
        exact G_sub [5, 6, 2, 1, 0] rfl (hk15 (1 : Int32) (x4 + 1) (x5 + 1) M4)
def f_X2_holds_50 (a1 : Nat) (k52 : Int32 → Int32 → Int32 → Int32 → gM → Option (Bool × gM)) (x3 : Int32) (x4 : Int32) (x5 : Int32) (M : gM) : Option (Bool × gM) := (k52 x3 x4 x5 (9 : Int32) M)
set_option maxRecDepth 100000 in
set_option maxHeartbeats 4000000 in
theorem o_X2_holds_50 {X : gX} {a1 : Nat} {k52 : Int32 → Int32 → Int32 → Int32 → gM → Option (Bool × gM)} (ha1 : Y1[a1]? = some (1, 800, [])) (hk52 : ∀ (x3 : Int32) (x4 : Int32) (x5 : Int32) (s0 : Int32) (M : gM), G Y1 jX2_holds X (g_fin g_eb) 52 [(0, .ref (ad X 28)), (1, .ref (ad X a1)), (3, .int x3), (4, .int x4), (5, .int x5)] [.int s0] M (k52 x3 x4 x5 s0 M)) (x3 : Int32) (x4 : Int32) (x5 : Int32) (M : gM) : G Y1 jX2_holds X (g_fin g_eb) 50 [(0, .ref (ad X 28)), (1, .ref (ad X a1)), (3, .int x3), (4, .int x4), (5, .int x5)] [] M (f_X2_holds_50 a1 k52 x3 x4 x5 M) := by
  rw [f_X2_holds_50]
  refine G_bipush (v := 9) dX2_holds_50 (by decide) ?_
  exact G_sub [0, 1, 2, 3, 4] rfl (hk52 x3 x4 x5 (9 : Int32) M)
def f_X2_holds_15 (a1 : Nat) : Nat → Int32 → Int32 → Int32 → gM → Option (Bool × gM)
  | 0, _, _, _, _ => none
  | n + 1, x3, x4, x5, M => (if (800 : Int32) < x5 then (some (false, M)) else (g_b (f_X2_run a1 x4 M) (fun r2 M1 => (if r2 < 0 then (f_X2_holds_50 a1 (f_X2_holds_52 a1 (f_X2_holds_15 a1 n)) x3 r2 x5 M1) else (if (800 : Int32) ≤ r2 then (f_X2_holds_50 a1 (f_X2_holds_52 a1 (f_X2_holds_15 a1 n)) x3 r2 x5 M1) else (g_ck r2 800 (f_X2_holds_52 a1 (f_X2_holds_15 a1 n) x3 r2 x5 (M1.1 a1 (tn r2)) M1)))))))
set_option maxRecDepth 100000 in
set_option maxHeartbeats 4000000 in
theorem o_X2_holds_15 {X : gX} {a1 : Nat} (ha1 : Y1[a1]? = some (1, 800, [])) : ∀ (n : Nat) (x3 : Int32) (x4 : Int32) (x5 : Int32) (M : gM), G Y1 jX2_holds X (g_fin g_eb) 15 [(0, .ref (ad X 28)), (1, .ref (ad X a1)), (3, .int x3), (4, .int x4), (5, .int x5)] [] M (f_X2_holds_15 a1 n x3 x4 x5 M) := by
  intro n
  induction n with
  | zero => intro x3 x4 x5 M; exact G_none
  | succ n ih =>
    intro x3 x4 x5 M
    rw [f_X2_holds_15]
    refine G_iload 4 dX2_holds_15 rfl ?_
    refine G_aload_n 1 dX2_holds_17 rfl rfl ?_
    refine G_alen (v := 800) (ha1) rfl dX2_holds_18 ?_
    refine G_icmp_gt (tgt := 117) dX2_holds_19 (by decide) ?_ ?_
    · refine G_iconst (v := 0) dX2_holds_117 (by decide) ?_
      exact G_zret (b := false) rfl dX2_holds_118
    · refine G_aload_n 0 dX2_holds_22 rfl rfl ?_
      refine G_aload_n 1 dX2_holds_23 rfl rfl ?_
      refine G_iload 3 dX2_holds_24 rfl ?_
      refine G_cVi (As := [.ref (ad X a1), .int x4]) (rest := []) (ok_X2_run (ha1) x4 M) rfl (y1_28) rfl mv_X2_18 dX2_holds_26 rfl rfl (Nat.le_of_ble_eq_true rfl) (g_fitN (by decide) (by decide)) (fun r2 M1 => ?_)
      refine G_istore (lv' := [(4, .int r2), (0, .ref (ad X 28)), (1, .ref (ad X a1)), (3, .int x3), (5, .int x5)]) dX2_holds_29 (by decide) rfl ?_
      refine G_iload 0 dX2_holds_31 rfl ?_
      refine G_if_lt (tgt := 50) dX2_holds_33 (by decide) ?_ ?_
      · exact G_sub [1, 2, 3, 0, 4] rfl (o_X2_holds_50 ha1 (o_X2_holds_52 ha1 ih) x3 r2 x5 M1)
      · refine G_iload 0 dX2_holds_36 rfl ?_
        refine G_aload_n 2 dX2_holds_38 rfl rfl ?_
        refine G_alen (v := 800) (ha1) rfl dX2_holds_39 ?_
        refine G_icmp_ge (tgt := 50) dX2_holds_40 (by decide) ?_ ?_
        · exact G_sub [1, 2, 3, 0, 4] rfl (o_X2_holds_50 ha1 (o_X2_holds_52 ha1 ih) x3 r2 x5 M1)
        · refine G_aload_n 2 dX2_holds_43 rfl rfl ?_
          refine G_iload 0 dX2_holds_44 rfl ?_
          refine G_iald (ha1) dX2_holds_46 ?_
          refine G_goto (tgt := 52) dX2_holds_47 (by decide) ?_
          exact G_sub [1, 2, 3, 0, 4] rfl (o_X2_holds_52 ha1 ih x3 r2 x5 (M1.1 a1 (tn r2)) M1)
def f_X2_holds (a1 : Nat) (a2 : Int32) (M : gM) : Option (Bool × gM) := (if a2 = ((-1) : Int32) then (some (true, M)) else (f_X2_holds_15 a1 FU (1 : Int32) a2 (0 : Int32) M))
set_option maxRecDepth 100000 in
set_option maxHeartbeats 4000000 in
theorem ok_X2_holds {a1 : Nat} (ha1 : Y1[a1]? = some (1, 800, [])) (a2 : Int32) (M : gM) : g_met Y1 yX2_holds jX2_holds g_eb (fun Z => [.ref (Z.2.1 28), .ref (Z.2.1 a1), .int a2]) M (f_X2_holds a1 a2 M) := by
  refine g_enter (fun Z => [(0, .ref (Z.2.1 28)), (1, .ref (Z.2.1 a1)), (2, .int a2)]) (by decide) rfl (fun Z => Nat.le_of_ble_eq_true rfl) (fun Z => rfl) (fun X => ?_)
  rw [f_X2_holds]
  refine G_iload_n 2 dX2_holds_0 rfl rfl ?_
  refine G_iconst (v := (-1)) dX2_holds_1 (by decide) ?_
  refine G_icmp_ne (tgt := 7) dX2_holds_2 (by decide) ?_ ?_
  · refine G_iconst (v := 1) dX2_holds_7 (by decide) ?_
    refine G_istore_n (lv' := [(3, .int 1), (0, .ref (ad X 28)), (1, .ref (ad X a1)), (2, .int a2)]) dX2_holds_8 rfl (by decide) rfl ?_
    refine G_iload_n 3 dX2_holds_9 rfl rfl ?_
    refine G_istore (lv' := [(4, .int a2), (3, .int 1), (0, .ref (ad X 28)), (1, .ref (ad X a1)), (2, .int a2)]) dX2_holds_10 (by decide) rfl ?_
    refine G_iconst (v := 0) dX2_holds_12 (by decide) ?_
    refine G_istore (lv' := [(5, .int 0), (4, .int a2), (3, .int 1), (0, .ref (ad X 28)), (1, .ref (ad X a1)), (2, .int a2)]) dX2_holds_13 (by decide) rfl ?_
    exact G_sub [3, 4, 2, 1, 0] rfl (o_X2_holds_15 ha1 FU (1 : Int32) a2 (0 : Int32) M)
  · refine G_iconst (v := 1) dX2_holds_5 (by decide) ?_
    exact G_zret (b := true) rfl dX2_holds_6
-- X2_standAt
def f_X2_standAt (a1 : Int32) (a2 : Int32) (M : gM) : Option (Unit × gM) := (g_ck (0 : Int32) 8 (g_m (sI M 30 (tn (0 : Int32)) (a1 / (231 : Int32))) (fun M1 => (g_ck (1 : Int32) 8 (g_m (sI M1 30 (tn (1 : Int32)) (((a1 / (11 : Int32)) - (a1 / (11 : Int32)) / (21 : Int32) * (21 : Int32)) - (10 : Int32))) (fun M2 => (g_ck (2 : Int32) 8 (g_m (sI M2 30 (tn (2 : Int32)) ((a1 - a1 / (11 : Int32) * (11 : Int32)) - (5 : Int32))) (fun M3 => (g_ck (3 : Int32) 8 (g_m (sI M3 30 (tn (3 : Int32)) (0 : Int32)) (fun M4 => (g_ck (4 : Int32) 8 (g_m (sI M4 30 (tn (4 : Int32)) (0 : Int32)) (fun M5 => (g_ck (5 : Int32) 8 (g_m (sI M5 30 (tn (5 : Int32)) a2) (fun M6 => (some ((), M6))))))))))))))))))))
set_option maxRecDepth 100000 in
set_option maxHeartbeats 4000000 in
theorem ok_X2_standAt (a1 : Int32) (a2 : Int32) (M : gM) : g_met Y1 yX2_standAt jX2_standAt g_ev (fun Z => [.ref (Z.2.1 28), .int a1, .int a2]) M (f_X2_standAt a1 a2 M) := by
  refine g_enter (fun Z => [(0, .ref (Z.2.1 28)), (1, .int a1), (2, .int a2)]) (by decide) rfl (fun Z => Nat.le_of_ble_eq_true rfl) (fun Z => rfl) (fun X => ?_)
  rw [f_X2_standAt]
  refine G_aload_n 0 dX2_standAt_0 rfl rfl ?_
  refine G_get 1 clX2 (y1_28) fl_X2_15 dX2_standAt_1 (by decide) rfl rfl ?_
  refine G_iconst (v := 0) dX2_standAt_4 (by decide) ?_
  refine G_iload_n 1 dX2_standAt_5 rfl rfl ?_
  refine G_sipush (v := 231) dX2_standAt_6 (by decide) ?_
  refine G_idivK dX2_standAt_9 (by decide) ?_
  refine G_iast (y1_30) dX2_standAt_10 ?_
  refine G_m (fun M1 => ?_)
  refine G_aload_n 0 dX2_standAt_11 rfl rfl ?_
  refine G_get 1 clX2 (y1_28) fl_X2_15 dX2_standAt_12 (by decide) rfl rfl ?_
  refine G_iconst (v := 1) dX2_standAt_15 (by decide) ?_
  refine G_iload_n 1 dX2_standAt_16 rfl rfl ?_
  refine G_bipush (v := 11) dX2_standAt_17 (by decide) ?_
  refine G_idivK dX2_standAt_19 (by decide) ?_
  refine G_bipush (v := 21) dX2_standAt_20 (by decide) ?_
  refine G_iremK dX2_standAt_22 (by decide) ?_
  refine G_bipush (v := 10) dX2_standAt_23 (by decide) ?_
  refine G_isub dX2_standAt_25 ?_
  refine G_iast (y1_30) dX2_standAt_26 ?_
  refine G_m (fun M2 => ?_)
  refine G_aload_n 0 dX2_standAt_27 rfl rfl ?_
  refine G_get 1 clX2 (y1_28) fl_X2_15 dX2_standAt_28 (by decide) rfl rfl ?_
  refine G_iconst (v := 2) dX2_standAt_31 (by decide) ?_
  refine G_iload_n 1 dX2_standAt_32 rfl rfl ?_
  refine G_bipush (v := 11) dX2_standAt_33 (by decide) ?_
  refine G_iremK dX2_standAt_35 (by decide) ?_
  refine G_iconst (v := 5) dX2_standAt_36 (by decide) ?_
  refine G_isub dX2_standAt_37 ?_
  refine G_iast (y1_30) dX2_standAt_38 ?_
  refine G_m (fun M3 => ?_)
  refine G_aload_n 0 dX2_standAt_39 rfl rfl ?_
  refine G_get 1 clX2 (y1_28) fl_X2_15 dX2_standAt_40 (by decide) rfl rfl ?_
  refine G_iconst (v := 3) dX2_standAt_43 (by decide) ?_
  refine G_iconst (v := 0) dX2_standAt_44 (by decide) ?_
  refine G_iast (y1_30) dX2_standAt_45 ?_
  refine G_m (fun M4 => ?_)
  refine G_aload_n 0 dX2_standAt_46 rfl rfl ?_
  refine G_get 1 clX2 (y1_28) fl_X2_15 dX2_standAt_47 (by decide) rfl rfl ?_
  refine G_iconst (v := 4) dX2_standAt_50 (by decide) ?_
  refine G_iconst (v := 0) dX2_standAt_51 (by decide) ?_
  refine G_iast (y1_30) dX2_standAt_52 ?_
  refine G_m (fun M5 => ?_)
  refine G_aload_n 0 dX2_standAt_53 rfl rfl ?_
  refine G_get 1 clX2 (y1_28) fl_X2_15 dX2_standAt_54 (by decide) rfl rfl ?_
  refine G_iconst (v := 5) dX2_standAt_57 (by decide) ?_
  refine G_iload_n 2 dX2_standAt_58 rfl rfl ?_
  refine G_iast (y1_30) dX2_standAt_59 ?_
  refine G_m (fun M6 => ?_)
  exact G_vret rfl dX2_standAt_60
-- X4_atOf
def f_X4_atOf (a0 : Int32) (M : gM) : Option (Int32 × gM) := (some ((a0 / (231 : Int32)), M))
set_option maxRecDepth 100000 in
set_option maxHeartbeats 4000000 in
theorem ok_X4_atOf (a0 : Int32) (M : gM) : g_met Y1 yX4_atOf jX4_atOf g_ei (fun Z => [.int a0]) M (f_X4_atOf a0 M) := by
  refine g_enter (fun Z => [(0, .int a0)]) (by decide) rfl (fun Z => Nat.le_of_ble_eq_true rfl) (fun Z => rfl) (fun X => ?_)
  rw [f_X4_atOf]
  refine G_iload_n 0 dX4_atOf_0 rfl rfl ?_
  refine G_sipush (v := 231) dX4_atOf_1 (by decide) ?_
  refine G_idivK dX4_atOf_4 (by decide) ?_
  exact G_iret rfl dX4_atOf_5
-- X4_isOver
def f_X4_isOver (t : Nat) (a1 : Int32) (M : gM) : Option (Bool × gM) := (g_b (f_X4_atOf a1 M) (fun r2 M1 => (if r2 = (M1.1 t 0) then (some (true, M1)) else (some (false, M1)))))
set_option maxRecDepth 100000 in
set_option maxHeartbeats 4000000 in
theorem ok_X4_isOver {t : Nat} (ht : t = 3 ∨ t = 12) (a1 : Int32) (M : gM) : g_met Y1 yX4_isOver jX4_isOver g_eb (fun Z => [.ref (Z.2.1 t), .int a1]) M (f_X4_isOver t a1 M) := by
  refine g_enter (fun Z => [(0, .ref (Z.2.1 t)), (1, .int a1)]) (by decide) rfl (fun Z => Nat.le_of_ble_eq_true rfl) (fun Z => rfl) (fun X => ?_)
  rw [f_X4_isOver]
  refine G_iload_n 1 dX4_isOver_0 rfl rfl ?_
  refine G_cSi (As := [.int a1]) (rest := []) (ok_X4_atOf a1 M) rfl ms_X4_69 dX4_isOver_1 rfl rfl (Nat.le_of_ble_eq_true rfl) (g_fitN (by decide) (by decide)) (fun r2 M1 => ?_)
  refine G_aload_n 0 dX4_isOver_4 rfl rfl ?_
  refine G_get 0 clX4 (ro_0 ht) fl_X4_37 dX4_isOver_5 (by decide) rfl rfl ?_
  refine G_icmp_ne (tgt := 15) dX4_isOver_8 (by decide) ?_ ?_
  · refine G_iconst (v := 0) dX4_isOver_15 (by decide) ?_
    exact G_zret (b := false) rfl dX4_isOver_16
  · refine G_iconst (v := 1) dX4_isOver_11 (by decide) ?_
    refine G_goto (tgt := 16) dX4_isOver_12 (by decide) ?_
    exact G_zret (b := true) rfl dX4_isOver_16
-- X0_survey
def f_X0_survey_163 : Nat → Int32 → Int32 → Int32 → gM → Option (Unit × gM)
  | 0, _, _, _, _ => none
  | n + 1, x1, x3, x4, M => (g_or 3 12 (M.2.2 27 0) (fun t10 => (if (M.1 t10 5) ≤ x4 then (g_ck x1 2079 (g_m (sI M 32 (tn x1) x3) (fun M11 => (some ((), M11))))) else (g_or 3 12 (M.2.2 27 0) (fun t12 => (g_b (f_X4_isOver t12 x1 M) (fun r14 M13 => (if r14 then (g_ck x1 2079 (g_m (sI M13 32 (tn x1) x3) (fun M15 => (some ((), M15))))) else (g_or 3 12 (M13.2.2 27 0) (fun t16 => (g_ck x4 6 (g_ck (3 : Int32) 8 (g_m (sI M13 30 (tn (3 : Int32)) (M13.1 (t16 + 3) (tn x4))) (fun M17 => (g_or 3 12 (M17.2.2 27 0) (fun t18 => (g_or 3 12 (M17.2.2 27 0) (fun t19 => (g_ck x4 6 (g_b (f_X2_holds (t18 + 1) (M17.1 (t19 + 5) (tn x4)) M17) (fun r21 M20 => (if r21 then (g_v (x3 ||| ((1 : Int32) <<< (x4 &&& 31))) (fun y22 => (f_X0_survey_163 n x1 y22 (x4 + 1) M20))) else (f_X0_survey_163 n x1 x3 (x4 + 1) M20)))))))))))))))))))))))
set_option maxRecDepth 100000 in
set_option maxHeartbeats 4000000 in
theorem o_X0_survey_163 {X : gX} : ∀ (n : Nat) (x1 : Int32) (x3 : Int32) (x4 : Int32) (M : gM), G Y1 jX0_survey X (g_fin g_ev) 163 [(0, .ref (ad X 27)), (1, .int x1), (3, .int x3), (4, .int x4)] [] M (f_X0_survey_163 n x1 x3 x4 M) := by
  intro n
  induction n with
  | zero => intro x1 x3 x4 M; exact G_none
  | succ n ih =>
    intro x1 x3 x4 M
    rw [f_X0_survey_163]
    refine G_iload 3 dX0_survey_163 rfl ?_
    refine G_aload_n 0 dX0_survey_165 rfl rfl ?_
    refine G_getO 0 clX0 (y1_27) fl_X0_39 dX0_survey_166 (by decide) rfl (by decide) (fun t10 ht10 => ?_)
    refine G_get 5 clX4 (ro_0 ht10) fl_X0_77 dX0_survey_169 (by decide) rfl rfl ?_
    refine G_icmp_ge (tgt := 245) dX0_survey_172 (by decide) ?_ ?_
    · refine G_aload_n 0 dX0_survey_245 rfl rfl ?_
      refine G_get 5 clX0 (y1_27) fl_X0_22 dX0_survey_246 (by decide) rfl rfl ?_
      refine G_iload_n 1 dX0_survey_249 rfl rfl ?_
      refine G_iload_n 2 dX0_survey_250 rfl rfl ?_
      refine G_iast (y1_32) dX0_survey_251 ?_
      refine G_m (fun M11 => ?_)
      exact G_vret rfl dX0_survey_252
    · refine G_aload_n 0 dX0_survey_175 rfl rfl ?_
      refine G_getO 0 clX0 (y1_27) fl_X0_39 dX0_survey_176 (by decide) rfl (by decide) (fun t12 ht12 => ?_)
      refine G_iload_n 1 dX0_survey_179 rfl rfl ?_
      refine G_cVb (As := [.int x1]) (rest := []) (ok_X4_isOver ht12 x1 M) rfl (ro_0 ht12) rfl mv_X0_80 dX0_survey_180 rfl rfl (Nat.le_of_ble_eq_true rfl) (g_fitN (by decide) (by decide)) (fun r14 M13 => ?_)
      refine G_ifB_ne (tgt := 245) dX0_survey_183 (by decide) ?_ ?_
      · refine G_aload_n 0 dX0_survey_245 rfl rfl ?_
        refine G_get 5 clX0 (y1_27) fl_X0_22 dX0_survey_246 (by decide) rfl rfl ?_
        refine G_iload_n 1 dX0_survey_249 rfl rfl ?_
        refine G_iload_n 2 dX0_survey_250 rfl rfl ?_
        refine G_iast (y1_32) dX0_survey_251 ?_
        refine G_m (fun M15 => ?_)
        exact G_vret rfl dX0_survey_252
      · refine G_aload_n 0 dX0_survey_186 rfl rfl ?_
        refine G_get 3 clX0 (y1_27) fl_X0_12 dX0_survey_187 (by decide) rfl rfl ?_
        refine G_get 1 clX2 (y1_28) fl_X0_84 dX0_survey_190 (by decide) rfl rfl ?_
        refine G_iconst (v := 3) dX0_survey_193 (by decide) ?_
        refine G_aload_n 0 dX0_survey_194 rfl rfl ?_
        refine G_getO 0 clX0 (y1_27) fl_X0_39 dX0_survey_195 (by decide) rfl (by decide) (fun t16 ht16 => ?_)
        refine G_get 11 clX4 (ro_0 ht16) fl_X0_87 dX0_survey_198 (by decide) rfl rfl ?_
        refine G_iload 3 dX0_survey_201 rfl ?_
        refine G_iald (ro_3 ht16) dX0_survey_203 ?_
        refine G_iast (y1_30) dX0_survey_204 ?_
        refine G_m (fun M17 => ?_)
        refine G_aload_n 0 dX0_survey_205 rfl rfl ?_
        refine G_get 3 clX0 (y1_27) fl_X0_12 dX0_survey_206 (by decide) rfl rfl ?_
        refine G_aload_n 0 dX0_survey_209 rfl rfl ?_
        refine G_getO 0 clX0 (y1_27) fl_X0_39 dX0_survey_210 (by decide) rfl (by decide) (fun t18 ht18 => ?_)
        refine G_get 9 clX4 (ro_0 ht18) fl_X0_70 dX0_survey_213 (by decide) rfl rfl ?_
        refine G_aload_n 0 dX0_survey_216 rfl rfl ?_
        refine G_getO 0 clX0 (y1_27) fl_X0_39 dX0_survey_217 (by decide) rfl (by decide) (fun t19 ht19 => ?_)
        refine G_get 13 clX4 (ro_0 ht19) fl_X0_90 dX0_survey_220 (by decide) rfl rfl ?_
        refine G_iload 3 dX0_survey_223 rfl ?_
        refine G_iald (ro_5 ht19) dX0_survey_225 ?_
        refine G_cVb (As := [.ref (ad X (t18 + 1)), .int (M17.1 (t19 + 5) (tn x4))]) (rest := []) (ok_X2_holds (ro_1 ht18) (M17.1 (t19 + 5) (tn x4)) M17) rfl (y1_28) rfl mv_X0_73 dX0_survey_226 rfl rfl (Nat.le_of_ble_eq_true rfl) (g_fitN (by decide) (by decide)) (fun r21 M20 => ?_)
        refine G_ifB_eq (tgt := 239) dX0_survey_229 (by decide) ?_ ?_
        · refine G_iinc (v := x4 + 1) (lv' := [(4, .int (x4 + 1)), (0, .ref (ad X 27)), (1, .int x1), (3, .int x3)]) 3 dX0_survey_239 rfl rfl (by decide) rfl ?_
          refine G_goto (tgt := 163) dX0_survey_242 (by decide) ?_
          exact G_sub [1, 2, 3, 0] rfl (ih x1 x3 (x4 + 1) M20)
        · refine G_iload_n 2 dX0_survey_232 rfl rfl ?_
          refine G_iconst (v := 1) dX0_survey_233 (by decide) ?_
          refine G_iload 3 dX0_survey_234 rfl ?_
          refine G_ishl dX0_survey_236 ?_
          refine G_ior dX0_survey_237 ?_
          refine G_vi (fun y22 => ?_)
          refine G_istore_n (lv' := [(3, .int y22), (0, .ref (ad X 27)), (1, .int x1), (4, .int x4)]) dX0_survey_238 rfl (by decide) rfl ?_
          refine G_iinc (v := x4 + 1) (lv' := [(4, .int (x4 + 1)), (3, .int y22), (0, .ref (ad X 27)), (1, .int x1)]) 3 dX0_survey_239 rfl rfl (by decide) rfl ?_
          refine G_goto (tgt := 163) dX0_survey_242 (by decide) ?_
          exact G_sub [2, 3, 1, 0] rfl (ih x1 y22 (x4 + 1) M20)
def f_X0_survey_65 : Nat → Int32 → Int32 → Int32 → gM → Option (Unit × gM)
  | 0, _, _, _, _ => none
  | n + 1, x1, x2, x3, M => (g_or 3 12 (M.2.2 27 0) (fun t9 => (if ((M.1 t9 6) * (5 : Int32)) ≤ x3 then (f_X0_survey_163 FU x1 (0 : Int32) (0 : Int32) M) else (g_or 3 12 (M.2.2 27 0) (fun t23 => (g_ck x3 40 (if x2 < (M.1 (t23 + 6) (tn x3)) then (f_X0_survey_65 n x1 x2 (x3 + 5) M) else (g_ck (x3 + (1 : Int32)) 40 (if (M.1 (t23 + 6) (tn (x3 + (1 : Int32)))) < x2 then (f_X0_survey_65 n x1 x2 (x3 + 5) M) else (g_or 3 12 (M.2.2 27 0) (fun t24 => (g_ck (x3 + (4 : Int32)) 40 (g_b (f_X2_holds (t24 + 1) (M.1 (t23 + 6) (tn (x3 + (4 : Int32)))) M) (fun r26 M25 => (if r26 then (g_ck (x3 + (2 : Int32)) 40 (g_ck x1 2079 (g_m (sI M25 33 (tn x1) (M25.1 (t23 + 6) (tn (x3 + (2 : Int32))))) (fun M27 => (g_ck (x3 + (3 : Int32)) 40 (g_ck x1 2079 (g_m (sI M27 34 (tn x1) (M27.1 (t23 + 6) (tn (x3 + (3 : Int32))))) (fun M28 => (f_X0_survey_65 n x1 x2 (x3 + 5) M28))))))))) else (f_X0_survey_65 n x1 x2 (x3 + 5) M25))))))))))))))))
set_option maxRecDepth 100000 in
set_option maxHeartbeats 4000000 in
theorem o_X0_survey_65 {X : gX} : ∀ (n : Nat) (x1 : Int32) (x2 : Int32) (x3 : Int32) (M : gM), G Y1 jX0_survey X (g_fin g_ev) 65 [(0, .ref (ad X 27)), (1, .int x1), (2, .int x2), (3, .int x3)] [] M (f_X0_survey_65 n x1 x2 x3 M) := by
  intro n
  induction n with
  | zero => intro x1 x2 x3 M; exact G_none
  | succ n ih =>
    intro x1 x2 x3 M
    rw [f_X0_survey_65]
    refine G_iload_n 3 dX0_survey_65 rfl rfl ?_
    refine G_aload_n 0 dX0_survey_66 rfl rfl ?_
    refine G_getO 0 clX0 (y1_27) fl_X0_39 dX0_survey_67 (by decide) rfl (by decide) (fun t9 ht9 => ?_)
    refine G_get 6 clX4 (ro_0 ht9) fl_X0_64 dX0_survey_70 (by decide) rfl rfl ?_
    refine G_iconst (v := 5) dX0_survey_73 (by decide) ?_
    refine G_imul dX0_survey_74 ?_
    refine G_icmp_ge (tgt := 158) dX0_survey_75 (by decide) ?_ ?_
    · refine G_iconst (v := 0) dX0_survey_158 (by decide) ?_
      refine G_istore_n (lv' := [(3, .int 0), (0, .ref (ad X 27)), (1, .int x1), (2, .int x2)]) dX0_survey_159 rfl (by decide) rfl ?_
      refine G_iconst (v := 0) dX0_survey_160 (by decide) ?_
      refine G_istore (lv' := [(4, .int 0), (3, .int 0), (0, .ref (ad X 27)), (1, .int x1), (2, .int x2)]) dX0_survey_161 (by decide) rfl ?_
      exact G_sub [2, 3, 1, 0] rfl (o_X0_survey_163 FU x1 (0 : Int32) (0 : Int32) M)
    · refine G_aload_n 0 dX0_survey_78 rfl rfl ?_
      refine G_getO 0 clX0 (y1_27) fl_X0_39 dX0_survey_79 (by decide) rfl (by decide) (fun t23 ht23 => ?_)
      refine G_get 14 clX4 (ro_0 ht23) fl_X0_67 dX0_survey_82 (by decide) rfl rfl ?_
      refine G_astore (lv' := [(4, .ref (ad X (t23 + 6))), (0, .ref (ad X 27)), (1, .int x1), (2, .int x2), (3, .int x3)]) dX0_survey_85 (by decide) rfl ?_
      refine G_aload 0 dX0_survey_87 rfl ?_
      refine G_iload_n 4 dX0_survey_89 rfl rfl ?_
      refine G_iald (ro_6 ht23) dX0_survey_90 ?_
      refine G_iload_n 3 dX0_survey_91 rfl rfl ?_
      refine G_icmp_gt (tgt := 152) dX0_survey_92 (by decide) ?_ ?_
      · refine G_iinc (v := x3 + 5) (lv' := [(3, .int (x3 + 5)), (4, .ref (ad X (t23 + 6))), (0, .ref (ad X 27)), (1, .int x1), (2, .int x2)]) 4 dX0_survey_152 rfl rfl (by decide) rfl ?_
        refine G_goto (tgt := 65) dX0_survey_155 (by decide) ?_
        exact G_sub [2, 3, 4, 0] rfl (ih x1 x2 (x3 + 5) M)
      · refine G_iload_n 3 dX0_survey_95 rfl rfl ?_
        refine G_aload 0 dX0_survey_96 rfl ?_
        refine G_iload_n 4 dX0_survey_98 rfl rfl ?_
        refine G_iconst (v := 1) dX0_survey_99 (by decide) ?_
        refine G_iadd dX0_survey_100 ?_
        refine G_iald (ro_6 ht23) dX0_survey_101 ?_
        refine G_icmp_gt (tgt := 152) dX0_survey_102 (by decide) ?_ ?_
        · refine G_iinc (v := x3 + 5) (lv' := [(3, .int (x3 + 5)), (4, .ref (ad X (t23 + 6))), (0, .ref (ad X 27)), (1, .int x1), (2, .int x2)]) 4 dX0_survey_152 rfl rfl (by decide) rfl ?_
          refine G_goto (tgt := 65) dX0_survey_155 (by decide) ?_
          exact G_sub [2, 3, 4, 0] rfl (ih x1 x2 (x3 + 5) M)
        · refine G_aload_n 1 dX0_survey_105 rfl rfl ?_
          refine G_get 3 clX0 (y1_27) fl_X0_12 dX0_survey_106 (by decide) rfl rfl ?_
          refine G_aload_n 1 dX0_survey_109 rfl rfl ?_
          refine G_getO 0 clX0 (y1_27) fl_X0_39 dX0_survey_110 (by decide) rfl (by decide) (fun t24 ht24 => ?_)
          refine G_get 9 clX4 (ro_0 ht24) fl_X0_70 dX0_survey_113 (by decide) rfl rfl ?_
          refine G_aload 0 dX0_survey_116 rfl ?_
          refine G_iload_n 4 dX0_survey_118 rfl rfl ?_
          refine G_iconst (v := 4) dX0_survey_119 (by decide) ?_
          refine G_iadd dX0_survey_120 ?_
          refine G_iald (ro_6 ht23) dX0_survey_121 ?_
          refine G_cVb (As := [.ref (ad X (t24 + 1)), .int (M.1 (t23 + 6) (tn (x3 + (4 : Int32))))]) (rest := []) (ok_X2_holds (ro_1 ht24) (M.1 (t23 + 6) (tn (x3 + (4 : Int32)))) M) rfl (y1_28) rfl mv_X0_73 dX0_survey_122 rfl rfl (Nat.le_of_ble_eq_true rfl) (g_fitN (by decide) (by decide)) (fun r26 M25 => ?_)
          refine G_ifB_eq (tgt := 152) dX0_survey_125 (by decide) ?_ ?_
          · refine G_iinc (v := x3 + 5) (lv' := [(3, .int (x3 + 5)), (4, .ref (ad X (t23 + 6))), (0, .ref (ad X 27)), (1, .int x1), (2, .int x2)]) 4 dX0_survey_152 rfl rfl (by decide) rfl ?_
            refine G_goto (tgt := 65) dX0_survey_155 (by decide) ?_
            exact G_sub [2, 3, 4, 0] rfl (ih x1 x2 (x3 + 5) M25)
          · refine G_aload_n 1 dX0_survey_128 rfl rfl ?_
            refine G_get 6 clX0 (y1_27) fl_X0_25 dX0_survey_129 (by decide) rfl rfl ?_
            refine G_iload_n 2 dX0_survey_132 rfl rfl ?_
            refine G_aload 0 dX0_survey_133 rfl ?_
            refine G_iload_n 4 dX0_survey_135 rfl rfl ?_
            refine G_iconst (v := 2) dX0_survey_136 (by decide) ?_
            refine G_iadd dX0_survey_137 ?_
            refine G_iald (ro_6 ht23) dX0_survey_138 ?_
            refine G_iast (y1_33) dX0_survey_139 ?_
            refine G_m (fun M27 => ?_)
            refine G_aload_n 1 dX0_survey_140 rfl rfl ?_
            refine G_get 7 clX0 (y1_27) fl_X0_28 dX0_survey_141 (by decide) rfl rfl ?_
            refine G_iload_n 2 dX0_survey_144 rfl rfl ?_
            refine G_aload 0 dX0_survey_145 rfl ?_
            refine G_iload_n 4 dX0_survey_147 rfl rfl ?_
            refine G_iconst (v := 3) dX0_survey_148 (by decide) ?_
            refine G_iadd dX0_survey_149 ?_
            refine G_iald (ro_6 ht23) dX0_survey_150 ?_
            refine G_iast (y1_34) dX0_survey_151 ?_
            refine G_m (fun M28 => ?_)
            refine G_iinc (v := x3 + 5) (lv' := [(3, .int (x3 + 5)), (4, .ref (ad X (t23 + 6))), (0, .ref (ad X 27)), (1, .int x1), (2, .int x2)]) 4 dX0_survey_152 rfl rfl (by decide) rfl ?_
            refine G_goto (tgt := 65) dX0_survey_155 (by decide) ?_
            exact G_sub [2, 3, 4, 0] rfl (ih x1 x2 (x3 + 5) M28)
def f_X0_survey (a1 : Int32) (M : gM) : Option (Unit × gM) := (g_ck a1 2079 (if (M.1 31 (tn a1)) = (M.1 27 2) then (some ((), M)) else (g_ck a1 2079 (g_m (sI M 31 (tn a1) (M.1 27 2)) (fun M1 => (g_ck a1 2079 (g_m (sI M1 35 (tn a1) ((-3) : Int32)) (fun M2 => (g_b (f_X2_standAt a1 (M2.1 27 1) M2) (fun r4 M3 => (g_b (f_X4_atOf a1 M3) (fun r6 M5 => (g_ck a1 2079 (g_m (sI M5 33 (tn a1) (0 : Int32)) (fun M7 => (g_ck a1 2079 (g_m (sI M7 34 (tn a1) (0 : Int32)) (fun M8 => (f_X0_survey_65 FU a1 r6 (0 : Int32) M8)))))))))))))))))))
set_option maxRecDepth 100000 in
set_option maxHeartbeats 4000000 in
theorem ok_X0_survey (a1 : Int32) (M : gM) : g_met Y1 yX0_survey jX0_survey g_ev (fun Z => [.ref (Z.2.1 27), .int a1]) M (f_X0_survey a1 M) := by
  refine g_enter (fun Z => [(0, .ref (Z.2.1 27)), (1, .int a1)]) (by decide) rfl (fun Z => Nat.le_of_ble_eq_true rfl) (fun Z => rfl) (fun X => ?_)
  rw [f_X0_survey]
  refine G_aload_n 0 dX0_survey_0 rfl rfl ?_
  refine G_get 4 clX0 (y1_27) fl_X0_18 dX0_survey_1 (by decide) rfl rfl ?_
  refine G_iload_n 1 dX0_survey_4 rfl rfl ?_
  refine G_iald (y1_31) dX0_survey_5 ?_
  refine G_aload_n 0 dX0_survey_6 rfl rfl ?_
  refine G_get 2 clX0 (y1_27) fl_X0_47 dX0_survey_7 (by decide) rfl rfl ?_
  refine G_icmp_ne (tgt := 14) dX0_survey_10 (by decide) ?_ ?_
  · refine G_aload_n 0 dX0_survey_14 rfl rfl ?_
    refine G_get 4 clX0 (y1_27) fl_X0_18 dX0_survey_15 (by decide) rfl rfl ?_
    refine G_iload_n 1 dX0_survey_18 rfl rfl ?_
    refine G_aload_n 0 dX0_survey_19 rfl rfl ?_
    refine G_get 2 clX0 (y1_27) fl_X0_47 dX0_survey_20 (by decide) rfl rfl ?_
    refine G_iast (y1_31) dX0_survey_23 ?_
    refine G_m (fun M1 => ?_)
    refine G_aload_n 0 dX0_survey_24 rfl rfl ?_
    refine G_get 8 clX0 (y1_27) fl_X0_31 dX0_survey_25 (by decide) rfl rfl ?_
    refine G_iload_n 1 dX0_survey_28 rfl rfl ?_
    refine G_bipush (v := (-3)) dX0_survey_29 (by decide) ?_
    refine G_iast (y1_35) dX0_survey_31 ?_
    refine G_m (fun M2 => ?_)
    refine G_aload_n 0 dX0_survey_32 rfl rfl ?_
    refine G_get 3 clX0 (y1_27) fl_X0_12 dX0_survey_33 (by decide) rfl rfl ?_
    refine G_iload_n 1 dX0_survey_36 rfl rfl ?_
    refine G_aload_n 0 dX0_survey_37 rfl rfl ?_
    refine G_get 1 clX0 (y1_27) fl_X0_43 dX0_survey_38 (by decide) rfl rfl ?_
    refine G_cVv (As := [.int a1, .int (M2.1 27 1)]) (rest := []) (ok_X2_standAt a1 (M2.1 27 1) M2) rfl (y1_28) rfl mv_X0_54 dX0_survey_41 rfl rfl (Nat.le_of_ble_eq_true rfl) (g_fitN (by decide) (by decide)) (fun r4 M3 => ?_)
    refine G_iload_n 1 dX0_survey_44 rfl rfl ?_
    refine G_cSi (As := [.int a1]) (rest := []) (ok_X4_atOf a1 M3) rfl ms_X0_58 dX0_survey_45 rfl rfl (Nat.le_of_ble_eq_true rfl) (g_fitN (by decide) (by decide)) (fun r6 M5 => ?_)
    refine G_istore_n (lv' := [(2, .int r6), (0, .ref (ad X 27)), (1, .int a1)]) dX0_survey_48 rfl (by decide) rfl ?_
    refine G_aload_n 1 dX0_survey_49 rfl rfl ?_
    refine G_get 6 clX0 (y1_27) fl_X0_25 dX0_survey_50 (by decide) rfl rfl ?_
    refine G_iload_n 2 dX0_survey_53 rfl rfl ?_
    refine G_iconst (v := 0) dX0_survey_54 (by decide) ?_
    refine G_iast (y1_33) dX0_survey_55 ?_
    refine G_m (fun M7 => ?_)
    refine G_aload_n 1 dX0_survey_56 rfl rfl ?_
    refine G_get 7 clX0 (y1_27) fl_X0_28 dX0_survey_57 (by decide) rfl rfl ?_
    refine G_iload_n 2 dX0_survey_60 rfl rfl ?_
    refine G_iconst (v := 0) dX0_survey_61 (by decide) ?_
    refine G_iast (y1_34) dX0_survey_62 ?_
    refine G_m (fun M8 => ?_)
    refine G_iconst (v := 0) dX0_survey_63 (by decide) ?_
    refine G_istore_n (lv' := [(3, .int 0), (2, .int r6), (0, .ref (ad X 27)), (1, .int a1)]) dX0_survey_64 rfl (by decide) rfl ?_
    exact G_sub [2, 3, 1, 0] rfl (o_X0_survey_65 FU a1 r6 (0 : Int32) M8)
  · exact G_vret rfl dX0_survey_13
-- X0_allows
def f_X0_allows (a1 : Int32) (a2 : Int32) (M : gM) : Option (Bool × gM) := (if a1 < 0 then (some (false, M)) else (if a1 < (2079 : Int32) then (g_b (f_X0_survey a1 M) (fun r2 M1 => (g_ck a1 2079 (if (((M1.1 32 (tn a1)) >>> (a2 &&& 31)) &&& (1 : Int32)) = (1 : Int32) then (some (true, M1)) else (some (false, M1)))))) else (some (false, M))))
set_option maxRecDepth 100000 in
set_option maxHeartbeats 4000000 in
theorem ok_X0_allows (a1 : Int32) (a2 : Int32) (M : gM) : g_met Y1 yX0_allows jX0_allows g_eb (fun Z => [.ref (Z.2.1 27), .int a1, .int a2]) M (f_X0_allows a1 a2 M) := by
  refine g_enter (fun Z => [(0, .ref (Z.2.1 27)), (1, .int a1), (2, .int a2)]) (by decide) rfl (fun Z => Nat.le_of_ble_eq_true rfl) (fun Z => rfl) (fun X => ?_)
  rw [f_X0_allows]
  refine G_iload_n 1 dX0_allows_0 rfl rfl ?_
  refine G_if_lt (tgt := 11) dX0_allows_1 (by decide) ?_ ?_
  · refine G_iconst (v := 0) dX0_allows_11 (by decide) ?_
    exact G_zret (b := false) rfl dX0_allows_12
  · refine G_iload_n 1 dX0_allows_4 rfl rfl ?_
    refine G_sipush (v := 2079) dX0_allows_5 (by decide) ?_
    refine G_icmp_lt (tgt := 13) dX0_allows_8 (by decide) ?_ ?_
    · refine G_aload_n 0 dX0_allows_13 rfl rfl ?_
      refine G_iload_n 1 dX0_allows_14 rfl rfl ?_
      refine G_cVv (As := [.int a1]) (rest := []) (ok_X0_survey a1 M) rfl (y1_27) rfl mv_X0_50 dX0_allows_15 rfl rfl (Nat.le_of_ble_eq_true rfl) (g_fitN (by decide) (by decide)) (fun r2 M1 => ?_)
      refine G_aload_n 0 dX0_allows_18 rfl rfl ?_
      refine G_get 5 clX0 (y1_27) fl_X0_22 dX0_allows_19 (by decide) rfl rfl ?_
      refine G_iload_n 1 dX0_allows_22 rfl rfl ?_
      refine G_iald (y1_32) dX0_allows_23 ?_
      refine G_iload_n 2 dX0_allows_24 rfl rfl ?_
      refine G_ishr dX0_allows_25 ?_
      refine G_iconst (v := 1) dX0_allows_26 (by decide) ?_
      refine G_iand dX0_allows_27 ?_
      refine G_iconst (v := 1) dX0_allows_28 (by decide) ?_
      refine G_icmp_ne (tgt := 36) dX0_allows_29 (by decide) ?_ ?_
      · refine G_iconst (v := 0) dX0_allows_36 (by decide) ?_
        exact G_zret (b := false) rfl dX0_allows_37
      · refine G_iconst (v := 1) dX0_allows_32 (by decide) ?_
        refine G_goto (tgt := 37) dX0_allows_33 (by decide) ?_
        exact G_zret (b := true) rfl dX0_allows_37
    · refine G_iconst (v := 0) dX0_allows_11 (by decide) ?_
      exact G_zret (b := false) rfl dX0_allows_12
-- X0_mask
def f_X0_mask (a1 : Int32) (M : gM) : Option (Int32 × gM) := (if a1 < 0 then (some ((0 : Int32), M)) else (if a1 < (2079 : Int32) then (g_b (f_X0_survey a1 M) (fun r2 M1 => (g_ck a1 2079 (some ((M1.1 32 (tn a1)), M1))))) else (some ((0 : Int32), M))))
set_option maxRecDepth 100000 in
set_option maxHeartbeats 4000000 in
theorem ok_X0_mask (a1 : Int32) (M : gM) : g_met Y1 yX0_mask jX0_mask g_ei (fun Z => [.ref (Z.2.1 27), .int a1]) M (f_X0_mask a1 M) := by
  refine g_enter (fun Z => [(0, .ref (Z.2.1 27)), (1, .int a1)]) (by decide) rfl (fun Z => Nat.le_of_ble_eq_true rfl) (fun Z => rfl) (fun X => ?_)
  rw [f_X0_mask]
  refine G_iload_n 1 dX0_mask_0 rfl rfl ?_
  refine G_if_lt (tgt := 11) dX0_mask_1 (by decide) ?_ ?_
  · refine G_iconst (v := 0) dX0_mask_11 (by decide) ?_
    exact G_iret rfl dX0_mask_12
  · refine G_iload_n 1 dX0_mask_4 rfl rfl ?_
    refine G_sipush (v := 2079) dX0_mask_5 (by decide) ?_
    refine G_icmp_lt (tgt := 13) dX0_mask_8 (by decide) ?_ ?_
    · refine G_aload_n 0 dX0_mask_13 rfl rfl ?_
      refine G_iload_n 1 dX0_mask_14 rfl rfl ?_
      refine G_cVv (As := [.int a1]) (rest := []) (ok_X0_survey a1 M) rfl (y1_27) rfl mv_X0_50 dX0_mask_15 rfl rfl (Nat.le_of_ble_eq_true rfl) (g_fitN (by decide) (by decide)) (fun r2 M1 => ?_)
      refine G_aload_n 0 dX0_mask_18 rfl rfl ?_
      refine G_get 5 clX0 (y1_27) fl_X0_22 dX0_mask_19 (by decide) rfl rfl ?_
      refine G_iload_n 1 dX0_mask_22 rfl rfl ?_
      refine G_iald (y1_32) dX0_mask_23 ?_
      exact G_iret rfl dX0_mask_24
    · refine G_iconst (v := 0) dX0_mask_11 (by decide) ?_
      exact G_iret rfl dX0_mask_12
-- X0_least
def f_X0_least (a1 : Int32) (M : gM) : Option (Int32 × gM) := (if a1 < 0 then (some ((0 : Int32), M)) else (if a1 < (2079 : Int32) then (g_b (f_X0_survey a1 M) (fun r2 M1 => (g_ck a1 2079 (some ((M1.1 33 (tn a1)), M1))))) else (some ((0 : Int32), M))))
set_option maxRecDepth 100000 in
set_option maxHeartbeats 4000000 in
theorem ok_X0_least (a1 : Int32) (M : gM) : g_met Y1 yX0_least jX0_least g_ei (fun Z => [.ref (Z.2.1 27), .int a1]) M (f_X0_least a1 M) := by
  refine g_enter (fun Z => [(0, .ref (Z.2.1 27)), (1, .int a1)]) (by decide) rfl (fun Z => Nat.le_of_ble_eq_true rfl) (fun Z => rfl) (fun X => ?_)
  rw [f_X0_least]
  refine G_iload_n 1 dX0_least_0 rfl rfl ?_
  refine G_if_lt (tgt := 11) dX0_least_1 (by decide) ?_ ?_
  · refine G_iconst (v := 0) dX0_least_11 (by decide) ?_
    exact G_iret rfl dX0_least_12
  · refine G_iload_n 1 dX0_least_4 rfl rfl ?_
    refine G_sipush (v := 2079) dX0_least_5 (by decide) ?_
    refine G_icmp_lt (tgt := 13) dX0_least_8 (by decide) ?_ ?_
    · refine G_aload_n 0 dX0_least_13 rfl rfl ?_
      refine G_iload_n 1 dX0_least_14 rfl rfl ?_
      refine G_cVv (As := [.int a1]) (rest := []) (ok_X0_survey a1 M) rfl (y1_27) rfl mv_X0_50 dX0_least_15 rfl rfl (Nat.le_of_ble_eq_true rfl) (g_fitN (by decide) (by decide)) (fun r2 M1 => ?_)
      refine G_aload_n 0 dX0_least_18 rfl rfl ?_
      refine G_get 6 clX0 (y1_27) fl_X0_25 dX0_least_19 (by decide) rfl rfl ?_
      refine G_iload_n 1 dX0_least_22 rfl rfl ?_
      refine G_iald (y1_33) dX0_least_23 ?_
      exact G_iret rfl dX0_least_24
    · refine G_iconst (v := 0) dX0_least_11 (by decide) ?_
      exact G_iret rfl dX0_least_12
-- X0_greatest
def f_X0_greatest (a1 : Int32) (M : gM) : Option (Int32 × gM) := (if a1 < 0 then (some ((0 : Int32), M)) else (if a1 < (2079 : Int32) then (g_b (f_X0_survey a1 M) (fun r2 M1 => (g_ck a1 2079 (some ((M1.1 34 (tn a1)), M1))))) else (some ((0 : Int32), M))))
set_option maxRecDepth 100000 in
set_option maxHeartbeats 4000000 in
theorem ok_X0_greatest (a1 : Int32) (M : gM) : g_met Y1 yX0_greatest jX0_greatest g_ei (fun Z => [.ref (Z.2.1 27), .int a1]) M (f_X0_greatest a1 M) := by
  refine g_enter (fun Z => [(0, .ref (Z.2.1 27)), (1, .int a1)]) (by decide) rfl (fun Z => Nat.le_of_ble_eq_true rfl) (fun Z => rfl) (fun X => ?_)
  rw [f_X0_greatest]
  refine G_iload_n 1 dX0_greatest_0 rfl rfl ?_
  refine G_if_lt (tgt := 11) dX0_greatest_1 (by decide) ?_ ?_
  · refine G_iconst (v := 0) dX0_greatest_11 (by decide) ?_
    exact G_iret rfl dX0_greatest_12
  · refine G_iload_n 1 dX0_greatest_4 rfl rfl ?_
    refine G_sipush (v := 2079) dX0_greatest_5 (by decide) ?_
    refine G_icmp_lt (tgt := 13) dX0_greatest_8 (by decide) ?_ ?_
    · refine G_aload_n 0 dX0_greatest_13 rfl rfl ?_
      refine G_iload_n 1 dX0_greatest_14 rfl rfl ?_
      refine G_cVv (As := [.int a1]) (rest := []) (ok_X0_survey a1 M) rfl (y1_27) rfl mv_X0_50 dX0_greatest_15 rfl rfl (Nat.le_of_ble_eq_true rfl) (g_fitN (by decide) (by decide)) (fun r2 M1 => ?_)
      refine G_aload_n 0 dX0_greatest_18 rfl rfl ?_
      refine G_get 7 clX0 (y1_27) fl_X0_28 dX0_greatest_19 (by decide) rfl rfl ?_
      refine G_iload_n 1 dX0_greatest_22 rfl rfl ?_
      refine G_iald (y1_34) dX0_greatest_23 ?_
      exact G_iret rfl dX0_greatest_24
    · refine G_iconst (v := 0) dX0_greatest_11 (by decide) ?_
      exact G_iret rfl dX0_greatest_12
-- X0_firstOf
def f_X0_firstOf_2 : Nat → Int32 → Int32 → gM → Option (Int32 × gM)
  | 0, _, _, _ => none
  | n + 1, x0, x1, M => (if (6 : Int32) ≤ x1 then (some (((-2) : Int32), M)) else (if ((x0 >>> (x1 &&& 31)) &&& (1 : Int32)) = (1 : Int32) then (some (x1, M)) else (f_X0_firstOf_2 n x0 (x1 + 1) M)))
set_option maxRecDepth 100000 in
set_option maxHeartbeats 4000000 in
theorem o_X0_firstOf_2 {X : gX} : ∀ (n : Nat) (x0 : Int32) (x1 : Int32) (M : gM), G Y1 jX0_firstOf X (g_fin g_ei) 2 [(0, .int x0), (1, .int x1)] [] M (f_X0_firstOf_2 n x0 x1 M) := by
  intro n
  induction n with
  | zero => intro x0 x1 M; exact G_none
  | succ n ih =>
    intro x0 x1 M
    rw [f_X0_firstOf_2]
    refine G_iload_n 1 dX0_firstOf_2 rfl rfl ?_
    refine G_bipush (v := 6) dX0_firstOf_3 (by decide) ?_
    refine G_icmp_ge (tgt := 25) dX0_firstOf_5 (by decide) ?_ ?_
    · refine G_bipush (v := (-2)) dX0_firstOf_25 (by decide) ?_
      exact G_iret rfl dX0_firstOf_27
    · refine G_iload_n 0 dX0_firstOf_8 rfl rfl ?_
      refine G_iload_n 1 dX0_firstOf_9 rfl rfl ?_
      refine G_ishr dX0_firstOf_10 ?_
      refine G_iconst (v := 1) dX0_firstOf_11 (by decide) ?_
      refine G_iand dX0_firstOf_12 ?_
      refine G_iconst (v := 1) dX0_firstOf_13 (by decide) ?_
      refine G_icmp_ne (tgt := 19) dX0_firstOf_14 (by decide) ?_ ?_
      · refine G_iinc (v := x1 + 1) (lv' := [(1, .int (x1 + 1)), (0, .int x0)]) 1 dX0_firstOf_19 rfl rfl (by decide) rfl ?_
        refine G_goto (tgt := 2) dX0_firstOf_22 (by decide) ?_
        exact G_sub [1, 0] rfl (ih x0 (x1 + 1) M)
      · refine G_iload_n 1 dX0_firstOf_17 rfl rfl ?_
        exact G_iret rfl dX0_firstOf_18
def f_X0_firstOf (a0 : Int32) (M : gM) : Option (Int32 × gM) := (f_X0_firstOf_2 FU a0 (0 : Int32) M)
set_option maxRecDepth 100000 in
set_option maxHeartbeats 4000000 in
theorem ok_X0_firstOf (a0 : Int32) (M : gM) : g_met Y1 yX0_firstOf jX0_firstOf g_ei (fun Z => [.int a0]) M (f_X0_firstOf a0 M) := by
  refine g_enter (fun Z => [(0, .int a0)]) (by decide) rfl (fun Z => Nat.le_of_ble_eq_true rfl) (fun Z => rfl) (fun X => ?_)
  rw [f_X0_firstOf]
  refine G_iconst (v := 0) dX0_firstOf_0 (by decide) ?_
  refine G_istore_n (lv' := [(1, .int 0), (0, .int a0)]) dX0_firstOf_1 rfl (by decide) rfl ?_
  exact G_sub [1, 0] rfl (o_X0_firstOf_2 FU a0 (0 : Int32) M)
-- X0_draw
def f_X0_draw_67 : Nat → Int32 → Int32 → gM → Option (Int32 × gM)
  | 0, _, _, _ => none
  | n + 1, x1, x2, M => (if x2 < 0 then (g_ck x1 2079 (some ((M.1 35 (tn x1)), M))) else (g_or 3 12 (M.2.2 27 0) (fun t10 => (g_ck x2 12 (g_v (M.1 (t10 + 8) (tn x2)) (fun y11 => (g_ck x1 2079 (if (((M.1 32 (tn x1)) >>> (y11 &&& 31)) &&& (1 : Int32)) = (1 : Int32) then (g_or 3 12 (M.2.2 27 0) (fun t12 => (g_or 3 12 (M.2.2 27 0) (fun t13 => (g_ck x2 12 (g_b (f_X2_holds (t12 + 1) (M.1 (t13 + 7) (tn x2)) M) (fun r15 M14 => (if r15 then (g_ck x1 2079 (g_m (sI M14 35 (tn x1) y11) (fun M16 => (f_X0_draw_67 n x1 (x2 + (-1)) M16)))) else (f_X0_draw_67 n x1 (x2 + (-1)) M14))))))))) else (f_X0_draw_67 n x1 (x2 + (-1)) M)))))))))
set_option maxRecDepth 100000 in
set_option maxHeartbeats 4000000 in
theorem o_X0_draw_67 {X : gX} : ∀ (n : Nat) (x1 : Int32) (x2 : Int32) (M : gM), G Y1 jX0_draw X (g_fin g_ei) 67 [(0, .ref (ad X 27)), (1, .int x1), (2, .int x2)] [] M (f_X0_draw_67 n x1 x2 M) := by
  intro n
  induction n with
  | zero => intro x1 x2 M; exact G_none
  | succ n ih =>
    intro x1 x2 M
    rw [f_X0_draw_67]
    refine G_iload_n 2 dX0_draw_67 rfl rfl ?_
    refine G_if_lt (tgt := 134) dX0_draw_68 (by decide) ?_ ?_
    · refine G_aload_n 0 dX0_draw_134 rfl rfl ?_
      refine G_get 8 clX0 (y1_27) fl_X0_31 dX0_draw_135 (by decide) rfl rfl ?_
      refine G_iload_n 1 dX0_draw_138 rfl rfl ?_
      refine G_iald (y1_35) dX0_draw_139 ?_
      exact G_iret rfl dX0_draw_140
    · refine G_aload_n 0 dX0_draw_71 rfl rfl ?_
      refine G_getO 0 clX0 (y1_27) fl_X0_39 dX0_draw_72 (by decide) rfl (by decide) (fun t10 ht10 => ?_)
      refine G_get 16 clX4 (ro_0 ht10) fl_X0_99 dX0_draw_75 (by decide) rfl rfl ?_
      refine G_iload_n 2 dX0_draw_78 rfl rfl ?_
      refine G_iald (ro_8 ht10) dX0_draw_79 ?_
      refine G_vi (fun y11 => ?_)
      refine G_istore_n (lv' := [(3, .int y11), (0, .ref (ad X 27)), (1, .int x1), (2, .int x2)]) dX0_draw_80 rfl (by decide) rfl ?_
      refine G_aload_n 1 dX0_draw_81 rfl rfl ?_
      refine G_get 5 clX0 (y1_27) fl_X0_22 dX0_draw_82 (by decide) rfl rfl ?_
      refine G_iload_n 2 dX0_draw_85 rfl rfl ?_
      refine G_iald (y1_32) dX0_draw_86 ?_
      refine G_iload_n 0 dX0_draw_87 rfl rfl ?_
      refine G_ishr dX0_draw_88 ?_
      refine G_iconst (v := 1) dX0_draw_89 (by decide) ?_
      refine G_iand dX0_draw_90 ?_
      refine G_iconst (v := 1) dX0_draw_91 (by decide) ?_
      refine G_icmp_ne (tgt := 128) dX0_draw_92 (by decide) ?_ ?_
      · refine G_iinc (v := x2 + (-1)) (lv' := [(2, .int (x2 + (-1))), (3, .int y11), (0, .ref (ad X 27)), (1, .int x1)]) 3 dX0_draw_128 rfl rfl (by decide) rfl ?_
        refine G_goto (tgt := 67) dX0_draw_131 (by decide) ?_
        exact G_sub [2, 3, 0] rfl (ih x1 (x2 + (-1)) M)
      · refine G_aload_n 1 dX0_draw_95 rfl rfl ?_
        refine G_get 3 clX0 (y1_27) fl_X0_12 dX0_draw_96 (by decide) rfl rfl ?_
        refine G_aload_n 1 dX0_draw_99 rfl rfl ?_
        refine G_getO 0 clX0 (y1_27) fl_X0_39 dX0_draw_100 (by decide) rfl (by decide) (fun t12 ht12 => ?_)
        refine G_get 9 clX4 (ro_0 ht12) fl_X0_70 dX0_draw_103 (by decide) rfl rfl ?_
        refine G_aload_n 1 dX0_draw_106 rfl rfl ?_
        refine G_getO 0 clX0 (y1_27) fl_X0_39 dX0_draw_107 (by decide) rfl (by decide) (fun t13 ht13 => ?_)
        refine G_get 15 clX4 (ro_0 ht13) fl_X0_102 dX0_draw_110 (by decide) rfl rfl ?_
        refine G_iload_n 3 dX0_draw_113 rfl rfl ?_
        refine G_iald (ro_7 ht13) dX0_draw_114 ?_
        refine G_cVb (As := [.ref (ad X (t12 + 1)), .int (M.1 (t13 + 7) (tn x2))]) (rest := []) (ok_X2_holds (ro_1 ht12) (M.1 (t13 + 7) (tn x2)) M) rfl (y1_28) rfl mv_X0_73 dX0_draw_115 rfl rfl (Nat.le_of_ble_eq_true rfl) (g_fitN (by decide) (by decide)) (fun r15 M14 => ?_)
        refine G_ifB_eq (tgt := 128) dX0_draw_118 (by decide) ?_ ?_
        · refine G_iinc (v := x2 + (-1)) (lv' := [(2, .int (x2 + (-1))), (3, .int y11), (0, .ref (ad X 27)), (1, .int x1)]) 3 dX0_draw_128 rfl rfl (by decide) rfl ?_
          refine G_goto (tgt := 67) dX0_draw_131 (by decide) ?_
          exact G_sub [2, 3, 0] rfl (ih x1 (x2 + (-1)) M14)
        · refine G_aload_n 1 dX0_draw_121 rfl rfl ?_
          refine G_get 8 clX0 (y1_27) fl_X0_31 dX0_draw_122 (by decide) rfl rfl ?_
          refine G_iload_n 2 dX0_draw_125 rfl rfl ?_
          refine G_iload_n 0 dX0_draw_126 rfl rfl ?_
          refine G_iast (y1_35) dX0_draw_127 ?_
          refine G_m (fun M16 => ?_)
          refine G_iinc (v := x2 + (-1)) (lv' := [(2, .int (x2 + (-1))), (3, .int y11), (0, .ref (ad X 27)), (1, .int x1)]) 3 dX0_draw_128 rfl rfl (by decide) rfl ?_
          refine G_goto (tgt := 67) dX0_draw_131 (by decide) ?_
          exact G_sub [2, 3, 0] rfl (ih x1 (x2 + (-1)) M16)
def f_X0_draw (a1 : Int32) (M : gM) : Option (Int32 × gM) := (if a1 < 0 then (some (((-2) : Int32), M)) else (if a1 < (2079 : Int32) then (g_b (f_X0_survey a1 M) (fun r2 M1 => (g_ck a1 2079 (if (M1.1 35 (tn a1)) = ((-3) : Int32) then (g_ck a1 2079 (g_b (f_X0_firstOf (M1.1 32 (tn a1)) M1) (fun r4 M3 => (g_ck a1 2079 (g_m (sI M3 35 (tn a1) r4) (fun M5 => (g_b (f_X2_standAt a1 (M5.1 27 1) M5) (fun r7 M6 => (g_or 3 12 (M6.2.2 27 0) (fun t8 => (g_v ((M6.1 t8 7) - (1 : Int32)) (fun y9 => (f_X0_draw_67 FU a1 y9 M6))))))))))))) else (g_ck a1 2079 (some ((M1.1 35 (tn a1)), M1))))))) else (some (((-2) : Int32), M))))
set_option maxRecDepth 100000 in
set_option maxHeartbeats 4000000 in
theorem ok_X0_draw (a1 : Int32) (M : gM) : g_met Y1 yX0_draw jX0_draw g_ei (fun Z => [.ref (Z.2.1 27), .int a1]) M (f_X0_draw a1 M) := by
  refine g_enter (fun Z => [(0, .ref (Z.2.1 27)), (1, .int a1)]) (by decide) rfl (fun Z => Nat.le_of_ble_eq_true rfl) (fun Z => rfl) (fun X => ?_)
  rw [f_X0_draw]
  refine G_iload_n 1 dX0_draw_0 rfl rfl ?_
  refine G_if_lt (tgt := 11) dX0_draw_1 (by decide) ?_ ?_
  · refine G_bipush (v := (-2)) dX0_draw_11 (by decide) ?_
    exact G_iret rfl dX0_draw_13
  · refine G_iload_n 1 dX0_draw_4 rfl rfl ?_
    refine G_sipush (v := 2079) dX0_draw_5 (by decide) ?_
    refine G_icmp_lt (tgt := 14) dX0_draw_8 (by decide) ?_ ?_
    · refine G_aload_n 0 dX0_draw_14 rfl rfl ?_
      refine G_iload_n 1 dX0_draw_15 rfl rfl ?_
      refine G_cVv (As := [.int a1]) (rest := []) (ok_X0_survey a1 M) rfl (y1_27) rfl mv_X0_50 dX0_draw_16 rfl rfl (Nat.le_of_ble_eq_true rfl) (g_fitN (by decide) (by decide)) (fun r2 M1 => ?_)
      refine G_aload_n 0 dX0_draw_19 rfl rfl ?_
      refine G_get 8 clX0 (y1_27) fl_X0_31 dX0_draw_20 (by decide) rfl rfl ?_
      refine G_iload_n 1 dX0_draw_23 rfl rfl ?_
      refine G_iald (y1_35) dX0_draw_24 ?_
      refine G_bipush (v := (-3)) dX0_draw_25 (by decide) ?_
      refine G_icmp_ne (tgt := 134) dX0_draw_27 (by decide) ?_ ?_
      · refine G_aload_n 0 dX0_draw_134 rfl rfl ?_
        refine G_get 8 clX0 (y1_27) fl_X0_31 dX0_draw_135 (by decide) rfl rfl ?_
        refine G_iload_n 1 dX0_draw_138 rfl rfl ?_
        refine G_iald (y1_35) dX0_draw_139 ?_
        exact G_iret rfl dX0_draw_140
      · refine G_aload_n 0 dX0_draw_30 rfl rfl ?_
        refine G_get 8 clX0 (y1_27) fl_X0_31 dX0_draw_31 (by decide) rfl rfl ?_
        refine G_iload_n 1 dX0_draw_34 rfl rfl ?_
        refine G_aload_n 0 dX0_draw_35 rfl rfl ?_
        refine G_get 5 clX0 (y1_27) fl_X0_22 dX0_draw_36 (by decide) rfl rfl ?_
        refine G_iload_n 1 dX0_draw_39 rfl rfl ?_
        refine G_iald (y1_32) dX0_draw_40 ?_
        refine G_cSi (As := [.int (M1.1 32 (tn a1))]) (rest := [.int a1, .ref (ad X 35)]) (ok_X0_firstOf (M1.1 32 (tn a1)) M1) rfl ms_X0_93 dX0_draw_41 rfl rfl (Nat.le_of_ble_eq_true rfl) (g_fitN (by decide) (by decide)) (fun r4 M3 => ?_)
        refine G_iast (y1_35) dX0_draw_44 ?_
        refine G_m (fun M5 => ?_)
        refine G_aload_n 0 dX0_draw_45 rfl rfl ?_
        refine G_get 3 clX0 (y1_27) fl_X0_12 dX0_draw_46 (by decide) rfl rfl ?_
        refine G_iload_n 1 dX0_draw_49 rfl rfl ?_
        refine G_aload_n 0 dX0_draw_50 rfl rfl ?_
        refine G_get 1 clX0 (y1_27) fl_X0_43 dX0_draw_51 (by decide) rfl rfl ?_
        refine G_cVv (As := [.int a1, .int (M5.1 27 1)]) (rest := []) (ok_X2_standAt a1 (M5.1 27 1) M5) rfl (y1_28) rfl mv_X0_54 dX0_draw_54 rfl rfl (Nat.le_of_ble_eq_true rfl) (g_fitN (by decide) (by decide)) (fun r7 M6 => ?_)
        refine G_aload_n 0 dX0_draw_57 rfl rfl ?_
        refine G_getO 0 clX0 (y1_27) fl_X0_39 dX0_draw_58 (by decide) rfl (by decide) (fun t8 ht8 => ?_)
        refine G_get 7 clX4 (ro_0 ht8) fl_X0_96 dX0_draw_61 (by decide) rfl rfl ?_
        refine G_iconst (v := 1) dX0_draw_64 (by decide) ?_
        refine G_isub dX0_draw_65 ?_
        refine G_vi (fun y9 => ?_)
        refine G_istore_n (lv' := [(2, .int y9), (0, .ref (ad X 27)), (1, .int a1)]) dX0_draw_66 rfl (by decide) rfl ?_
        exact G_sub [1, 2, 0] rfl (o_X0_draw_67 FU a1 y9 M6)
    · refine G_bipush (v := (-2)) dX0_draw_11 (by decide) ?_
      exact G_iret rfl dX0_draw_13
-- X2_result
def f_X2_result (M : gM) : Option (Int32 × gM) := (g_ck (0 : Int32) 64 (some ((M.1 29 (tn (0 : Int32))), M)))
set_option maxRecDepth 100000 in
set_option maxHeartbeats 4000000 in
theorem ok_X2_result (M : gM) : g_met Y1 yX2_result jX2_result g_ei (fun Z => [.ref (Z.2.1 28)]) M (f_X2_result M) := by
  refine g_enter (fun Z => [(0, .ref (Z.2.1 28))]) (by decide) rfl (fun Z => Nat.le_of_ble_eq_true rfl) (fun Z => rfl) (fun X => ?_)
  rw [f_X2_result]
  refine G_aload_n 0 dX2_result_0 rfl rfl ?_
  refine G_get 0 clX2 (y1_28) fl_X2_9 dX2_result_1 (by decide) rfl rfl ?_
  refine G_iconst (v := 0) dX2_result_4 (by decide) ?_
  refine G_iald (y1_29) dX2_result_5 ?_
  exact G_iret rfl dX2_result_6
-- X4_hasAct
def f_X4_hasAct (t : Nat) (a1 : Int32) (M : gM) : Option (Bool × gM) := (if a1 < 0 then (some (false, M)) else (if (M.1 t 5) ≤ a1 then (some (false, M)) else (if (6 : Int32) ≤ a1 then (some (false, M)) else (some (true, M)))))
set_option maxRecDepth 100000 in
set_option maxHeartbeats 4000000 in
theorem ok_X4_hasAct {t : Nat} (ht : t = 3 ∨ t = 12) (a1 : Int32) (M : gM) : g_met Y1 yX4_hasAct jX4_hasAct g_eb (fun Z => [.ref (Z.2.1 t), .int a1]) M (f_X4_hasAct t a1 M) := by
  refine g_enter (fun Z => [(0, .ref (Z.2.1 t)), (1, .int a1)]) (by decide) rfl (fun Z => Nat.le_of_ble_eq_true rfl) (fun Z => rfl) (fun X => ?_)
  rw [f_X4_hasAct]
  refine G_iload_n 1 dX4_hasAct_0 rfl rfl ?_
  refine G_if_lt (tgt := 22) dX4_hasAct_1 (by decide) ?_ ?_
  · refine G_iconst (v := 0) dX4_hasAct_22 (by decide) ?_
    exact G_zret (b := false) rfl dX4_hasAct_23
  · refine G_iload_n 1 dX4_hasAct_4 rfl rfl ?_
    refine G_aload_n 0 dX4_hasAct_5 rfl rfl ?_
    refine G_get 5 clX4 (ro_0 ht) fl_X4_53 dX4_hasAct_6 (by decide) rfl rfl ?_
    refine G_icmp_ge (tgt := 22) dX4_hasAct_9 (by decide) ?_ ?_
    · refine G_iconst (v := 0) dX4_hasAct_22 (by decide) ?_
      exact G_zret (b := false) rfl dX4_hasAct_23
    · refine G_iload_n 1 dX4_hasAct_12 rfl rfl ?_
      refine G_bipush (v := 6) dX4_hasAct_13 (by decide) ?_
      refine G_icmp_ge (tgt := 22) dX4_hasAct_15 (by decide) ?_ ?_
      · refine G_iconst (v := 0) dX4_hasAct_22 (by decide) ?_
        exact G_zret (b := false) rfl dX4_hasAct_23
      · refine G_iconst (v := 1) dX4_hasAct_18 (by decide) ?_
        refine G_goto (tgt := 23) dX4_hasAct_19 (by decide) ?_
        exact G_zret (b := true) rfl dX4_hasAct_23
-- X4_leanOf
def f_X4_leanOf (a0 : Int32) (M : gM) : Option (Int32 × gM) := (some ((((a0 / (11 : Int32)) - (a0 / (11 : Int32)) / (21 : Int32) * (21 : Int32)) - (10 : Int32)), M))
set_option maxRecDepth 100000 in
set_option maxHeartbeats 4000000 in
theorem ok_X4_leanOf (a0 : Int32) (M : gM) : g_met Y1 yX4_leanOf jX4_leanOf g_ei (fun Z => [.int a0]) M (f_X4_leanOf a0 M) := by
  refine g_enter (fun Z => [(0, .int a0)]) (by decide) rfl (fun Z => Nat.le_of_ble_eq_true rfl) (fun Z => rfl) (fun X => ?_)
  rw [f_X4_leanOf]
  refine G_iload_n 0 dX4_leanOf_0 rfl rfl ?_
  refine G_bipush (v := 11) dX4_leanOf_1 (by decide) ?_
  refine G_idivK dX4_leanOf_3 (by decide) ?_
  refine G_bipush (v := 21) dX4_leanOf_4 (by decide) ?_
  refine G_iremK dX4_leanOf_6 (by decide) ?_
  refine G_bipush (v := 10) dX4_leanOf_7 (by decide) ?_
  refine G_isub dX4_leanOf_9 ?_
  exact G_iret rfl dX4_leanOf_10
-- X4_number
def f_X4_number (t : Nat) (a1 : Int32) (a2 : Int32) (a3 : Int32) (M : gM) : Option (Int32 × gM) := (if a1 < 0 then (some (((-1) : Int32), M)) else (if (M.1 t 0) < a1 then (some (((-1) : Int32), M)) else (if a2 < (-(M.1 t 1)) then (some (((-1) : Int32), M)) else (if (M.1 t 1) < a2 then (some (((-1) : Int32), M)) else (if a3 < (-(M.1 t 2)) then (some (((-1) : Int32), M)) else (if a3 ≤ (M.1 t 2) then (some (((((((a1 * (21 : Int32)) + a2) + (10 : Int32)) * (11 : Int32)) + a3) + (5 : Int32)), M)) else (some (((-1) : Int32), M))))))))
set_option maxRecDepth 100000 in
set_option maxHeartbeats 4000000 in
theorem ok_X4_number {t : Nat} (ht : t = 3 ∨ t = 12) (a1 : Int32) (a2 : Int32) (a3 : Int32) (M : gM) : g_met Y1 yX4_number jX4_number g_ei (fun Z => [.ref (Z.2.1 t), .int a1, .int a2, .int a3]) M (f_X4_number t a1 a2 a3 M) := by
  refine g_enter (fun Z => [(0, .ref (Z.2.1 t)), (1, .int a1), (2, .int a2), (3, .int a3)]) (by decide) rfl (fun Z => Nat.le_of_ble_eq_true rfl) (fun Z => rfl) (fun X => ?_)
  rw [f_X4_number]
  refine G_iload_n 1 dX4_number_0 rfl rfl ?_
  refine G_if_lt (tgt := 46) dX4_number_1 (by decide) ?_ ?_
  · refine G_iconst (v := (-1)) dX4_number_46 (by decide) ?_
    exact G_iret rfl dX4_number_47
  · refine G_iload_n 1 dX4_number_4 rfl rfl ?_
    refine G_aload_n 0 dX4_number_5 rfl rfl ?_
    refine G_get 0 clX4 (ro_0 ht) fl_X4_37 dX4_number_6 (by decide) rfl rfl ?_
    refine G_icmp_gt (tgt := 46) dX4_number_9 (by decide) ?_ ?_
    · refine G_iconst (v := (-1)) dX4_number_46 (by decide) ?_
      exact G_iret rfl dX4_number_47
    · refine G_iload_n 2 dX4_number_12 rfl rfl ?_
      refine G_aload_n 0 dX4_number_13 rfl rfl ?_
      refine G_get 1 clX4 (ro_0 ht) fl_X4_41 dX4_number_14 (by decide) rfl rfl ?_
      refine G_ineg dX4_number_17 ?_
      refine G_icmp_lt (tgt := 46) dX4_number_18 (by decide) ?_ ?_
      · refine G_iconst (v := (-1)) dX4_number_46 (by decide) ?_
        exact G_iret rfl dX4_number_47
      · refine G_iload_n 2 dX4_number_21 rfl rfl ?_
        refine G_aload_n 0 dX4_number_22 rfl rfl ?_
        refine G_get 1 clX4 (ro_0 ht) fl_X4_41 dX4_number_23 (by decide) rfl rfl ?_
        refine G_icmp_gt (tgt := 46) dX4_number_26 (by decide) ?_ ?_
        · refine G_iconst (v := (-1)) dX4_number_46 (by decide) ?_
          exact G_iret rfl dX4_number_47
        · refine G_iload_n 3 dX4_number_29 rfl rfl ?_
          refine G_aload_n 0 dX4_number_30 rfl rfl ?_
          refine G_get 2 clX4 (ro_0 ht) fl_X4_44 dX4_number_31 (by decide) rfl rfl ?_
          refine G_ineg dX4_number_34 ?_
          refine G_icmp_lt (tgt := 46) dX4_number_35 (by decide) ?_ ?_
          · refine G_iconst (v := (-1)) dX4_number_46 (by decide) ?_
            exact G_iret rfl dX4_number_47
          · refine G_iload_n 3 dX4_number_38 rfl rfl ?_
            refine G_aload_n 0 dX4_number_39 rfl rfl ?_
            refine G_get 2 clX4 (ro_0 ht) fl_X4_44 dX4_number_40 (by decide) rfl rfl ?_
            refine G_icmp_le (tgt := 48) dX4_number_43 (by decide) ?_ ?_
            · refine G_iload_n 1 dX4_number_48 rfl rfl ?_
              refine G_bipush (v := 21) dX4_number_49 (by decide) ?_
              refine G_imul dX4_number_51 ?_
              refine G_iload_n 2 dX4_number_52 rfl rfl ?_
              refine G_iadd dX4_number_53 ?_
              refine G_bipush (v := 10) dX4_number_54 (by decide) ?_
              refine G_iadd dX4_number_56 ?_
              refine G_bipush (v := 11) dX4_number_57 (by decide) ?_
              refine G_imul dX4_number_59 ?_
              refine G_iload_n 3 dX4_number_60 rfl rfl ?_
              refine G_iadd dX4_number_61 ?_
              refine G_iconst (v := 5) dX4_number_62 (by decide) ?_
              refine G_iadd dX4_number_63 ?_
              exact G_iret rfl dX4_number_64
            · refine G_iconst (v := (-1)) dX4_number_46 (by decide) ?_
              exact G_iret rfl dX4_number_47
-- X4_swingOf
def f_X4_swingOf (a0 : Int32) (M : gM) : Option (Int32 × gM) := (some (((a0 - a0 / (11 : Int32) * (11 : Int32)) - (5 : Int32)), M))
set_option maxRecDepth 100000 in
set_option maxHeartbeats 4000000 in
theorem ok_X4_swingOf (a0 : Int32) (M : gM) : g_met Y1 yX4_swingOf jX4_swingOf g_ei (fun Z => [.int a0]) M (f_X4_swingOf a0 M) := by
  refine g_enter (fun Z => [(0, .int a0)]) (by decide) rfl (fun Z => Nat.le_of_ble_eq_true rfl) (fun Z => rfl) (fun X => ?_)
  rw [f_X4_swingOf]
  refine G_iload_n 0 dX4_swingOf_0 rfl rfl ?_
  refine G_bipush (v := 11) dX4_swingOf_1 (by decide) ?_
  refine G_iremK dX4_swingOf_3 (by decide) ?_
  refine G_iconst (v := 5) dX4_swingOf_4 (by decide) ?_
  refine G_isub dX4_swingOf_5 ?_
  exact G_iret rfl dX4_swingOf_6
-- X0_leap
def f_X0_leap_208 (x1 : Int32) (x2 : Int32) (x5 : Int32) (x6 : Int32) (M : gM) : Option (Int32 × gM) := (g_b (f_X4_atOf x1 M) (fun r22 M21 => (g_or 3 12 (M21.2.2 27 0) (fun t23 => (g_ck x2 6 (g_v (r22 + (M21.1 (t23 + 4) (tn x2))) (fun y24 => (g_or 3 12 (M21.2.2 27 0) (fun t25 => (if 0 ≤ y24 then (g_b (f_X4_number t25 y24 x6 x5 M21) (fun r27 M26 => (if r27 = ((-1) : Int32) then (some (((-2) : Int32), M26)) else (some (r27, M26))))) else (g_b (f_X4_number t25 (0 : Int32) x6 x5 M21) (fun r29 M28 => (if r29 = ((-1) : Int32) then (some (((-2) : Int32), M28)) else (some (r29, M28)))))))))))))))
set_option maxRecDepth 100000 in
set_option maxHeartbeats 4000000 in
theorem o_X0_leap_208 {X : gX} (x1 : Int32) (x2 : Int32) (x5 : Int32) (x6 : Int32) (M : gM) : G Y1 jX0_leap X (g_fin g_ei) 208 [(0, .ref (ad X 27)), (1, .int x1), (2, .int x2), (5, .int x5), (6, .int x6)] [] M (f_X0_leap_208 x1 x2 x5 x6 M) := by
  rw [f_X0_leap_208]
  refine G_iload_n 1 dX0_leap_208 rfl rfl ?_
  refine G_cSi (As := [.int x1]) (rest := []) (ok_X4_atOf x1 M) rfl ms_X0_58 dX0_leap_209 rfl rfl (Nat.le_of_ble_eq_true rfl) (g_fitN (by decide) (by decide)) (fun r22 M21 => ?_)
  refine G_aload_n 0 dX0_leap_212 rfl rfl ?_
  refine G_getO 0 clX0 (y1_27) fl_X0_39 dX0_leap_213 (by decide) rfl (by decide) (fun t23 ht23 => ?_)
  refine G_get 12 clX4 (ro_0 ht23) fl_X0_136 dX0_leap_216 (by decide) rfl rfl ?_
  refine G_iload_n 2 dX0_leap_219 rfl rfl ?_
  refine G_iald (ro_4 ht23) dX0_leap_220 ?_
  refine G_iadd dX0_leap_221 ?_
  refine G_vi (fun y24 => ?_)
  refine G_istore (lv' := [(7, .int y24), (0, .ref (ad X 27)), (1, .int x1), (2, .int x2), (5, .int x5), (6, .int x6)]) dX0_leap_222 (by decide) rfl ?_
  refine G_aload_n 1 dX0_leap_224 rfl rfl ?_
  refine G_getO 0 clX0 (y1_27) fl_X0_39 dX0_leap_225 (by decide) rfl (by decide) (fun t25 ht25 => ?_)
  refine G_iload 0 dX0_leap_228 rfl ?_
  refine G_if_ge (tgt := 237) dX0_leap_230 (by decide) ?_ ?_
  · refine G_iload 0 dX0_leap_237 rfl ?_
    refine G_iload 5 dX0_leap_239 rfl ?_
    refine G_iload 4 dX0_leap_241 rfl ?_
    refine G_cVi (As := [.int y24, .int x6, .int x5]) (rest := []) (ok_X4_number ht25 y24 x6 x5 M21) rfl (ro_0 ht25) rfl mv_X0_139 dX0_leap_243 rfl rfl (Nat.le_of_ble_eq_true rfl) (g_fitN (by decide) (by decide)) (fun r27 M26 => ?_)
    refine G_istore (lv' := [(8, .int r27), (7, .int y24), (0, .ref (ad X 27)), (1, .int x1), (2, .int x2), (5, .int x5), (6, .int x6)]) dX0_leap_246 (by decide) rfl ?_
    refine G_iload 0 dX0_leap_248 rfl ?_
    refine G_iconst (v := (-1)) dX0_leap_250 (by decide) ?_
    refine G_icmp_ne (tgt := 259) dX0_leap_251 (by decide) ?_ ?_
    · refine G_iload 0 dX0_leap_259 rfl ?_
      exact G_iret rfl dX0_leap_261
    · refine G_bipush (v := (-2)) dX0_leap_254 (by decide) ?_
      refine G_goto (tgt := 261) dX0_leap_256 (by decide) ?_
      exact G_iret rfl dX0_leap_261
  · refine G_iconst (v := 0) dX0_leap_233 (by decide) ?_
    refine G_goto (tgt := 239) dX0_leap_234 (by decide) ?_
    refine G_iload 5 dX0_leap_239 rfl ?_
    refine G_iload 4 dX0_leap_241 rfl ?_
    refine G_cVi (As := [.int 0, .int x6, .int x5]) (rest := []) (ok_X4_number ht25 (0 : Int32) x6 x5 M21) rfl (ro_0 ht25) rfl mv_X0_139 dX0_leap_243 rfl rfl (Nat.le_of_ble_eq_true rfl) (g_fitN (by decide) (by decide)) (fun r29 M28 => ?_)
    refine G_istore (lv' := [(8, .int r29), (7, .int y24), (0, .ref (ad X 27)), (1, .int x1), (2, .int x2), (5, .int x5), (6, .int x6)]) dX0_leap_246 (by decide) rfl ?_
    refine G_iload 0 dX0_leap_248 rfl ?_
    refine G_iconst (v := (-1)) dX0_leap_250 (by decide) ?_
    refine G_icmp_ne (tgt := 259) dX0_leap_251 (by decide) ?_ ?_
    · refine G_iload 0 dX0_leap_259 rfl ?_
      exact G_iret rfl dX0_leap_261
    · refine G_bipush (v := (-2)) dX0_leap_254 (by decide) ?_
      refine G_goto (tgt := 261) dX0_leap_256 (by decide) ?_
      exact G_iret rfl dX0_leap_261
def f_X0_leap_138 (x1 : Int32) (x2 : Int32) (x5 : Int32) (M : gM) : Option (Int32 × gM) := (g_ck (2 : Int32) 8 (g_m (sI M 30 (tn (2 : Int32)) x5) (fun M16 => (g_b (f_X4_leanOf x1 M16) (fun r18 M17 => (g_v (r18 + x5) (fun y19 => (g_or 3 12 (M17.2.2 27 0) (fun t20 => (if (M17.1 t20 4) = ((-1) : Int32) then (f_X0_leap_208 x1 x2 x5 y19 M17) else (g_or 3 12 (M17.2.2 27 0) (fun t30 => (g_or 3 12 (M17.2.2 27 0) (fun t31 => (g_b (f_X2_run (t30 + 1) (M17.1 t31 4) M17) (fun r33 M32 => (g_b (f_X2_result M32) (fun r35 M34 => (if (M34.1 28 2) = 0 then (f_X0_leap_208 x1 x2 x5 r35 M34) else (some (((-2) : Int32), M34)))))))))))))))))))))
set_option maxRecDepth 100000 in
set_option maxHeartbeats 4000000 in
theorem o_X0_leap_138 {X : gX} (x1 : Int32) (x2 : Int32) (x5 : Int32) (M : gM) : G Y1 jX0_leap X (g_fin g_ei) 138 [(0, .ref (ad X 27)), (1, .int x1), (2, .int x2), (4, .ref (ad X 30)), (5, .int x5)] [] M (f_X0_leap_138 x1 x2 x5 M) := by
  rw [f_X0_leap_138]
  refine G_aload 3 dX0_leap_138 rfl ?_
  refine G_iconst (v := 2) dX0_leap_140 (by decide) ?_
  refine G_iload 4 dX0_leap_141 rfl ?_
  refine G_iast (y1_30) dX0_leap_143 ?_
  refine G_m (fun M16 => ?_)
  refine G_iload_n 1 dX0_leap_144 rfl rfl ?_
  refine G_cSi (As := [.int x1]) (rest := []) (ok_X4_leanOf x1 M16) rfl ms_X0_115 dX0_leap_145 rfl rfl (Nat.le_of_ble_eq_true rfl) (g_fitN (by decide) (by decide)) (fun r18 M17 => ?_)
  refine G_iload 4 dX0_leap_148 rfl ?_
  refine G_iadd dX0_leap_150 ?_
  refine G_vi (fun y19 => ?_)
  refine G_istore (lv' := [(6, .int y19), (0, .ref (ad X 27)), (1, .int x1), (2, .int x2), (4, .ref (ad X 30)), (5, .int x5)]) dX0_leap_151 (by decide) rfl ?_
  refine G_aload_n 1 dX0_leap_153 rfl rfl ?_
  refine G_getO 0 clX0 (y1_27) fl_X0_39 dX0_leap_154 (by decide) rfl (by decide) (fun t20 ht20 => ?_)
  refine G_get 4 clX4 (ro_0 ht20) fl_X0_133 dX0_leap_157 (by decide) rfl rfl ?_
  refine G_iconst (v := (-1)) dX0_leap_160 (by decide) ?_
  refine G_icmp_eq (tgt := 208) dX0_leap_161 (by decide) ?_ ?_
  · exact G_sub [1, 2, 3, 5, 0] rfl (o_X0_leap_208 x1 x2 x5 y19 M17)
  · refine G_aload_n 1 dX0_leap_164 rfl rfl ?_
    refine G_get 3 clX0 (y1_27) fl_X0_12 dX0_leap_165 (by decide) rfl rfl ?_
    refine G_aload_n 1 dX0_leap_168 rfl rfl ?_
    refine G_getO 0 clX0 (y1_27) fl_X0_39 dX0_leap_169 (by decide) rfl (by decide) (fun t30 ht30 => ?_)
    refine G_get 9 clX4 (ro_0 ht30) fl_X0_70 dX0_leap_172 (by decide) rfl rfl ?_
    refine G_aload_n 1 dX0_leap_175 rfl rfl ?_
    refine G_getO 0 clX0 (y1_27) fl_X0_39 dX0_leap_176 (by decide) rfl (by decide) (fun t31 ht31 => ?_)
    refine G_get 4 clX4 (ro_0 ht31) fl_X0_133 dX0_leap_179 (by decide) rfl rfl ?_
    refine G_cVi (As := [.ref (ad X (t30 + 1)), .int (M17.1 t31 4)]) (rest := []) (ok_X2_run (ro_1 ht30) (M17.1 t31 4) M17) rfl (y1_28) rfl mv_X0_121 dX0_leap_182 rfl rfl (Nat.le_of_ble_eq_true rfl) (g_fitN (by decide) (by decide)) (fun r33 M32 => ?_)
    refine G_pop dX0_leap_185 rfl ?_
    refine G_aload_n 1 dX0_leap_186 rfl rfl ?_
    refine G_get 3 clX0 (y1_27) fl_X0_12 dX0_leap_187 (by decide) rfl rfl ?_
    refine G_cVi (As := []) (rest := []) (ok_X2_result M32) rfl (y1_28) rfl mv_X0_125 dX0_leap_190 rfl rfl (Nat.le_of_ble_eq_true rfl) (g_fitN (by decide) (by decide)) (fun r35 M34 => ?_)
    refine G_istore (lv' := [(6, .int r35), (0, .ref (ad X 27)), (1, .int x1), (2, .int x2), (4, .ref (ad X 30)), (5, .int x5)]) dX0_leap_193 (by decide) rfl ?_
    refine G_aload_n 1 dX0_leap_195 rfl rfl ?_
    refine G_get 3 clX0 (y1_27) fl_X0_12 dX0_leap_196 (by decide) rfl rfl ?_
    refine G_get 2 clX2 (y1_28) fl_X0_129 dX0_leap_199 (by decide) rfl rfl ?_
    refine G_if_eq (tgt := 208) dX0_leap_202 (by decide) ?_ ?_
    · exact G_sub [1, 2, 3, 5, 0] rfl (o_X0_leap_208 x1 x2 x5 r35 M34)
    · refine G_bipush (v := (-2)) dX0_leap_205 (by decide) ?_
      exact G_iret rfl dX0_leap_207
def f_X0_leap (a1 : Int32) (a2 : Int32) (a3 : Int32) (M : gM) : Option (Int32 × gM) := (g_or 3 12 (M.2.2 27 0) (fun t1 => (g_b (f_X4_hasAct t1 a2 M) (fun r3 M2 => (if r3 then (g_b (f_X2_standAt a1 (M2.1 27 1) M2) (fun r5 M4 => (g_or 3 12 (M4.2.2 27 0) (fun t6 => (g_ck a2 6 (g_ck (3 : Int32) 8 (g_m (sI M4 30 (tn (3 : Int32)) (M4.1 (t6 + 3) (tn a2))) (fun M7 => (g_ck (4 : Int32) 8 (g_m (sI M7 30 (tn (4 : Int32)) a3) (fun M8 => (g_b (f_X4_swingOf a1 M8) (fun r10 M9 => (g_b (f_X4_leanOf a1 M9) (fun r12 M11 => (g_or 3 12 (M11.2.2 27 0) (fun t13 => (g_ck a2 6 (g_v (((r10 + (r12 / (4 : Int32))) + a3) - ((M11.1 (t13 + 3) (tn a2)) * (M11.1 27 1))) (fun y14 => (g_or 3 12 (M11.2.2 27 0) (fun t15 => (if (M11.1 t15 3) = ((-1) : Int32) then (f_X0_leap_138 a1 a2 y14 M11) else (g_or 3 12 (M11.2.2 27 0) (fun t36 => (g_or 3 12 (M11.2.2 27 0) (fun t37 => (g_b (f_X2_run (t36 + 1) (M11.1 t37 3) M11) (fun r39 M38 => (g_b (f_X2_result M38) (fun r41 M40 => (if (M40.1 28 2) = 0 then (f_X0_leap_138 a1 a2 r41 M40) else (some (((-2) : Int32), M40)))))))))))))))))))))))))))))))))) else (some (((-2) : Int32), M2)))))))
set_option maxRecDepth 100000 in
set_option maxHeartbeats 4000000 in
theorem ok_X0_leap (a1 : Int32) (a2 : Int32) (a3 : Int32) (M : gM) : g_met Y1 yX0_leap jX0_leap g_ei (fun Z => [.ref (Z.2.1 27), .int a1, .int a2, .int a3]) M (f_X0_leap a1 a2 a3 M) := by
  refine g_enter (fun Z => [(0, .ref (Z.2.1 27)), (1, .int a1), (2, .int a2), (3, .int a3)]) (by decide) rfl (fun Z => Nat.le_of_ble_eq_true rfl) (fun Z => rfl) (fun X => ?_)
  rw [f_X0_leap]
  refine G_aload_n 0 dX0_leap_0 rfl rfl ?_
  refine G_getO 0 clX0 (y1_27) fl_X0_39 dX0_leap_1 (by decide) rfl (by decide) (fun t1 ht1 => ?_)
  refine G_iload_n 2 dX0_leap_4 rfl rfl ?_
  refine G_cVb (As := [.int a2]) (rest := []) (ok_X4_hasAct ht1 a2 M) rfl (ro_0 ht1) rfl mv_X0_109 dX0_leap_5 rfl rfl (Nat.le_of_ble_eq_true rfl) (g_fitN (by decide) (by decide)) (fun r3 M2 => ?_)
  refine G_ifB_ne (tgt := 14) dX0_leap_8 (by decide) ?_ ?_
  · refine G_aload_n 0 dX0_leap_14 rfl rfl ?_
    refine G_get 3 clX0 (y1_27) fl_X0_12 dX0_leap_15 (by decide) rfl rfl ?_
    refine G_iload_n 1 dX0_leap_18 rfl rfl ?_
    refine G_aload_n 0 dX0_leap_19 rfl rfl ?_
    refine G_get 1 clX0 (y1_27) fl_X0_43 dX0_leap_20 (by decide) rfl rfl ?_
    refine G_cVv (As := [.int a1, .int (M2.1 27 1)]) (rest := []) (ok_X2_standAt a1 (M2.1 27 1) M2) rfl (y1_28) rfl mv_X0_54 dX0_leap_23 rfl rfl (Nat.le_of_ble_eq_true rfl) (g_fitN (by decide) (by decide)) (fun r5 M4 => ?_)
    refine G_aload_n 0 dX0_leap_26 rfl rfl ?_
    refine G_get 3 clX0 (y1_27) fl_X0_12 dX0_leap_27 (by decide) rfl rfl ?_
    refine G_get 1 clX2 (y1_28) fl_X0_84 dX0_leap_30 (by decide) rfl rfl ?_
    refine G_astore (lv' := [(4, .ref (ad X 30)), (0, .ref (ad X 27)), (1, .int a1), (2, .int a2), (3, .int a3)]) dX0_leap_33 (by decide) rfl ?_
    refine G_aload 0 dX0_leap_35 rfl ?_
    refine G_iconst (v := 3) dX0_leap_37 (by decide) ?_
    refine G_aload_n 1 dX0_leap_38 rfl rfl ?_
    refine G_getO 0 clX0 (y1_27) fl_X0_39 dX0_leap_39 (by decide) rfl (by decide) (fun t6 ht6 => ?_)
    refine G_get 11 clX4 (ro_0 ht6) fl_X0_87 dX0_leap_42 (by decide) rfl rfl ?_
    refine G_iload_n 3 dX0_leap_45 rfl rfl ?_
    refine G_iald (ro_3 ht6) dX0_leap_46 ?_
    refine G_iast (y1_30) dX0_leap_47 ?_
    refine G_m (fun M7 => ?_)
    refine G_aload 0 dX0_leap_48 rfl ?_
    refine G_iconst (v := 4) dX0_leap_50 (by decide) ?_
    refine G_iload_n 4 dX0_leap_51 rfl rfl ?_
    refine G_iast (y1_30) dX0_leap_52 ?_
    refine G_m (fun M8 => ?_)
    refine G_iload_n 2 dX0_leap_53 rfl rfl ?_
    refine G_cSi (As := [.int a1]) (rest := []) (ok_X4_swingOf a1 M8) rfl ms_X0_112 dX0_leap_54 rfl rfl (Nat.le_of_ble_eq_true rfl) (g_fitN (by decide) (by decide)) (fun r10 M9 => ?_)
    refine G_iload_n 2 dX0_leap_57 rfl rfl ?_
    refine G_cSi (As := [.int a1]) (rest := [.int r10]) (ok_X4_leanOf a1 M9) rfl ms_X0_115 dX0_leap_58 rfl rfl (Nat.le_of_ble_eq_true rfl) (g_fitN (by decide) (by decide)) (fun r12 M11 => ?_)
    refine G_iconst (v := 4) dX0_leap_61 (by decide) ?_
    refine G_idivK dX0_leap_62 (by decide) ?_
    refine G_iadd dX0_leap_63 ?_
    refine G_iload_n 4 dX0_leap_64 rfl rfl ?_
    refine G_iadd dX0_leap_65 ?_
    refine G_aload_n 1 dX0_leap_66 rfl rfl ?_
    refine G_getO 0 clX0 (y1_27) fl_X0_39 dX0_leap_67 (by decide) rfl (by decide) (fun t13 ht13 => ?_)
    refine G_get 11 clX4 (ro_0 ht13) fl_X0_87 dX0_leap_70 (by decide) rfl rfl ?_
    refine G_iload_n 3 dX0_leap_73 rfl rfl ?_
    refine G_iald (ro_3 ht13) dX0_leap_74 ?_
    refine G_aload_n 1 dX0_leap_75 rfl rfl ?_
    refine G_get 1 clX0 (y1_27) fl_X0_43 dX0_leap_76 (by decide) rfl rfl ?_
    refine G_imul dX0_leap_79 ?_
    refine G_isub dX0_leap_80 ?_
    refine G_vi (fun y14 => ?_)
    refine G_istore (lv' := [(5, .int y14), (4, .ref (ad X 30)), (0, .ref (ad X 27)), (1, .int a1), (2, .int a2), (3, .int a3)]) dX0_leap_81 (by decide) rfl ?_
    refine G_aload_n 2 dX0_leap_83 rfl rfl ?_
    refine G_getO 0 clX0 (y1_27) fl_X0_39 dX0_leap_84 (by decide) rfl (by decide) (fun t15 ht15 => ?_)
    refine G_get 3 clX4 (ro_0 ht15) fl_X0_118 dX0_leap_87 (by decide) rfl rfl ?_
    refine G_iconst (v := (-1)) dX0_leap_90 (by decide) ?_
    refine G_icmp_eq (tgt := 138) dX0_leap_91 (by decide) ?_ ?_
    · exact G_sub [2, 3, 4, 1, 0] rfl (o_X0_leap_138 a1 a2 y14 M11)
    · refine G_aload_n 2 dX0_leap_94 rfl rfl ?_
      refine G_get 3 clX0 (y1_27) fl_X0_12 dX0_leap_95 (by decide) rfl rfl ?_
      refine G_aload_n 2 dX0_leap_98 rfl rfl ?_
      refine G_getO 0 clX0 (y1_27) fl_X0_39 dX0_leap_99 (by decide) rfl (by decide) (fun t36 ht36 => ?_)
      refine G_get 9 clX4 (ro_0 ht36) fl_X0_70 dX0_leap_102 (by decide) rfl rfl ?_
      refine G_aload_n 2 dX0_leap_105 rfl rfl ?_
      refine G_getO 0 clX0 (y1_27) fl_X0_39 dX0_leap_106 (by decide) rfl (by decide) (fun t37 ht37 => ?_)
      refine G_get 3 clX4 (ro_0 ht37) fl_X0_118 dX0_leap_109 (by decide) rfl rfl ?_
      refine G_cVi (As := [.ref (ad X (t36 + 1)), .int (M11.1 t37 3)]) (rest := []) (ok_X2_run (ro_1 ht36) (M11.1 t37 3) M11) rfl (y1_28) rfl mv_X0_121 dX0_leap_112 rfl rfl (Nat.le_of_ble_eq_true rfl) (g_fitN (by decide) (by decide)) (fun r39 M38 => ?_)
      refine G_pop dX0_leap_115 rfl ?_
      refine G_aload_n 2 dX0_leap_116 rfl rfl ?_
      refine G_get 3 clX0 (y1_27) fl_X0_12 dX0_leap_117 (by decide) rfl rfl ?_
      refine G_cVi (As := []) (rest := []) (ok_X2_result M38) rfl (y1_28) rfl mv_X0_125 dX0_leap_120 rfl rfl (Nat.le_of_ble_eq_true rfl) (g_fitN (by decide) (by decide)) (fun r41 M40 => ?_)
      refine G_istore (lv' := [(5, .int r41), (4, .ref (ad X 30)), (0, .ref (ad X 27)), (1, .int a1), (2, .int a2), (3, .int a3)]) dX0_leap_123 (by decide) rfl ?_
      refine G_aload_n 2 dX0_leap_125 rfl rfl ?_
      refine G_get 3 clX0 (y1_27) fl_X0_12 dX0_leap_126 (by decide) rfl rfl ?_
      refine G_get 2 clX2 (y1_28) fl_X0_129 dX0_leap_129 (by decide) rfl rfl ?_
      refine G_if_eq (tgt := 138) dX0_leap_132 (by decide) ?_ ?_
      · exact G_sub [2, 3, 4, 1, 0] rfl (o_X0_leap_138 a1 a2 r41 M40)
      · refine G_bipush (v := (-2)) dX0_leap_135 (by decide) ?_
        exact G_iret rfl dX0_leap_137
  · refine G_bipush (v := (-2)) dX0_leap_11 (by decide) ?_
    exact G_iret rfl dX0_leap_13
-- X0_after
def f_X0_after_125 (x9 : Int32) (M : gM) : Option (Int32 × gM) := (if (2079 : Int32) ≤ (x9 - (3 : Int32)) then (some (((-2) : Int32), M)) else (some ((x9 - (3 : Int32)), M)))
set_option maxRecDepth 100000 in
set_option maxHeartbeats 4000000 in
theorem o_X0_after_125 {X : gX} (x9 : Int32) (M : gM) : G Y1 jX0_after X (g_fin g_ei) 125 [(9, .int x9)] [] M (f_X0_after_125 x9 M) := by
  rw [f_X0_after_125]
  refine G_iload 0 dX0_after_125 rfl ?_
  refine G_iconst (v := 3) dX0_after_127 (by decide) ?_
  refine G_isub dX0_after_128 ?_
  refine G_sipush (v := 2079) dX0_after_129 (by decide) ?_
  refine G_icmp_ge (tgt := 142) dX0_after_132 (by decide) ?_ ?_
  · refine G_bipush (v := (-2)) dX0_after_142 (by decide) ?_
    exact G_iret rfl dX0_after_144
  · refine G_iload 0 dX0_after_135 rfl ?_
    refine G_iconst (v := 3) dX0_after_137 (by decide) ?_
    refine G_isub dX0_after_138 ?_
    refine G_goto (tgt := 144) dX0_after_139 (by decide) ?_
    exact G_iret rfl dX0_after_144
def f_X0_after_81 (x1 : Int32) (x2 : Int32) (x3 : Int32) (x5 : Int32) (x6 : Int32) (x7 : Int64) (M : gM) : Option (Int32 × gM) := (g_v ((((x7.toUInt64 >>> (x6.toInt64.toUInt64 &&& Int64.toUInt64 63)).toInt64).toInt32) &&& (4095 : Int32)) (fun y5 => (if y5 = 0 then (g_b (f_X0_leap x1 x2 x3 M) (fun r7 M6 => (g_v (r7 + (3 : Int32)) (fun y8 => (g_ck x5 87318 (g_m (sL M6 36 (tn x5) (x7 ||| (y8.toInt64 <<< (x6.toInt64 &&& 63)))) (fun M9 => (f_X0_after_125 y8 M9)))))))) else (f_X0_after_125 y5 M))))
set_option maxRecDepth 100000 in
set_option maxHeartbeats 4000000 in
theorem o_X0_after_81 {X : gX} (x1 : Int32) (x2 : Int32) (x3 : Int32) (x5 : Int32) (x6 : Int32) (x7 : Int64) (M : gM) : G Y1 jX0_after X (g_fin g_ei) 81 [(0, .ref (ad X 27)), (1, .int x1), (2, .int x2), (3, .int x3), (5, .int x5), (6, .int x6), (7, .long x7)] [] M (f_X0_after_81 x1 x2 x3 x5 x6 x7 M) := by
  rw [f_X0_after_81]
  refine G_lload 6 dX0_after_81 rfl ?_
  refine G_iload 5 dX0_after_83 rfl ?_
  refine G_lushr dX0_after_85 ?_
  refine G_l2i dX0_after_86 ?_
  refine G_sipush (v := 4095) dX0_after_87 (by decide) ?_
  refine G_iand dX0_after_90 ?_
  refine G_vi (fun y5 => ?_)
  refine G_istore (lv' := [(9, .int y5), (0, .ref (ad X 27)), (1, .int x1), (2, .int x2), (3, .int x3), (5, .int x5), (6, .int x6), (7, .long x7)]) dX0_after_91 (by decide) rfl ?_
  refine G_iload 0 dX0_after_93 rfl ?_
  refine G_if_ne (tgt := 125) dX0_after_95 (by decide) ?_ ?_
  · exact G_sub [0] rfl (o_X0_after_125 y5 M)
  · refine G_aload_n 1 dX0_after_98 rfl rfl ?_
    refine G_iload_n 2 dX0_after_99 rfl rfl ?_
    refine G_iload_n 3 dX0_after_100 rfl rfl ?_
    refine G_iload_n 4 dX0_after_101 rfl rfl ?_
    refine G_cVi (As := [.int x1, .int x2, .int x3]) (rest := []) (ok_X0_leap x1 x2 x3 M) rfl (y1_27) rfl mv_X0_105 dX0_after_102 rfl rfl (Nat.le_of_ble_eq_true rfl) (g_fitN (by decide) (by decide)) (fun r7 M6 => ?_)
    refine G_iconst (v := 3) dX0_after_105 (by decide) ?_
    refine G_iadd dX0_after_106 ?_
    refine G_vi (fun y8 => ?_)
    refine G_istore (lv' := [(9, .int y8), (0, .ref (ad X 27)), (1, .int x1), (2, .int x2), (3, .int x3), (5, .int x5), (6, .int x6), (7, .long x7)]) dX0_after_107 (by decide) rfl ?_
    refine G_aload_n 1 dX0_after_109 rfl rfl ?_
    refine G_get 9 clX0 (y1_27) fl_X0_35 dX0_after_110 (by decide) rfl rfl ?_
    refine G_iload 5 dX0_after_113 rfl ?_
    refine G_lload 7 dX0_after_115 rfl ?_
    refine G_iload 0 dX0_after_117 rfl ?_
    refine G_i2l dX0_after_119 ?_
    refine G_iload 6 dX0_after_120 rfl ?_
    refine G_lshl dX0_after_122 ?_
    refine G_lor dX0_after_123 ?_
    refine G_last (y1_36) dX0_after_124 ?_
    refine G_m (fun M9 => ?_)
    exact G_sub [0] rfl (o_X0_after_125 y8 M9)
def f_X0_after (a1 : Int32) (a2 : Int32) (a3 : Int32) (M : gM) : Option (Int32 × gM) := (g_v (a3 + (12 : Int32)) (fun y1 => (g_v ((((a1 * (6 : Int32)) + a2) * (7 : Int32)) + (y1 >>> ((2 : Int32) &&& 31))) (fun y2 => (if y2 < 0 then (some (((-2) : Int32), M)) else (if y2 < (87318 : Int32) then (g_v ((y1 &&& (3 : Int32)) * (12 : Int32)) (fun y3 => (g_ck y2 87318 (g_v (M.2.1 36 (tn y2)) (fun y4 => (if (((y4.toUInt64 >>> ((48 : Int32).toInt64.toUInt64 &&& Int64.toUInt64 63)).toInt64).toInt32) = (M.1 27 2) then (f_X0_after_81 a1 a2 a3 y2 y3 y4 M) else (g_v (((M.1 27 2).toInt64) <<< ((48 : Int32).toInt64 &&& 63)) (fun y10 => (f_X0_after_81 a1 a2 a3 y2 y3 y10 M))))))))) else (some (((-2) : Int32), M))))))))
set_option maxRecDepth 100000 in
set_option maxHeartbeats 4000000 in
theorem ok_X0_after (a1 : Int32) (a2 : Int32) (a3 : Int32) (M : gM) : g_met Y1 yX0_after jX0_after g_ei (fun Z => [.ref (Z.2.1 27), .int a1, .int a2, .int a3]) M (f_X0_after a1 a2 a3 M) := by
  refine g_enter (fun Z => [(0, .ref (Z.2.1 27)), (1, .int a1), (2, .int a2), (3, .int a3)]) (by decide) rfl (fun Z => Nat.le_of_ble_eq_true rfl) (fun Z => rfl) (fun X => ?_)
  rw [f_X0_after]
  refine G_iload_n 3 dX0_after_0 rfl rfl ?_
  refine G_bipush (v := 12) dX0_after_1 (by decide) ?_
  refine G_iadd dX0_after_3 ?_
  refine G_vi (fun y1 => ?_)
  refine G_istore (lv' := [(4, .int y1), (0, .ref (ad X 27)), (1, .int a1), (2, .int a2), (3, .int a3)]) dX0_after_4 (by decide) rfl ?_
  refine G_iload_n 2 dX0_after_6 rfl rfl ?_
  refine G_bipush (v := 6) dX0_after_7 (by decide) ?_
  refine G_imul dX0_after_9 ?_
  refine G_iload_n 3 dX0_after_10 rfl rfl ?_
  refine G_iadd dX0_after_11 ?_
  refine G_bipush (v := 7) dX0_after_12 (by decide) ?_
  refine G_imul dX0_after_14 ?_
  refine G_iload 0 dX0_after_15 rfl ?_
  refine G_iconst (v := 2) dX0_after_17 (by decide) ?_
  refine G_ishr dX0_after_18 ?_
  refine G_iadd dX0_after_19 ?_
  refine G_vi (fun y2 => ?_)
  refine G_istore (lv' := [(5, .int y2), (4, .int y1), (0, .ref (ad X 27)), (1, .int a1), (2, .int a2), (3, .int a3)]) dX0_after_20 (by decide) rfl ?_
  refine G_iload 0 dX0_after_22 rfl ?_
  refine G_if_lt (tgt := 37) dX0_after_24 (by decide) ?_ ?_
  · refine G_bipush (v := (-2)) dX0_after_37 (by decide) ?_
    exact G_iret rfl dX0_after_39
  · refine G_iload 0 dX0_after_27 rfl ?_
    refine G_aload_n 2 dX0_after_29 rfl rfl ?_
    refine G_get 9 clX0 (y1_27) fl_X0_35 dX0_after_30 (by decide) rfl rfl ?_
    refine G_alenL (v := 87318) (y1_36) rfl dX0_after_33 ?_
    refine G_icmp_lt (tgt := 40) dX0_after_34 (by decide) ?_ ?_
    · refine G_iload 1 dX0_after_40 rfl ?_
      refine G_iconst (v := 3) dX0_after_42 (by decide) ?_
      refine G_iand dX0_after_43 ?_
      refine G_bipush (v := 12) dX0_after_44 (by decide) ?_
      refine G_imul dX0_after_46 ?_
      refine G_vi (fun y3 => ?_)
      refine G_istore (lv' := [(6, .int y3), (5, .int y2), (4, .int y1), (0, .ref (ad X 27)), (1, .int a1), (2, .int a2), (3, .int a3)]) dX0_after_47 (by decide) rfl ?_
      refine G_aload_n 3 dX0_after_49 rfl rfl ?_
      refine G_get 9 clX0 (y1_27) fl_X0_35 dX0_after_50 (by decide) rfl rfl ?_
      refine G_iload 1 dX0_after_53 rfl ?_
      refine G_lald (y1_36) dX0_after_55 ?_
      refine G_vl (fun y4 => ?_)
      refine G_lstore (lv' := [(7, .long y4), (6, .int y3), (5, .int y2), (4, .int y1), (0, .ref (ad X 27)), (1, .int a1), (2, .int a2), (3, .int a3)]) dX0_after_56 (by decide) rfl ?_
      refine G_lload 0 dX0_after_58 rfl ?_
      refine G_bipush (v := 48) dX0_after_60 (by decide) ?_
      refine G_lushr dX0_after_62 ?_
      refine G_l2i dX0_after_63 ?_
      refine G_aload_n 4 dX0_after_64 rfl rfl ?_
      refine G_get 2 clX0 (y1_27) fl_X0_47 dX0_after_65 (by decide) rfl rfl ?_
      refine G_icmp_eq (tgt := 81) dX0_after_68 (by decide) ?_ ?_
      · exact G_sub [4, 5, 6, 7, 2, 1, 0] rfl (o_X0_after_81 a1 a2 a3 y2 y3 y4 M)
      · refine G_aload_n 4 dX0_after_71 rfl rfl ?_
        refine G_get 2 clX0 (y1_27) fl_X0_47 dX0_after_72 (by decide) rfl rfl ?_
        refine G_i2l dX0_after_75 ?_
        refine G_bipush (v := 48) dX0_after_76 (by decide) ?_
        refine G_lshl dX0_after_78 ?_
        refine G_vl (fun y10 => ?_)
        refine G_lstore (lv' := [(7, .long y10), (6, .int y3), (5, .int y2), (4, .int y1), (0, .ref (ad X 27)), (1, .int a1), (2, .int a2), (3, .int a3)]) dX0_after_79 (by decide) rfl ?_
        exact G_sub [4, 5, 6, 7, 2, 1, 0] rfl (o_X0_after_81 a1 a2 a3 y2 y3 y10 M)
    · refine G_bipush (v := (-2)) dX0_after_37 (by decide) ?_
      exact G_iret rfl dX0_after_39
-- X1_fail
def f_X1_fail (a1 : Int32) (M : gM) : Option (Bool × gM) := (g_m (sI M 21 1 a1) (fun M1 => (if (401 : Int32) ≤ (M1.1 21 4) then (g_m (sI M1 21 0 ((-1) : Int32)) (fun M2 => (some (false, M2)))) else (g_ck (M1.1 21 4) 401 (g_m (sI M1 21 0 (M1.1 25 (tn (M1.1 21 4)))) (fun M3 => (some (false, M3))))))))
set_option maxRecDepth 100000 in
set_option maxHeartbeats 4000000 in
theorem ok_X1_fail (a1 : Int32) (M : gM) : g_met Y1 yX1_fail jX1_fail g_eb (fun Z => [.ref (Z.2.1 21), .int a1]) M (f_X1_fail a1 M) := by
  refine g_enter (fun Z => [(0, .ref (Z.2.1 21)), (1, .int a1)]) (by decide) rfl (fun Z => Nat.le_of_ble_eq_true rfl) (fun Z => rfl) (fun X => ?_)
  rw [f_X1_fail]
  refine G_aload_n 0 dX1_fail_0 rfl rfl ?_
  refine G_iload_n 1 dX1_fail_1 rfl rfl ?_
  refine G_putI 1 clX1 (y1_21) fl_X1_39 dX1_fail_2 (by decide) rfl rfl rfl ?_
  refine G_m (fun M1 => ?_)
  refine G_aload_n 0 dX1_fail_5 rfl rfl ?_
  refine G_aload_n 0 dX1_fail_6 rfl rfl ?_
  refine G_get 4 clX1 (y1_21) fl_X1_35 dX1_fail_7 (by decide) rfl rfl ?_
  refine G_aload_n 0 dX1_fail_10 rfl rfl ?_
  refine G_get 9 clX1 (y1_21) fl_X1_18 dX1_fail_11 (by decide) rfl rfl ?_
  refine G_get 1 clX7 (y1_23) fl_X1_85 dX1_fail_14 (by decide) rfl rfl ?_
  refine G_alen (v := 401) (y1_25) rfl dX1_fail_17 ?_
  refine G_icmp_ge (tgt := 36) dX1_fail_18 (by decide) ?_ ?_
  · refine G_iconst (v := (-1)) dX1_fail_36 (by decide) ?_
    refine G_putI 0 clX1 (y1_21) fl_X1_42 dX1_fail_37 (by decide) rfl rfl rfl ?_
    refine G_m (fun M2 => ?_)
    refine G_iconst (v := 0) dX1_fail_40 (by decide) ?_
    exact G_zret (b := false) rfl dX1_fail_41
  · refine G_aload_n 0 dX1_fail_21 rfl rfl ?_
    refine G_get 9 clX1 (y1_21) fl_X1_18 dX1_fail_22 (by decide) rfl rfl ?_
    refine G_get 1 clX7 (y1_23) fl_X1_85 dX1_fail_25 (by decide) rfl rfl ?_
    refine G_aload_n 0 dX1_fail_28 rfl rfl ?_
    refine G_get 4 clX1 (y1_21) fl_X1_35 dX1_fail_29 (by decide) rfl rfl ?_
    refine G_iald (y1_25) dX1_fail_32 ?_
    refine G_goto (tgt := 37) dX1_fail_33 (by decide) ?_
    refine G_putI 0 clX1 (y1_21) fl_X1_42 dX1_fail_37 (by decide) rfl rfl rfl ?_
    refine G_m (fun M3 => ?_)
    refine G_iconst (v := 0) dX1_fail_40 (by decide) ?_
    exact G_zret (b := false) rfl dX1_fail_41
-- X1_kind
def f_X1_kind (M : gM) : Option (Int32 × gM) := (if (401 : Int32) ≤ (M.1 21 4) then (some ((31 : Int32), M)) else (g_ck (M.1 21 4) 401 (some ((M.1 24 (tn (M.1 21 4))), M))))
set_option maxRecDepth 100000 in
set_option maxHeartbeats 4000000 in
theorem ok_X1_kind (M : gM) : g_met Y1 yX1_kind jX1_kind g_ei (fun Z => [.ref (Z.2.1 21)]) M (f_X1_kind M) := by
  refine g_enter (fun Z => [(0, .ref (Z.2.1 21))]) (by decide) rfl (fun Z => Nat.le_of_ble_eq_true rfl) (fun Z => rfl) (fun X => ?_)
  rw [f_X1_kind]
  refine G_aload_n 0 dX1_kind_0 rfl rfl ?_
  refine G_get 4 clX1 (y1_21) fl_X1_35 dX1_kind_1 (by decide) rfl rfl ?_
  refine G_aload_n 0 dX1_kind_4 rfl rfl ?_
  refine G_get 9 clX1 (y1_21) fl_X1_18 dX1_kind_5 (by decide) rfl rfl ?_
  refine G_get 0 clX7 (y1_23) fl_X1_78 dX1_kind_8 (by decide) rfl rfl ?_
  refine G_alen (v := 401) (y1_24) rfl dX1_kind_11 ?_
  refine G_icmp_ge (tgt := 30) dX1_kind_12 (by decide) ?_ ?_
  · refine G_bipush (v := 31) dX1_kind_30 (by decide) ?_
    exact G_iret rfl dX1_kind_32
  · refine G_aload_n 0 dX1_kind_15 rfl rfl ?_
    refine G_get 9 clX1 (y1_21) fl_X1_18 dX1_kind_16 (by decide) rfl rfl ?_
    refine G_get 0 clX7 (y1_23) fl_X1_78 dX1_kind_19 (by decide) rfl rfl ?_
    refine G_aload_n 0 dX1_kind_22 rfl rfl ?_
    refine G_get 4 clX1 (y1_21) fl_X1_35 dX1_kind_23 (by decide) rfl rfl ?_
    refine G_iald (y1_24) dX1_kind_26 ?_
    refine G_goto (tgt := 32) dX1_kind_27 (by decide) ?_
    exact G_iret rfl dX1_kind_32
-- X1_defer
def f_X1_defer (a1 : Int32) (M : gM) : Option (Unit × gM) := (if (401 : Int32) ≤ (M.1 21 7) then (some ((), M)) else (g_ck (M.1 21 7) 401 (g_m (sI M 22 (tn (M.1 21 7)) a1) (fun M1 => (g_m (sI M1 21 7 ((M1.1 21 7) + (1 : Int32))) (fun M2 => (some ((), M2))))))))
set_option maxRecDepth 100000 in
set_option maxHeartbeats 4000000 in
theorem ok_X1_defer (a1 : Int32) (M : gM) : g_met Y1 yX1_defer jX1_defer g_ev (fun Z => [.ref (Z.2.1 21), .int a1]) M (f_X1_defer a1 M) := by
  refine g_enter (fun Z => [(0, .ref (Z.2.1 21)), (1, .int a1)]) (by decide) rfl (fun Z => Nat.le_of_ble_eq_true rfl) (fun Z => rfl) (fun X => ?_)
  rw [f_X1_defer]
  refine G_aload_n 0 dX1_defer_0 rfl rfl ?_
  refine G_get 7 clX1 (y1_21) fl_X1_169 dX1_defer_1 (by decide) rfl rfl ?_
  refine G_aload_n 0 dX1_defer_4 rfl rfl ?_
  refine G_get 8 clX1 (y1_21) fl_X1_9 dX1_defer_5 (by decide) rfl rfl ?_
  refine G_alen (v := 401) (y1_22) rfl dX1_defer_8 ?_
  refine G_icmp_ge (tgt := 32) dX1_defer_9 (by decide) ?_ ?_
  · exact G_vret rfl dX1_defer_32
  · refine G_aload_n 0 dX1_defer_12 rfl rfl ?_
    refine G_get 8 clX1 (y1_21) fl_X1_9 dX1_defer_13 (by decide) rfl rfl ?_
    refine G_aload_n 0 dX1_defer_16 rfl rfl ?_
    refine G_get 7 clX1 (y1_21) fl_X1_169 dX1_defer_17 (by decide) rfl rfl ?_
    refine G_iload_n 1 dX1_defer_20 rfl rfl ?_
    refine G_iast (y1_22) dX1_defer_21 ?_
    refine G_m (fun M1 => ?_)
    refine G_aload_n 0 dX1_defer_22 rfl rfl ?_
    refine G_dup dX1_defer_23 rfl ?_
    refine G_get 7 clX1 (y1_21) fl_X1_169 dX1_defer_24 (by decide) rfl rfl ?_
    refine G_iconst (v := 1) dX1_defer_27 (by decide) ?_
    refine G_iadd dX1_defer_28 ?_
    refine G_putI 7 clX1 (y1_21) fl_X1_169 dX1_defer_29 (by decide) rfl rfl rfl ?_
    refine G_m (fun M2 => ?_)
    exact G_vret rfl dX1_defer_32
-- X1_value
def f_X1_value (M : gM) : Option (Int64 × gM) := (if (401 : Int32) ≤ (M.1 21 4) then (some ((0 : Int64), M)) else (g_ck (M.1 21 4) 401 (some ((M.2.1 26 (tn (M.1 21 4))), M))))
set_option maxRecDepth 100000 in
set_option maxHeartbeats 4000000 in
theorem ok_X1_value (M : gM) : g_met Y1 yX1_value jX1_value g_el (fun Z => [.ref (Z.2.1 21)]) M (f_X1_value M) := by
  refine g_enter (fun Z => [(0, .ref (Z.2.1 21))]) (by decide) rfl (fun Z => Nat.le_of_ble_eq_true rfl) (fun Z => rfl) (fun X => ?_)
  rw [f_X1_value]
  refine G_aload_n 0 dX1_value_0 rfl rfl ?_
  refine G_get 4 clX1 (y1_21) fl_X1_35 dX1_value_1 (by decide) rfl rfl ?_
  refine G_aload_n 0 dX1_value_4 rfl rfl ?_
  refine G_get 9 clX1 (y1_21) fl_X1_18 dX1_value_5 (by decide) rfl rfl ?_
  refine G_get 2 clX7 (y1_23) fl_X1_81 dX1_value_8 (by decide) rfl rfl ?_
  refine G_alenL (v := 401) (y1_26) rfl dX1_value_11 ?_
  refine G_icmp_ge (tgt := 30) dX1_value_12 (by decide) ?_ ?_
  · refine G_lconst (v := 0) dX1_value_30 (by decide) ?_
    exact G_lret rfl dX1_value_31
  · refine G_aload_n 0 dX1_value_15 rfl rfl ?_
    refine G_get 9 clX1 (y1_21) fl_X1_18 dX1_value_16 (by decide) rfl rfl ?_
    refine G_get 2 clX7 (y1_23) fl_X1_81 dX1_value_19 (by decide) rfl rfl ?_
    refine G_aload_n 0 dX1_value_22 rfl rfl ?_
    refine G_get 4 clX1 (y1_21) fl_X1_35 dX1_value_23 (by decide) rfl rfl ?_
    refine G_lald (y1_26) dX1_value_26 ?_
    refine G_goto (tgt := 31) dX1_value_27 (by decide) ?_
    exact G_lret rfl dX1_value_31
-- X4_emit
def f_X4_emit (t : Nat) (a1 : Int32) (M : gM) : Option (Unit × gM) := (if (800 : Int32) ≤ (M.1 t 8) then (some ((), M)) else (g_ck (M.1 t 8) 800 (g_m (sI M (t + 1) (tn (M.1 t 8)) a1) (fun M1 => (g_m (sI M1 t 8 ((M1.1 t 8) + (1 : Int32))) (fun M2 => (some ((), M2))))))))
set_option maxRecDepth 100000 in
set_option maxHeartbeats 4000000 in
theorem ok_X4_emit {t : Nat} (ht : t = 3 ∨ t = 12) (a1 : Int32) (M : gM) : g_met Y1 yX4_emit jX4_emit g_ev (fun Z => [.ref (Z.2.1 t), .int a1]) M (f_X4_emit t a1 M) := by
  refine g_enter (fun Z => [(0, .ref (Z.2.1 t)), (1, .int a1)]) (by decide) rfl (fun Z => Nat.le_of_ble_eq_true rfl) (fun Z => rfl) (fun X => ?_)
  rw [f_X4_emit]
  refine G_aload_n 0 dX4_emit_0 rfl rfl ?_
  refine G_get 8 clX4 (ro_0 ht) fl_X4_62 dX4_emit_1 (by decide) rfl rfl ?_
  refine G_aload_n 0 dX4_emit_4 rfl rfl ?_
  refine G_get 9 clX4 (ro_0 ht) fl_X4_9 dX4_emit_5 (by decide) rfl rfl ?_
  refine G_alen (v := 800) (ro_1 ht) rfl dX4_emit_8 ?_
  refine G_icmp_ge (tgt := 32) dX4_emit_9 (by decide) ?_ ?_
  · exact G_vret rfl dX4_emit_32
  · refine G_aload_n 0 dX4_emit_12 rfl rfl ?_
    refine G_get 9 clX4 (ro_0 ht) fl_X4_9 dX4_emit_13 (by decide) rfl rfl ?_
    refine G_aload_n 0 dX4_emit_16 rfl rfl ?_
    refine G_get 8 clX4 (ro_0 ht) fl_X4_62 dX4_emit_17 (by decide) rfl rfl ?_
    refine G_iload_n 1 dX4_emit_20 rfl rfl ?_
    refine G_iast (ro_1 ht) dX4_emit_21 ?_
    refine G_m (fun M1 => ?_)
    refine G_aload_n 0 dX4_emit_22 rfl rfl ?_
    refine G_dup dX4_emit_23 rfl ?_
    refine G_get 8 clX4 (ro_0 ht) fl_X4_62 dX4_emit_24 (by decide) rfl rfl ?_
    refine G_iconst (v := 1) dX4_emit_27 (by decide) ?_
    refine G_iadd dX4_emit_28 ?_
    refine G_putI 8 clX4 (ro_0 ht) fl_X4_62 dX4_emit_29 (by decide) rfl rfl rfl ?_
    refine G_m (fun M2 => ?_)
    exact G_vret rfl dX4_emit_32
-- X1_emitUnit
def f_X1_emitUnit (a1 : Int32) (M : gM) : Option (Unit × gM) := (if a1 = (18 : Int32) then (g_or 3 12 (M.2.2 21 6) (fun t4 => (g_b (f_X1_value M) (fun r6 M5 => (g_b (f_X4_emit t4 ((r6.toInt32 * (16 : Int32)) + (0 : Int32)) M5) (fun r8 M7 => (some ((), M7)))))))) else (g_or 3 12 (M.2.2 21 6) (fun t1 => (g_b (f_X4_emit t1 ((a1 * (16 : Int32)) + (1 : Int32)) M) (fun r3 M2 => (some ((), M2)))))))
set_option maxRecDepth 100000 in
set_option maxHeartbeats 4000000 in
theorem ok_X1_emitUnit (a1 : Int32) (M : gM) : g_met Y1 yX1_emitUnit jX1_emitUnit g_ev (fun Z => [.ref (Z.2.1 21), .int a1]) M (f_X1_emitUnit a1 M) := by
  refine g_enter (fun Z => [(0, .ref (Z.2.1 21)), (1, .int a1)]) (by decide) rfl (fun Z => Nat.le_of_ble_eq_true rfl) (fun Z => rfl) (fun X => ?_)
  rw [f_X1_emitUnit]
  refine G_iload_n 1 dX1_emitUnit_0 rfl rfl ?_
  refine G_bipush (v := 18) dX1_emitUnit_1 (by decide) ?_
  refine G_icmp_ne (tgt := 26) dX1_emitUnit_3 (by decide) ?_ ?_
  · refine G_aload_n 0 dX1_emitUnit_26 rfl rfl ?_
    refine G_getO 6 clX1 (y1_21) fl_X1_22 dX1_emitUnit_27 (by decide) rfl (by decide) (fun t1 ht1 => ?_)
    refine G_iload_n 1 dX1_emitUnit_30 rfl rfl ?_
    refine G_bipush (v := 16) dX1_emitUnit_31 (by decide) ?_
    refine G_imul dX1_emitUnit_33 ?_
    refine G_iconst (v := 1) dX1_emitUnit_34 (by decide) ?_
    refine G_iadd dX1_emitUnit_35 ?_
    refine G_cVv (As := [.int ((a1 * (16 : Int32)) + (1 : Int32))]) (rest := []) (ok_X4_emit ht1 ((a1 * (16 : Int32)) + (1 : Int32)) M) rfl (ro_0 ht1) rfl mv_X1_126 dX1_emitUnit_36 rfl rfl (Nat.le_of_ble_eq_true rfl) (g_fitN (by decide) (by decide)) (fun r3 M2 => ?_)
    exact G_vret rfl dX1_emitUnit_39
  · refine G_aload_n 0 dX1_emitUnit_6 rfl rfl ?_
    refine G_getO 6 clX1 (y1_21) fl_X1_22 dX1_emitUnit_7 (by decide) rfl (by decide) (fun t4 ht4 => ?_)
    refine G_aload_n 0 dX1_emitUnit_10 rfl rfl ?_
    refine G_cVl (As := []) (rest := [.ref (ad X t4)]) (ok_X1_value M) rfl (y1_21) rfl mv_X1_110 dX1_emitUnit_11 rfl rfl (Nat.le_of_ble_eq_true rfl) (g_fitN (by decide) (by decide)) (fun r6 M5 => ?_)
    refine G_l2i dX1_emitUnit_14 ?_
    refine G_bipush (v := 16) dX1_emitUnit_15 (by decide) ?_
    refine G_imul dX1_emitUnit_17 ?_
    refine G_iconst (v := 0) dX1_emitUnit_18 (by decide) ?_
    refine G_iadd dX1_emitUnit_19 ?_
    refine G_cVv (As := [.int ((r6.toInt32 * (16 : Int32)) + (0 : Int32))]) (rest := []) (ok_X4_emit ht4 ((r6.toInt32 * (16 : Int32)) + (0 : Int32)) M5) rfl (ro_0 ht4) rfl mv_X1_126 dX1_emitUnit_20 rfl rfl (Nat.le_of_ble_eq_true rfl) (g_fitN (by decide) (by decide)) (fun r8 M7 => ?_)
    refine G_goto (tgt := 39) dX1_emitUnit_23 (by decide) ?_
    exact G_vret rfl dX1_emitUnit_39
-- X1_step
def f_X1_step (M : gM) : Option (Bool × gM) := (if (M.1 21 4) < (400 : Int32) then (g_m (sI M 21 4 ((M.1 21 4) + (1 : Int32))) (fun M1 => (some (true, M1)))) else (g_b (f_X1_fail (2 : Int32) M) (fun r3 M2 => (some (r3, M2)))))
set_option maxRecDepth 100000 in
set_option maxHeartbeats 4000000 in
theorem ok_X1_step (M : gM) : g_met Y1 yX1_step jX1_step g_eb (fun Z => [.ref (Z.2.1 21)]) M (f_X1_step M) := by
  refine g_enter (fun Z => [(0, .ref (Z.2.1 21))]) (by decide) rfl (fun Z => Nat.le_of_ble_eq_true rfl) (fun Z => rfl) (fun X => ?_)
  rw [f_X1_step]
  refine G_aload_n 0 dX1_step_0 rfl rfl ?_
  refine G_get 4 clX1 (y1_21) fl_X1_35 dX1_step_1 (by decide) rfl rfl ?_
  refine G_sipush (v := 400) dX1_step_4 (by decide) ?_
  refine G_icmp_lt (tgt := 16) dX1_step_7 (by decide) ?_ ?_
  · refine G_aload_n 0 dX1_step_16 rfl rfl ?_
    refine G_dup dX1_step_17 rfl ?_
    refine G_get 4 clX1 (y1_21) fl_X1_35 dX1_step_18 (by decide) rfl rfl ?_
    refine G_iconst (v := 1) dX1_step_21 (by decide) ?_
    refine G_iadd dX1_step_22 ?_
    refine G_putI 4 clX1 (y1_21) fl_X1_35 dX1_step_23 (by decide) rfl rfl rfl ?_
    refine G_m (fun M1 => ?_)
    refine G_iconst (v := 1) dX1_step_26 (by decide) ?_
    exact G_zret (b := true) rfl dX1_step_27
  · refine G_aload_n 0 dX1_step_10 rfl rfl ?_
    refine G_iconst (v := 2) dX1_step_11 (by decide) ?_
    refine G_cVb (As := [.int 2]) (rest := []) (ok_X1_fail (2 : Int32) M) rfl (y1_21) rfl mv_X1_72 dX1_step_12 rfl rfl (Nat.le_of_ble_eq_true rfl) (g_fitN (by decide) (by decide)) (fun r3 M2 => ?_)
    exact G_zret rfl dX1_step_15
-- X1_binding
def f_X1_binding (a0 : Int32) (M : gM) : Option (Int32 × gM) := (if a0 = (2 : Int32) then (some ((3 : Int32), M)) else (if a0 = (5 : Int32) then (some ((2 : Int32), M)) else (if a0 = (6 : Int32) then (some ((2 : Int32), M)) else (if a0 = (10 : Int32) then (some ((0 : Int32), M)) else (some ((1 : Int32), M))))))
set_option maxRecDepth 100000 in
set_option maxHeartbeats 4000000 in
theorem ok_X1_binding (a0 : Int32) (M : gM) : g_met Y1 yX1_binding jX1_binding g_ei (fun Z => [.int a0]) M (f_X1_binding a0 M) := by
  refine g_enter (fun Z => [(0, .int a0)]) (by decide) rfl (fun Z => Nat.le_of_ble_eq_true rfl) (fun Z => rfl) (fun X => ?_)
  rw [f_X1_binding]
  refine G_iload_n 0 dX1_binding_0 rfl rfl ?_
  refine G_iconst (v := 2) dX1_binding_1 (by decide) ?_
  refine G_icmp_ne (tgt := 7) dX1_binding_2 (by decide) ?_ ?_
  · refine G_iload_n 0 dX1_binding_7 rfl rfl ?_
    refine G_iconst (v := 5) dX1_binding_8 (by decide) ?_
    refine G_icmp_eq (tgt := 18) dX1_binding_9 (by decide) ?_ ?_
    · refine G_iconst (v := 2) dX1_binding_18 (by decide) ?_
      exact G_iret rfl dX1_binding_19
    · refine G_iload_n 0 dX1_binding_12 rfl rfl ?_
      refine G_bipush (v := 6) dX1_binding_13 (by decide) ?_
      refine G_icmp_ne (tgt := 20) dX1_binding_15 (by decide) ?_ ?_
      · refine G_iload_n 0 dX1_binding_20 rfl rfl ?_
        refine G_bipush (v := 10) dX1_binding_21 (by decide) ?_
        refine G_icmp_ne (tgt := 30) dX1_binding_23 (by decide) ?_ ?_
        · refine G_iconst (v := 1) dX1_binding_30 (by decide) ?_
          exact G_iret rfl dX1_binding_31
        · refine G_iconst (v := 0) dX1_binding_26 (by decide) ?_
          refine G_goto (tgt := 31) dX1_binding_27 (by decide) ?_
          exact G_iret rfl dX1_binding_31
      · refine G_iconst (v := 2) dX1_binding_18 (by decide) ?_
        exact G_iret rfl dX1_binding_19
  · refine G_iconst (v := 3) dX1_binding_5 (by decide) ?_
    exact G_iret rfl dX1_binding_6
-- X1_unwind
def f_X1_unwind_7 : Nat → Int32 → Int32 → gM → Option (Unit × gM)
  | 0, _, _, _ => none
  | n + 1, x1, x2, M => (if x2 < 0 then (some ((), M)) else (if (401 : Int32) ≤ x2 then (some ((), M)) else (g_ck x2 401 (g_v (M.1 22 (tn x2)) (fun y2 => (if y2 = (10 : Int32) then (some ((), M)) else (g_b (f_X1_binding y2 M) (fun r4 M3 => (g_b (f_X1_binding x1 M3) (fun r6 M5 => (if r6 ≤ r4 then (g_or 3 12 (M5.2.2 21 6) (fun t7 => (g_b (f_X4_emit t7 y2 M5) (fun r9 M8 => (g_m (sI M8 21 7 x2) (fun M10 => (f_X1_unwind_7 n x1 (x2 + (-1)) M10))))))) else (some ((), M5)))))))))))))
set_option maxRecDepth 100000 in
set_option maxHeartbeats 4000000 in
theorem o_X1_unwind_7 {X : gX} : ∀ (n : Nat) (x1 : Int32) (x2 : Int32) (M : gM), G Y1 jX1_unwind X (g_fin g_ev) 7 [(0, .ref (ad X 21)), (1, .int x1), (2, .int x2)] [] M (f_X1_unwind_7 n x1 x2 M) := by
  intro n
  induction n with
  | zero => intro x1 x2 M; exact G_none
  | succ n ih =>
    intro x1 x2 M
    rw [f_X1_unwind_7]
    refine G_iload_n 2 dX1_unwind_7 rfl rfl ?_
    refine G_if_lt (tgt := 64) dX1_unwind_8 (by decide) ?_ ?_
    · exact G_vret rfl dX1_unwind_64
    · refine G_iload_n 2 dX1_unwind_11 rfl rfl ?_
      refine G_aload_n 0 dX1_unwind_12 rfl rfl ?_
      refine G_get 8 clX1 (y1_21) fl_X1_9 dX1_unwind_13 (by decide) rfl rfl ?_
      refine G_alen (v := 401) (y1_22) rfl dX1_unwind_16 ?_
      refine G_icmp_ge (tgt := 64) dX1_unwind_17 (by decide) ?_ ?_
      · exact G_vret rfl dX1_unwind_64
      · refine G_aload_n 0 dX1_unwind_20 rfl rfl ?_
        refine G_get 8 clX1 (y1_21) fl_X1_9 dX1_unwind_21 (by decide) rfl rfl ?_
        refine G_iload_n 2 dX1_unwind_24 rfl rfl ?_
        refine G_iald (y1_22) dX1_unwind_25 ?_
        refine G_vi (fun y2 => ?_)
        refine G_istore_n (lv' := [(3, .int y2), (0, .ref (ad X 21)), (1, .int x1), (2, .int x2)]) dX1_unwind_26 rfl (by decide) rfl ?_
        refine G_iload_n 0 dX1_unwind_27 rfl rfl ?_
        refine G_bipush (v := 10) dX1_unwind_28 (by decide) ?_
        refine G_icmp_eq (tgt := 44) dX1_unwind_30 (by decide) ?_ ?_
        · exact G_vret rfl dX1_unwind_44
        · refine G_iload_n 0 dX1_unwind_33 rfl rfl ?_
          refine G_cSi (As := [.int y2]) (rest := []) (ok_X1_binding y2 M) rfl ms_X1_181 dX1_unwind_34 rfl rfl (Nat.le_of_ble_eq_true rfl) (g_fitN (by decide) (by decide)) (fun r4 M3 => ?_)
          refine G_iload_n 2 dX1_unwind_37 rfl rfl ?_
          refine G_cSi (As := [.int x1]) (rest := [.int r4]) (ok_X1_binding x1 M3) rfl ms_X1_181 dX1_unwind_38 rfl rfl (Nat.le_of_ble_eq_true rfl) (g_fitN (by decide) (by decide)) (fun r6 M5 => ?_)
          refine G_icmp_ge (tgt := 45) dX1_unwind_41 (by decide) ?_ ?_
          · refine G_aload_n 1 dX1_unwind_45 rfl rfl ?_
            refine G_getO 6 clX1 (y1_21) fl_X1_22 dX1_unwind_46 (by decide) rfl (by decide) (fun t7 ht7 => ?_)
            refine G_iload_n 0 dX1_unwind_49 rfl rfl ?_
            refine G_cVv (As := [.int y2]) (rest := []) (ok_X4_emit ht7 y2 M5) rfl (ro_0 ht7) rfl mv_X1_126 dX1_unwind_50 rfl rfl (Nat.le_of_ble_eq_true rfl) (g_fitN (by decide) (by decide)) (fun r9 M8 => ?_)
            refine G_aload_n 1 dX1_unwind_53 rfl rfl ?_
            refine G_iload_n 3 dX1_unwind_54 rfl rfl ?_
            refine G_putI 7 clX1 (y1_21) fl_X1_169 dX1_unwind_55 (by decide) rfl rfl rfl ?_
            refine G_m (fun M10 => ?_)
            refine G_iinc (v := x2 + (-1)) (lv' := [(2, .int (x2 + (-1))), (3, .int y2), (0, .ref (ad X 21)), (1, .int x1)]) 3 dX1_unwind_58 rfl rfl (by decide) rfl ?_
            refine G_goto (tgt := 7) dX1_unwind_61 (by decide) ?_
            exact G_sub [2, 3, 0] rfl (ih x1 (x2 + (-1)) M10)
          · exact G_vret rfl dX1_unwind_44
def f_X1_unwind (a1 : Int32) (M : gM) : Option (Unit × gM) := (g_v ((M.1 21 7) - (1 : Int32)) (fun y1 => (f_X1_unwind_7 FU a1 y1 M)))
set_option maxRecDepth 100000 in
set_option maxHeartbeats 4000000 in
theorem ok_X1_unwind (a1 : Int32) (M : gM) : g_met Y1 yX1_unwind jX1_unwind g_ev (fun Z => [.ref (Z.2.1 21), .int a1]) M (f_X1_unwind a1 M) := by
  refine g_enter (fun Z => [(0, .ref (Z.2.1 21)), (1, .int a1)]) (by decide) rfl (fun Z => Nat.le_of_ble_eq_true rfl) (fun Z => rfl) (fun X => ?_)
  rw [f_X1_unwind]
  refine G_aload_n 0 dX1_unwind_0 rfl rfl ?_
  refine G_get 7 clX1 (y1_21) fl_X1_169 dX1_unwind_1 (by decide) rfl rfl ?_
  refine G_iconst (v := 1) dX1_unwind_4 (by decide) ?_
  refine G_isub dX1_unwind_5 ?_
  refine G_vi (fun y1 => ?_)
  refine G_istore_n (lv' := [(2, .int y1), (0, .ref (ad X 21)), (1, .int a1)]) dX1_unwind_6 rfl (by decide) rfl ?_
  exact G_sub [1, 2, 0] rfl (o_X1_unwind_7 FU a1 y1 M)
-- X1_expression
def f_X1_expression_190 (x1 : Int32) (M : gM) : Option (Bool × gM) := (if x1 ≤ 0 then (g_b (f_X1_unwind (10 : Int32) M) (fun r7 M6 => (some (true, M6)))) else (g_b (f_X1_fail (1 : Int32) M) (fun r9 M8 => (some (r9, M8)))))
set_option maxRecDepth 100000 in
set_option maxHeartbeats 4000000 in
theorem o_X1_expression_190 {X : gX} (x1 : Int32) (M : gM) : G Y1 jX1_expression X (g_fin g_eb) 190 [(0, .ref (ad X 21)), (1, .int x1)] [] M (f_X1_expression_190 x1 M) := by
  rw [f_X1_expression_190]
  refine G_iload_n 1 dX1_expression_190 rfl rfl ?_
  refine G_if_le (tgt := 200) dX1_expression_191 (by decide) ?_ ?_
  · refine G_aload_n 0 dX1_expression_200 rfl rfl ?_
    refine G_bipush (v := 10) dX1_expression_201 (by decide) ?_
    refine G_cVv (As := [.int 10]) (rest := []) (ok_X1_unwind (10 : Int32) M) rfl (y1_21) rfl mv_X1_178 dX1_expression_203 rfl rfl (Nat.le_of_ble_eq_true rfl) (g_fitN (by decide) (by decide)) (fun r7 M6 => ?_)
    refine G_iconst (v := 1) dX1_expression_206 (by decide) ?_
    exact G_zret (b := true) rfl dX1_expression_207
  · refine G_aload_n 0 dX1_expression_194 rfl rfl ?_
    refine G_iconst (v := 1) dX1_expression_195 (by decide) ?_
    refine G_cVb (As := [.int 1]) (rest := []) (ok_X1_fail (1 : Int32) M) rfl (y1_21) rfl mv_X1_72 dX1_expression_196 rfl rfl (Nat.le_of_ble_eq_true rfl) (g_fitN (by decide) (by decide)) (fun r9 M8 => ?_)
    exact G_zret rfl dX1_expression_199
def f_X1_expression_208 (k11 : Int32 → Int32 → Int32 → gM → Option (Bool × gM)) (x1 : Int32) (x2 : Int32) (x3 : Int32) (M : gM) : Option (Bool × gM) := (g_b (f_X1_step M) (fun r14 M13 => (if r14 then (k11 x1 x2 (x3 + 1) M13) else (some (false, M13)))))
set_option maxRecDepth 100000 in
set_option maxHeartbeats 4000000 in
theorem o_X1_expression_208 {X : gX} {k11 : Int32 → Int32 → Int32 → gM → Option (Bool × gM)} (hk11 : ∀ (x1 : Int32) (x2 : Int32) (x3 : Int32) (M : gM), G Y1 jX1_expression X (g_fin g_eb) 11 [(0, .ref (ad X 21)), (1, .int x1), (2, .int x2), (3, .int x3)] [] M (k11 x1 x2 x3 M)) (x1 : Int32) (x2 : Int32) (x3 : Int32) (M : gM) : G Y1 jX1_expression X (g_fin g_eb) 208 [(0, .ref (ad X 21)), (1, .int x1), (2, .int x2), (3, .int x3)] [] M (f_X1_expression_208 k11 x1 x2 x3 M) := by
  rw [f_X1_expression_208]
  refine G_aload_n 0 dX1_expression_208 rfl rfl ?_
  refine G_cVb (As := []) (rest := []) (ok_X1_step M) rfl (y1_21) rfl mv_X1_88 dX1_expression_209 rfl rfl (Nat.le_of_ble_eq_true rfl) (g_fitN (by decide) (by decide)) (fun r14 M13 => ?_)
  refine G_ifB_ne (tgt := 217) dX1_expression_212 (by decide) ?_ ?_
  · refine G_iinc (v := x3 + 1) (lv' := [(3, .int (x3 + 1)), (0, .ref (ad X 21)), (1, .int x1), (2, .int x2)]) 3 dX1_expression_217 rfl rfl (by decide) rfl ?_
    refine G_goto (tgt := 11) dX1_expression_220 (by decide) ?_
    exact G_sub [1, 2, 3, 0] rfl (hk11 x1 x2 (x3 + 1) M13)
  · refine G_iconst (v := 0) dX1_expression_215 (by decide) ?_
    exact G_zret (b := false) rfl dX1_expression_216
def f_X1_expression_157 (k208 : Int32 → Int32 → Int32 → gM → Option (Bool × gM)) (x1 : Int32) (x2 : Int32) (x3 : Int32) (x4 : Int32) (M : gM) : Option (Bool × gM) := (if x4 = (29 : Int32) then (if x1 ≤ 0 then (f_X1_expression_190 x1 M) else (g_b (f_X1_unwind (10 : Int32) M) (fun r11 M10 => (g_m (sI M10 21 7 ((M10.1 21 7) - (1 : Int32))) (fun M12 => (k208 (x1 + (-1)) x2 x3 M12)))))) else (f_X1_expression_190 x1 M))
set_option maxRecDepth 100000 in
set_option maxHeartbeats 4000000 in
theorem o_X1_expression_157 {X : gX} {k208 : Int32 → Int32 → Int32 → gM → Option (Bool × gM)} (hk208 : ∀ (x1 : Int32) (x2 : Int32) (x3 : Int32) (M : gM), G Y1 jX1_expression X (g_fin g_eb) 208 [(0, .ref (ad X 21)), (1, .int x1), (2, .int x2), (3, .int x3)] [] M (k208 x1 x2 x3 M)) (x1 : Int32) (x2 : Int32) (x3 : Int32) (x4 : Int32) (M : gM) : G Y1 jX1_expression X (g_fin g_eb) 157 [(0, .ref (ad X 21)), (1, .int x1), (2, .int x2), (3, .int x3), (4, .int x4)] [] M (f_X1_expression_157 k208 x1 x2 x3 x4 M) := by
  rw [f_X1_expression_157]
  refine G_iload 4 dX1_expression_157 rfl ?_
  refine G_bipush (v := 29) dX1_expression_159 (by decide) ?_
  refine G_icmp_ne (tgt := 190) dX1_expression_161 (by decide) ?_ ?_
  · exact G_sub [0, 1] rfl (o_X1_expression_190 x1 M)
  · refine G_iload_n 1 dX1_expression_164 rfl rfl ?_
    refine G_if_le (tgt := 190) dX1_expression_165 (by decide) ?_ ?_
    · exact G_sub [0, 1] rfl (o_X1_expression_190 x1 M)
    · refine G_aload_n 0 dX1_expression_168 rfl rfl ?_
      refine G_bipush (v := 10) dX1_expression_169 (by decide) ?_
      refine G_cVv (As := [.int 10]) (rest := []) (ok_X1_unwind (10 : Int32) M) rfl (y1_21) rfl mv_X1_178 dX1_expression_171 rfl rfl (Nat.le_of_ble_eq_true rfl) (g_fitN (by decide) (by decide)) (fun r11 M10 => ?_)
      refine G_aload_n 0 dX1_expression_174 rfl rfl ?_
      refine G_dup dX1_expression_175 rfl ?_
      refine G_get 7 clX1 (y1_21) fl_X1_169 dX1_expression_176 (by decide) rfl rfl ?_
      refine G_iconst (v := 1) dX1_expression_179 (by decide) ?_
      refine G_isub dX1_expression_180 ?_
      refine G_putI 7 clX1 (y1_21) fl_X1_169 dX1_expression_181 (by decide) rfl rfl rfl ?_
      refine G_m (fun M12 => ?_)
      refine G_iinc (v := x1 + (-1)) (lv' := [(1, .int (x1 + (-1))), (0, .ref (ad X 21)), (2, .int x2), (3, .int x3), (4, .int x4)]) 1 dX1_expression_184 rfl rfl (by decide) rfl ?_
      refine G_goto (tgt := 208) dX1_expression_187 (by decide) ?_
      exact G_sub [1, 0, 2, 3] rfl (hk208 (x1 + (-1)) x2 x3 M12)
def f_X1_expression_107 (k208 : Int32 → Int32 → Int32 → gM → Option (Bool × gM)) (x1 : Int32) (x2 : Int32) (x3 : Int32) (x4 : Int32) (M : gM) : Option (Bool × gM) := (if x2 = 0 then (if x4 < (20 : Int32) then (f_X1_expression_157 k208 x1 x2 x3 x4 M) else (if (23 : Int32) < x4 then (f_X1_expression_157 k208 x1 x2 x3 x4 M) else (g_v ((x4 - (20 : Int32)) + (3 : Int32)) (fun y15 => (g_b (f_X1_unwind y15 M) (fun r17 M16 => (g_b (f_X1_defer y15 M16) (fun r19 M18 => (k208 x1 (1 : Int32) x3 M18))))))))) else (g_b (f_X1_fail (1 : Int32) M) (fun r21 M20 => (some (r21, M20)))))
set_option maxRecDepth 100000 in
set_option maxHeartbeats 4000000 in
theorem o_X1_expression_107 {X : gX} {k208 : Int32 → Int32 → Int32 → gM → Option (Bool × gM)} (hk208 : ∀ (x1 : Int32) (x2 : Int32) (x3 : Int32) (M : gM), G Y1 jX1_expression X (g_fin g_eb) 208 [(0, .ref (ad X 21)), (1, .int x1), (2, .int x2), (3, .int x3)] [] M (k208 x1 x2 x3 M)) (x1 : Int32) (x2 : Int32) (x3 : Int32) (x4 : Int32) (M : gM) : G Y1 jX1_expression X (g_fin g_eb) 107 [(0, .ref (ad X 21)), (1, .int x1), (2, .int x2), (3, .int x3), (4, .int x4)] [] M (f_X1_expression_107 k208 x1 x2 x3 x4 M) := by
  rw [f_X1_expression_107]
  refine G_iload_n 2 dX1_expression_107 rfl rfl ?_
  refine G_if_eq (tgt := 117) dX1_expression_108 (by decide) ?_ ?_
  · refine G_iload 4 dX1_expression_117 rfl ?_
    refine G_bipush (v := 20) dX1_expression_119 (by decide) ?_
    refine G_icmp_lt (tgt := 157) dX1_expression_121 (by decide) ?_ ?_
    · exact G_sub [0, 1, 2, 3, 4] rfl (o_X1_expression_157 hk208 x1 x2 x3 x4 M)
    · refine G_iload 4 dX1_expression_124 rfl ?_
      refine G_bipush (v := 23) dX1_expression_126 (by decide) ?_
      refine G_icmp_gt (tgt := 157) dX1_expression_128 (by decide) ?_ ?_
      · exact G_sub [0, 1, 2, 3, 4] rfl (o_X1_expression_157 hk208 x1 x2 x3 x4 M)
      · refine G_iload 4 dX1_expression_131 rfl ?_
        refine G_bipush (v := 20) dX1_expression_133 (by decide) ?_
        refine G_isub dX1_expression_135 ?_
        refine G_iconst (v := 3) dX1_expression_136 (by decide) ?_
        refine G_iadd dX1_expression_137 ?_
        refine G_vi (fun y15 => ?_)
        refine G_istore (lv' := [(5, .int y15), (0, .ref (ad X 21)), (1, .int x1), (2, .int x2), (3, .int x3), (4, .int x4)]) dX1_expression_138 (by decide) rfl ?_
        refine G_aload_n 1 dX1_expression_140 rfl rfl ?_
        refine G_iload 0 dX1_expression_141 rfl ?_
        refine G_cVv (As := [.int y15]) (rest := []) (ok_X1_unwind y15 M) rfl (y1_21) rfl mv_X1_178 dX1_expression_143 rfl rfl (Nat.le_of_ble_eq_true rfl) (g_fitN (by decide) (by decide)) (fun r17 M16 => ?_)
        refine G_aload_n 1 dX1_expression_146 rfl rfl ?_
        refine G_iload 0 dX1_expression_147 rfl ?_
        refine G_cVv (As := [.int y15]) (rest := []) (ok_X1_defer y15 M16) rfl (y1_21) rfl mv_X1_175 dX1_expression_149 rfl rfl (Nat.le_of_ble_eq_true rfl) (g_fitN (by decide) (by decide)) (fun r19 M18 => ?_)
        refine G_iconst (v := 1) dX1_expression_152 (by decide) ?_
        refine G_istore_n (lv' := [(2, .int 1), (5, .int y15), (0, .ref (ad X 21)), (1, .int x1), (3, .int x3), (4, .int x4)]) dX1_expression_153 rfl (by decide) rfl ?_
        refine G_goto (tgt := 208) dX1_expression_154 (by decide) ?_
        exact G_sub [2, 3, 0, 4] rfl (hk208 x1 (1 : Int32) x3 M18)
  · refine G_aload_n 0 dX1_expression_111 rfl rfl ?_
    refine G_iconst (v := 1) dX1_expression_112 (by decide) ?_
    refine G_cVb (As := [.int 1]) (rest := []) (ok_X1_fail (1 : Int32) M) rfl (y1_21) rfl mv_X1_72 dX1_expression_113 rfl rfl (Nat.le_of_ble_eq_true rfl) (g_fitN (by decide) (by decide)) (fun r21 M20 => ?_)
    exact G_zret rfl dX1_expression_116
def f_X1_expression_72 (k208 : Int32 → Int32 → Int32 → gM → Option (Bool × gM)) (x1 : Int32) (x2 : Int32) (x3 : Int32) (x4 : Int32) (M : gM) : Option (Bool × gM) := (if x2 = 0 then (f_X1_expression_107 k208 x1 x2 x3 x4 M) else (if x4 = (28 : Int32) then (if x1 < (6 : Int32) then (g_b (f_X1_defer (10 : Int32) M) (fun r23 M22 => (k208 (x1 + 1) x2 x3 M22))) else (g_b (f_X1_fail (2 : Int32) M) (fun r25 M24 => (some (r25, M24))))) else (f_X1_expression_107 k208 x1 x2 x3 x4 M)))
set_option maxRecDepth 100000 in
set_option maxHeartbeats 4000000 in
theorem o_X1_expression_72 {X : gX} {k208 : Int32 → Int32 → Int32 → gM → Option (Bool × gM)} (hk208 : ∀ (x1 : Int32) (x2 : Int32) (x3 : Int32) (M : gM), G Y1 jX1_expression X (g_fin g_eb) 208 [(0, .ref (ad X 21)), (1, .int x1), (2, .int x2), (3, .int x3)] [] M (k208 x1 x2 x3 M)) (x1 : Int32) (x2 : Int32) (x3 : Int32) (x4 : Int32) (M : gM) : G Y1 jX1_expression X (g_fin g_eb) 72 [(0, .ref (ad X 21)), (1, .int x1), (2, .int x2), (3, .int x3), (4, .int x4)] [] M (f_X1_expression_72 k208 x1 x2 x3 x4 M) := by
  rw [f_X1_expression_72]
  refine G_iload_n 2 dX1_expression_72 rfl rfl ?_
  refine G_if_eq (tgt := 107) dX1_expression_73 (by decide) ?_ ?_
  · exact G_sub [0, 1, 2, 3, 4] rfl (o_X1_expression_107 hk208 x1 x2 x3 x4 M)
  · refine G_iload 4 dX1_expression_76 rfl ?_
    refine G_bipush (v := 28) dX1_expression_78 (by decide) ?_
    refine G_icmp_ne (tgt := 107) dX1_expression_80 (by decide) ?_ ?_
    · exact G_sub [0, 1, 2, 3, 4] rfl (o_X1_expression_107 hk208 x1 x2 x3 x4 M)
    · refine G_iload_n 1 dX1_expression_83 rfl rfl ?_
      refine G_bipush (v := 6) dX1_expression_84 (by decide) ?_
      refine G_icmp_lt (tgt := 95) dX1_expression_86 (by decide) ?_ ?_
      · refine G_iinc (v := x1 + 1) (lv' := [(1, .int (x1 + 1)), (0, .ref (ad X 21)), (2, .int x2), (3, .int x3), (4, .int x4)]) 1 dX1_expression_95 rfl rfl (by decide) rfl ?_
        refine G_aload_n 1 dX1_expression_98 rfl rfl ?_
        refine G_bipush (v := 10) dX1_expression_99 (by decide) ?_
        refine G_cVv (As := [.int 10]) (rest := []) (ok_X1_defer (10 : Int32) M) rfl (y1_21) rfl mv_X1_175 dX1_expression_101 rfl rfl (Nat.le_of_ble_eq_true rfl) (g_fitN (by decide) (by decide)) (fun r23 M22 => ?_)
        refine G_goto (tgt := 208) dX1_expression_104 (by decide) ?_
        exact G_sub [1, 0, 2, 3] rfl (hk208 (x1 + 1) x2 x3 M22)
      · refine G_aload_n 0 dX1_expression_89 rfl rfl ?_
        refine G_iconst (v := 2) dX1_expression_90 (by decide) ?_
        refine G_cVb (As := [.int 2]) (rest := []) (ok_X1_fail (2 : Int32) M) rfl (y1_21) rfl mv_X1_72 dX1_expression_91 rfl rfl (Nat.le_of_ble_eq_true rfl) (g_fitN (by decide) (by decide)) (fun r25 M24 => ?_)
        exact G_zret rfl dX1_expression_94
def f_X1_expression_53 (k208 : Int32 → Int32 → Int32 → gM → Option (Bool × gM)) (x1 : Int32) (x2 : Int32) (x3 : Int32) (x4 : Int32) (M : gM) : Option (Bool × gM) := (if x2 = 0 then (f_X1_expression_72 k208 x1 x2 x3 x4 M) else (if x4 = (21 : Int32) then (g_b (f_X1_defer (2 : Int32) M) (fun r27 M26 => (k208 x1 x2 x3 M26))) else (f_X1_expression_72 k208 x1 x2 x3 x4 M)))
set_option maxRecDepth 100000 in
set_option maxHeartbeats 4000000 in
theorem o_X1_expression_53 {X : gX} {k208 : Int32 → Int32 → Int32 → gM → Option (Bool × gM)} (hk208 : ∀ (x1 : Int32) (x2 : Int32) (x3 : Int32) (M : gM), G Y1 jX1_expression X (g_fin g_eb) 208 [(0, .ref (ad X 21)), (1, .int x1), (2, .int x2), (3, .int x3)] [] M (k208 x1 x2 x3 M)) (x1 : Int32) (x2 : Int32) (x3 : Int32) (x4 : Int32) (M : gM) : G Y1 jX1_expression X (g_fin g_eb) 53 [(0, .ref (ad X 21)), (1, .int x1), (2, .int x2), (3, .int x3), (4, .int x4)] [] M (f_X1_expression_53 k208 x1 x2 x3 x4 M) := by
  rw [f_X1_expression_53]
  refine G_iload_n 2 dX1_expression_53 rfl rfl ?_
  refine G_if_eq (tgt := 72) dX1_expression_54 (by decide) ?_ ?_
  · exact G_sub [0, 1, 2, 3, 4] rfl (o_X1_expression_72 hk208 x1 x2 x3 x4 M)
  · refine G_iload 4 dX1_expression_57 rfl ?_
    refine G_bipush (v := 21) dX1_expression_59 (by decide) ?_
    refine G_icmp_ne (tgt := 72) dX1_expression_61 (by decide) ?_ ?_
    · exact G_sub [0, 1, 2, 3, 4] rfl (o_X1_expression_72 hk208 x1 x2 x3 x4 M)
    · refine G_aload_n 0 dX1_expression_64 rfl rfl ?_
      refine G_iconst (v := 2) dX1_expression_65 (by decide) ?_
      refine G_cVv (As := [.int 2]) (rest := []) (ok_X1_defer (2 : Int32) M) rfl (y1_21) rfl mv_X1_175 dX1_expression_66 rfl rfl (Nat.le_of_ble_eq_true rfl) (g_fitN (by decide) (by decide)) (fun r27 M26 => ?_)
      refine G_goto (tgt := 208) dX1_expression_69 (by decide) ?_
      exact G_sub [0, 1, 2, 3] rfl (hk208 x1 x2 x3 M26)
def f_X1_expression_42 (k208 : Int32 → Int32 → Int32 → gM → Option (Bool × gM)) (x1 : Int32) (x3 : Int32) (x4 : Int32) (M : gM) : Option (Bool × gM) := (g_b (f_X1_emitUnit x4 M) (fun r29 M28 => (k208 x1 (0 : Int32) x3 M28)))
set_option maxRecDepth 100000 in
set_option maxHeartbeats 4000000 in
theorem o_X1_expression_42 {X : gX} {k208 : Int32 → Int32 → Int32 → gM → Option (Bool × gM)} (hk208 : ∀ (x1 : Int32) (x2 : Int32) (x3 : Int32) (M : gM), G Y1 jX1_expression X (g_fin g_eb) 208 [(0, .ref (ad X 21)), (1, .int x1), (2, .int x2), (3, .int x3)] [] M (k208 x1 x2 x3 M)) (x1 : Int32) (x3 : Int32) (x4 : Int32) (M : gM) : G Y1 jX1_expression X (g_fin g_eb) 42 [(0, .ref (ad X 21)), (1, .int x1), (3, .int x3), (4, .int x4)] [] M (f_X1_expression_42 k208 x1 x3 x4 M) := by
  rw [f_X1_expression_42]
  refine G_aload_n 0 dX1_expression_42 rfl rfl ?_
  refine G_iload 3 dX1_expression_43 rfl ?_
  refine G_cVv (As := [.int x4]) (rest := []) (ok_X1_emitUnit x4 M) rfl (y1_21) rfl mv_X1_172 dX1_expression_45 rfl rfl (Nat.le_of_ble_eq_true rfl) (g_fitN (by decide) (by decide)) (fun r29 M28 => ?_)
  refine G_iconst (v := 0) dX1_expression_48 (by decide) ?_
  refine G_istore_n (lv' := [(2, .int 0), (0, .ref (ad X 21)), (1, .int x1), (3, .int x3), (4, .int x4)]) dX1_expression_49 rfl (by decide) rfl ?_
  refine G_goto (tgt := 208) dX1_expression_50 (by decide) ?_
  exact G_sub [1, 2, 0, 3] rfl (hk208 x1 (0 : Int32) x3 M28)
def f_X1_expression_11 : Nat → Int32 → Int32 → Int32 → gM → Option (Bool × gM)
  | 0, _, _, _, _ => none
  | n + 1, x1, x2, x3, M => (if (400 : Int32) < x3 then (g_b (f_X1_fail (2 : Int32) M) (fun r3 M2 => (some (r3, M2)))) else (g_b (f_X1_kind M) (fun r5 M4 => (if x2 = 0 then (f_X1_expression_53 (f_X1_expression_208 (f_X1_expression_11 n)) x1 x2 x3 r5 M4) else (if r5 = (18 : Int32) then (f_X1_expression_42 (f_X1_expression_208 (f_X1_expression_11 n)) x1 x3 r5 M4) else (if (6 : Int32) ≤ r5 then (f_X1_expression_53 (f_X1_expression_208 (f_X1_expression_11 n)) x1 x2 x3 r5 M4) else (f_X1_expression_42 (f_X1_expression_208 (f_X1_expression_11 n)) x1 x3 r5 M4)))))))
set_option maxRecDepth 100000 in
set_option maxHeartbeats 4000000 in
theorem o_X1_expression_11 {X : gX} : ∀ (n : Nat) (x1 : Int32) (x2 : Int32) (x3 : Int32) (M : gM), G Y1 jX1_expression X (g_fin g_eb) 11 [(0, .ref (ad X 21)), (1, .int x1), (2, .int x2), (3, .int x3)] [] M (f_X1_expression_11 n x1 x2 x3 M) := by
  intro n
  induction n with
  | zero => intro x1 x2 x3 M; exact G_none
  | succ n ih =>
    intro x1 x2 x3 M
    rw [f_X1_expression_11]
    refine G_iload_n 3 dX1_expression_11 rfl rfl ?_
    refine G_sipush (v := 400) dX1_expression_12 (by decide) ?_
    refine G_icmp_gt (tgt := 223) dX1_expression_15 (by decide) ?_ ?_
    · refine G_aload_n 0 dX1_expression_223 rfl rfl ?_
      refine G_iconst (v := 2) dX1_expression_224 (by decide) ?_
      refine G_cVb (As := [.int 2]) (rest := []) (ok_X1_fail (2 : Int32) M) rfl (y1_21) rfl mv_X1_72 dX1_expression_225 rfl rfl (Nat.le_of_ble_eq_true rfl) (g_fitN (by decide) (by decide)) (fun r3 M2 => ?_)
      exact G_zret rfl dX1_expression_228
    · refine G_aload_n 0 dX1_expression_18 rfl rfl ?_
      refine G_cVi (As := []) (rest := []) (ok_X1_kind M) rfl (y1_21) rfl mv_X1_51 dX1_expression_19 rfl rfl (Nat.le_of_ble_eq_true rfl) (g_fitN (by decide) (by decide)) (fun r5 M4 => ?_)
      refine G_istore (lv' := [(4, .int r5), (0, .ref (ad X 21)), (1, .int x1), (2, .int x2), (3, .int x3)]) dX1_expression_22 (by decide) rfl ?_
      refine G_iload_n 3 dX1_expression_24 rfl rfl ?_
      refine G_if_eq (tgt := 53) dX1_expression_25 (by decide) ?_ ?_
      · exact G_sub [1, 2, 3, 4, 0] rfl (o_X1_expression_53 (o_X1_expression_208 ih) x1 x2 x3 r5 M4)
      · refine G_iload 0 dX1_expression_28 rfl ?_
        refine G_bipush (v := 18) dX1_expression_30 (by decide) ?_
        refine G_icmp_eq (tgt := 42) dX1_expression_32 (by decide) ?_ ?_
        · exact G_sub [1, 2, 4, 0] rfl (o_X1_expression_42 (o_X1_expression_208 ih) x1 x3 r5 M4)
        · refine G_iload 0 dX1_expression_35 rfl ?_
          refine G_bipush (v := 6) dX1_expression_37 (by decide) ?_
          refine G_icmp_ge (tgt := 53) dX1_expression_39 (by decide) ?_ ?_
          · exact G_sub [1, 2, 3, 4, 0] rfl (o_X1_expression_53 (o_X1_expression_208 ih) x1 x2 x3 r5 M4)
          · exact G_sub [1, 2, 4, 0] rfl (o_X1_expression_42 (o_X1_expression_208 ih) x1 x3 r5 M4)
def f_X1_expression (M : gM) : Option (Bool × gM) := (g_m (sI M 21 7 (0 : Int32)) (fun M1 => (f_X1_expression_11 FU (0 : Int32) (1 : Int32) (0 : Int32) M1)))
set_option maxRecDepth 100000 in
set_option maxHeartbeats 4000000 in
theorem ok_X1_expression (M : gM) : g_met Y1 yX1_expression jX1_expression g_eb (fun Z => [.ref (Z.2.1 21)]) M (f_X1_expression M) := by
  refine g_enter (fun Z => [(0, .ref (Z.2.1 21))]) (by decide) rfl (fun Z => Nat.le_of_ble_eq_true rfl) (fun Z => rfl) (fun X => ?_)
  rw [f_X1_expression]
  refine G_aload_n 0 dX1_expression_0 rfl rfl ?_
  refine G_iconst (v := 0) dX1_expression_1 (by decide) ?_
  refine G_putI 7 clX1 (y1_21) fl_X1_169 dX1_expression_2 (by decide) rfl rfl rfl ?_
  refine G_m (fun M1 => ?_)
  refine G_iconst (v := 0) dX1_expression_5 (by decide) ?_
  refine G_istore_n (lv' := [(1, .int 0), (0, .ref (ad X 21))]) dX1_expression_6 rfl (by decide) rfl ?_
  refine G_iconst (v := 1) dX1_expression_7 (by decide) ?_
  refine G_istore_n (lv' := [(2, .int 1), (1, .int 0), (0, .ref (ad X 21))]) dX1_expression_8 rfl (by decide) rfl ?_
  refine G_iconst (v := 0) dX1_expression_9 (by decide) ?_
  refine G_istore_n (lv' := [(3, .int 0), (2, .int 1), (1, .int 0), (0, .ref (ad X 21))]) dX1_expression_10 rfl (by decide) rfl ?_
  exact G_sub [3, 2, 1, 0] rfl (o_X1_expression_11 FU (0 : Int32) (1 : Int32) (0 : Int32) M1)
-- X1_literal
def f_X1_literal_39 (x1 : Int32) (M : gM) : Option (Bool × gM) := (g_b (f_X1_expression M) (fun r2 M1 => (if r2 then (g_b (f_X1_kind M1) (fun r4 M3 => (g_v (r4 - (24 : Int32)) (fun y5 => (if y5 < 0 then (g_b (f_X1_fail (1 : Int32) M3) (fun r7 M6 => (some (r7, M6)))) else (if y5 ≤ (3 : Int32) then (g_b (f_X1_step M3) (fun r9 M8 => (if r9 then (g_b (f_X1_expression M8) (fun r11 M10 => (if r11 then (g_or 3 12 (M10.2.2 21 6) (fun t12 => (g_b (f_X4_emit t12 ((((y5 * (2 : Int32)) + x1) * (16 : Int32)) + (7 : Int32)) M10) (fun r14 M13 => (some (true, M13)))))) else (some (false, M10))))) else (some (false, M8))))) else (g_b (f_X1_fail (1 : Int32) M3) (fun r16 M15 => (some (r16, M15)))))))))) else (some (false, M1)))))
set_option maxRecDepth 100000 in
set_option maxHeartbeats 4000000 in
theorem o_X1_literal_39 {X : gX} (x1 : Int32) (M : gM) : G Y1 jX1_literal X (g_fin g_eb) 39 [(0, .ref (ad X 21)), (1, .int x1)] [] M (f_X1_literal_39 x1 M) := by
  rw [f_X1_literal_39]
  refine G_aload_n 0 dX1_literal_39 rfl rfl ?_
  refine G_cVb (As := []) (rest := []) (ok_X1_expression M) rfl (y1_21) rfl mv_X1_121 dX1_literal_40 rfl rfl (Nat.le_of_ble_eq_true rfl) (g_fitN (by decide) (by decide)) (fun r2 M1 => ?_)
  refine G_ifB_ne (tgt := 48) dX1_literal_43 (by decide) ?_ ?_
  · refine G_aload_n 0 dX1_literal_48 rfl rfl ?_
    refine G_cVi (As := []) (rest := []) (ok_X1_kind M1) rfl (y1_21) rfl mv_X1_51 dX1_literal_49 rfl rfl (Nat.le_of_ble_eq_true rfl) (g_fitN (by decide) (by decide)) (fun r4 M3 => ?_)
    refine G_bipush (v := 24) dX1_literal_52 (by decide) ?_
    refine G_isub dX1_literal_54 ?_
    refine G_vi (fun y5 => ?_)
    refine G_istore_n (lv' := [(2, .int y5), (0, .ref (ad X 21)), (1, .int x1)]) dX1_literal_55 rfl (by decide) rfl ?_
    refine G_iload_n 0 dX1_literal_56 rfl rfl ?_
    refine G_if_lt (tgt := 65) dX1_literal_57 (by decide) ?_ ?_
    · refine G_aload_n 1 dX1_literal_65 rfl rfl ?_
      refine G_iconst (v := 1) dX1_literal_66 (by decide) ?_
      refine G_cVb (As := [.int 1]) (rest := []) (ok_X1_fail (1 : Int32) M3) rfl (y1_21) rfl mv_X1_72 dX1_literal_67 rfl rfl (Nat.le_of_ble_eq_true rfl) (g_fitN (by decide) (by decide)) (fun r7 M6 => ?_)
      exact G_zret rfl dX1_literal_70
    · refine G_iload_n 0 dX1_literal_60 rfl rfl ?_
      refine G_iconst (v := 3) dX1_literal_61 (by decide) ?_
      refine G_icmp_le (tgt := 71) dX1_literal_62 (by decide) ?_ ?_
      · refine G_aload_n 1 dX1_literal_71 rfl rfl ?_
        refine G_cVb (As := []) (rest := []) (ok_X1_step M3) rfl (y1_21) rfl mv_X1_88 dX1_literal_72 rfl rfl (Nat.le_of_ble_eq_true rfl) (g_fitN (by decide) (by decide)) (fun r9 M8 => ?_)
        refine G_ifB_eq (tgt := 85) dX1_literal_75 (by decide) ?_ ?_
        · refine G_iconst (v := 0) dX1_literal_85 (by decide) ?_
          exact G_zret (b := false) rfl dX1_literal_86
        · refine G_aload_n 1 dX1_literal_78 rfl rfl ?_
          refine G_cVb (As := []) (rest := []) (ok_X1_expression M8) rfl (y1_21) rfl mv_X1_121 dX1_literal_79 rfl rfl (Nat.le_of_ble_eq_true rfl) (g_fitN (by decide) (by decide)) (fun r11 M10 => ?_)
          refine G_ifB_ne (tgt := 87) dX1_literal_82 (by decide) ?_ ?_
          · refine G_aload_n 1 dX1_literal_87 rfl rfl ?_
            refine G_getO 6 clX1 (y1_21) fl_X1_22 dX1_literal_88 (by decide) rfl (by decide) (fun t12 ht12 => ?_)
            refine G_iload_n 0 dX1_literal_91 rfl rfl ?_
            refine G_iconst (v := 2) dX1_literal_92 (by decide) ?_
            refine G_imul dX1_literal_93 ?_
            refine G_iload_n 2 dX1_literal_94 rfl rfl ?_
            refine G_iadd dX1_literal_95 ?_
            refine G_bipush (v := 16) dX1_literal_96 (by decide) ?_
            refine G_imul dX1_literal_98 ?_
            refine G_bipush (v := 7) dX1_literal_99 (by decide) ?_
            refine G_iadd dX1_literal_101 ?_
            refine G_cVv (As := [.int ((((y5 * (2 : Int32)) + x1) * (16 : Int32)) + (7 : Int32))]) (rest := []) (ok_X4_emit ht12 ((((y5 * (2 : Int32)) + x1) * (16 : Int32)) + (7 : Int32)) M10) rfl (ro_0 ht12) rfl mv_X1_126 dX1_literal_102 rfl rfl (Nat.le_of_ble_eq_true rfl) (g_fitN (by decide) (by decide)) (fun r14 M13 => ?_)
            refine G_iconst (v := 1) dX1_literal_105 (by decide) ?_
            exact G_zret (b := true) rfl dX1_literal_106
          · refine G_iconst (v := 0) dX1_literal_85 (by decide) ?_
            exact G_zret (b := false) rfl dX1_literal_86
      · refine G_aload_n 1 dX1_literal_65 rfl rfl ?_
        refine G_iconst (v := 1) dX1_literal_66 (by decide) ?_
        refine G_cVb (As := [.int 1]) (rest := []) (ok_X1_fail (1 : Int32) M3) rfl (y1_21) rfl mv_X1_72 dX1_literal_67 rfl rfl (Nat.le_of_ble_eq_true rfl) (g_fitN (by decide) (by decide)) (fun r16 M15 => ?_)
        exact G_zret rfl dX1_literal_70
  · refine G_iconst (v := 0) dX1_literal_46 (by decide) ?_
    exact G_zret (b := false) rfl dX1_literal_47
def f_X1_literal_4 : Nat → Int32 → Int32 → gM → Option (Bool × gM)
  | 0, _, _, _ => none
  | n + 1, x1, x2, M => (if (400 : Int32) < x2 then (f_X1_literal_39 x1 M) else (g_b (f_X1_kind M) (fun r18 M17 => (if r18 = (16 : Int32) then (g_v ((1 : Int32) - x1) (fun y19 => (g_b (f_X1_step M17) (fun r21 M20 => (if r21 then (f_X1_literal_4 n y19 (x2 + 1) M20) else (some (false, M20))))))) else (f_X1_literal_39 x1 M17)))))
set_option maxRecDepth 100000 in
set_option maxHeartbeats 4000000 in
theorem o_X1_literal_4 {X : gX} : ∀ (n : Nat) (x1 : Int32) (x2 : Int32) (M : gM), G Y1 jX1_literal X (g_fin g_eb) 4 [(0, .ref (ad X 21)), (1, .int x1), (2, .int x2)] [] M (f_X1_literal_4 n x1 x2 M) := by
  intro n
  induction n with
  | zero => intro x1 x2 M; exact G_none
  | succ n ih =>
    intro x1 x2 M
    rw [f_X1_literal_4]
    refine G_iload_n 2 dX1_literal_4 rfl rfl ?_
    refine G_sipush (v := 400) dX1_literal_5 (by decide) ?_
    refine G_icmp_gt (tgt := 39) dX1_literal_8 (by decide) ?_ ?_
    · exact G_sub [0, 1] rfl (o_X1_literal_39 x1 M)
    · refine G_aload_n 0 dX1_literal_11 rfl rfl ?_
      refine G_cVi (As := []) (rest := []) (ok_X1_kind M) rfl (y1_21) rfl mv_X1_51 dX1_literal_12 rfl rfl (Nat.le_of_ble_eq_true rfl) (g_fitN (by decide) (by decide)) (fun r18 M17 => ?_)
      refine G_bipush (v := 16) dX1_literal_15 (by decide) ?_
      refine G_icmp_ne (tgt := 39) dX1_literal_17 (by decide) ?_ ?_
      · exact G_sub [0, 1] rfl (o_X1_literal_39 x1 M17)
      · refine G_iconst (v := 1) dX1_literal_20 (by decide) ?_
        refine G_iload_n 1 dX1_literal_21 rfl rfl ?_
        refine G_isub dX1_literal_22 ?_
        refine G_vi (fun y19 => ?_)
        refine G_istore_n (lv' := [(1, .int y19), (0, .ref (ad X 21)), (2, .int x2)]) dX1_literal_23 rfl (by decide) rfl ?_
        refine G_aload_n 1 dX1_literal_24 rfl rfl ?_
        refine G_cVb (As := []) (rest := []) (ok_X1_step M17) rfl (y1_21) rfl mv_X1_88 dX1_literal_25 rfl rfl (Nat.le_of_ble_eq_true rfl) (g_fitN (by decide) (by decide)) (fun r21 M20 => ?_)
        refine G_ifB_ne (tgt := 33) dX1_literal_28 (by decide) ?_ ?_
        · refine G_iinc (v := x2 + 1) (lv' := [(2, .int (x2 + 1)), (1, .int y19), (0, .ref (ad X 21))]) 2 dX1_literal_33 rfl rfl (by decide) rfl ?_
          refine G_goto (tgt := 4) dX1_literal_36 (by decide) ?_
          exact G_sub [2, 1, 0] rfl (ih y19 (x2 + 1) M20)
        · refine G_iconst (v := 0) dX1_literal_31 (by decide) ?_
          exact G_zret (b := false) rfl dX1_literal_32
def f_X1_literal (M : gM) : Option (Bool × gM) := (f_X1_literal_4 FU (0 : Int32) (0 : Int32) M)
set_option maxRecDepth 100000 in
set_option maxHeartbeats 4000000 in
theorem ok_X1_literal (M : gM) : g_met Y1 yX1_literal jX1_literal g_eb (fun Z => [.ref (Z.2.1 21)]) M (f_X1_literal M) := by
  refine g_enter (fun Z => [(0, .ref (Z.2.1 21))]) (by decide) rfl (fun Z => Nat.le_of_ble_eq_true rfl) (fun Z => rfl) (fun X => ?_)
  rw [f_X1_literal]
  refine G_iconst (v := 0) dX1_literal_0 (by decide) ?_
  refine G_istore_n (lv' := [(1, .int 0), (0, .ref (ad X 21))]) dX1_literal_1 rfl (by decide) rfl ?_
  refine G_iconst (v := 0) dX1_literal_2 (by decide) ?_
  refine G_istore_n (lv' := [(2, .int 0), (1, .int 0), (0, .ref (ad X 21))]) dX1_literal_3 rfl (by decide) rfl ?_
  exact G_sub [2, 1, 0] rfl (o_X1_literal_4 FU (0 : Int32) (0 : Int32) M)
-- X1_condition
def f_X1_condition_85 (M : gM) : Option (Bool × gM) := (g_or 3 12 (M.2.2 21 6) (fun t1 => (g_b (f_X4_emit t1 (9 : Int32) M) (fun r3 M2 => (some (true, M2))))))
set_option maxRecDepth 100000 in
set_option maxHeartbeats 4000000 in
theorem o_X1_condition_85 {X : gX} (M : gM) : G Y1 jX1_condition X (g_fin g_eb) 85 [(0, .ref (ad X 21))] [] M (f_X1_condition_85 M) := by
  rw [f_X1_condition_85]
  refine G_aload_n 0 dX1_condition_85 rfl rfl ?_
  refine G_getO 6 clX1 (y1_21) fl_X1_22 dX1_condition_86 (by decide) rfl (by decide) (fun t1 ht1 => ?_)
  refine G_bipush (v := 9) dX1_condition_89 (by decide) ?_
  refine G_cVv (As := [.int 9]) (rest := []) (ok_X4_emit ht1 (9 : Int32) M) rfl (ro_0 ht1) rfl mv_X1_126 dX1_condition_91 rfl rfl (Nat.le_of_ble_eq_true rfl) (g_fitN (by decide) (by decide)) (fun r3 M2 => ?_)
  refine G_iconst (v := 1) dX1_condition_94 (by decide) ?_
  exact G_zret (b := true) rfl dX1_condition_95
def f_X1_condition_66 (k4 : Int32 → Int32 → gM → Option (Bool × gM)) (x1 : Int32) (x2 : Int32) (M : gM) : Option (Bool × gM) := (if x1 = 0 then (k4 x1 (x2 + 1) M) else (g_b (f_X1_step M) (fun r11 M10 => (if r11 then (k4 x1 (x2 + 1) M10) else (some (false, M10))))))
set_option maxRecDepth 100000 in
set_option maxHeartbeats 4000000 in
theorem o_X1_condition_66 {X : gX} {k4 : Int32 → Int32 → gM → Option (Bool × gM)} (hk4 : ∀ (x1 : Int32) (x2 : Int32) (M : gM), G Y1 jX1_condition X (g_fin g_eb) 4 [(0, .ref (ad X 21)), (1, .int x1), (2, .int x2)] [] M (k4 x1 x2 M)) (x1 : Int32) (x2 : Int32) (M : gM) : G Y1 jX1_condition X (g_fin g_eb) 66 [(0, .ref (ad X 21)), (1, .int x1), (2, .int x2)] [] M (f_X1_condition_66 k4 x1 x2 M) := by
  rw [f_X1_condition_66]
  refine G_iload_n 1 dX1_condition_66 rfl rfl ?_
  refine G_if_eq (tgt := 79) dX1_condition_67 (by decide) ?_ ?_
  · refine G_iinc (v := x2 + 1) (lv' := [(2, .int (x2 + 1)), (0, .ref (ad X 21)), (1, .int x1)]) 2 dX1_condition_79 rfl rfl (by decide) rfl ?_
    refine G_goto (tgt := 4) dX1_condition_82 (by decide) ?_
    exact G_sub [1, 2, 0] rfl (hk4 x1 (x2 + 1) M)
  · refine G_aload_n 0 dX1_condition_70 rfl rfl ?_
    refine G_cVb (As := []) (rest := []) (ok_X1_step M) rfl (y1_21) rfl mv_X1_88 dX1_condition_71 rfl rfl (Nat.le_of_ble_eq_true rfl) (g_fitN (by decide) (by decide)) (fun r11 M10 => ?_)
    refine G_ifB_ne (tgt := 79) dX1_condition_74 (by decide) ?_ ?_
    · refine G_iinc (v := x2 + 1) (lv' := [(2, .int (x2 + 1)), (0, .ref (ad X 21)), (1, .int x1)]) 2 dX1_condition_79 rfl rfl (by decide) rfl ?_
      refine G_goto (tgt := 4) dX1_condition_82 (by decide) ?_
      exact G_sub [1, 2, 0] rfl (hk4 x1 (x2 + 1) M10)
    · refine G_iconst (v := 0) dX1_condition_77 (by decide) ?_
      exact G_zret (b := false) rfl dX1_condition_78
def f_X1_condition_47 (k4 : Int32 → Int32 → gM → Option (Bool × gM)) (x2 : Int32) (s0 : Int32) (M : gM) : Option (Bool × gM) := (g_b (f_X1_kind M) (fun r9 M8 => (if r9 = (14 : Int32) then (g_or 3 12 (M8.2.2 21 6) (fun t12 => (g_b (f_X4_emit t12 (8 : Int32) M8) (fun r14 M13 => (f_X1_condition_66 k4 s0 x2 M13))))) else (f_X1_condition_66 k4 s0 x2 M8))))
set_option maxRecDepth 100000 in
set_option maxHeartbeats 4000000 in
theorem o_X1_condition_47 {X : gX} {k4 : Int32 → Int32 → gM → Option (Bool × gM)} (hk4 : ∀ (x1 : Int32) (x2 : Int32) (M : gM), G Y1 jX1_condition X (g_fin g_eb) 4 [(0, .ref (ad X 21)), (1, .int x1), (2, .int x2)] [] M (k4 x1 x2 M)) (x2 : Int32) (s0 : Int32) (M : gM) : G Y1 jX1_condition X (g_fin g_eb) 47 [(0, .ref (ad X 21)), (2, .int x2)] [.int s0] M (f_X1_condition_47 k4 x2 s0 M) := by
  rw [f_X1_condition_47]
  refine G_istore_n (lv' := [(1, .int s0), (0, .ref (ad X 21)), (2, .int x2)]) dX1_condition_47 rfl (by decide) rfl ?_
  refine G_aload_n 1 dX1_condition_48 rfl rfl ?_
  refine G_cVi (As := []) (rest := []) (ok_X1_kind M) rfl (y1_21) rfl mv_X1_51 dX1_condition_49 rfl rfl (Nat.le_of_ble_eq_true rfl) (g_fitN (by decide) (by decide)) (fun r9 M8 => ?_)
  refine G_bipush (v := 14) dX1_condition_52 (by decide) ?_
  refine G_icmp_ne (tgt := 66) dX1_condition_54 (by decide) ?_ ?_
  · exact G_sub [1, 0, 2] rfl (o_X1_condition_66 hk4 s0 x2 M8)
  · refine G_aload_n 1 dX1_condition_57 rfl rfl ?_
    refine G_getO 6 clX1 (y1_21) fl_X1_22 dX1_condition_58 (by decide) rfl (by decide) (fun t12 ht12 => ?_)
    refine G_bipush (v := 8) dX1_condition_61 (by decide) ?_
    refine G_cVv (As := [.int 8]) (rest := []) (ok_X4_emit ht12 (8 : Int32) M8) rfl (ro_0 ht12) rfl mv_X1_126 dX1_condition_63 rfl rfl (Nat.le_of_ble_eq_true rfl) (g_fitN (by decide) (by decide)) (fun r14 M13 => ?_)
    exact G_sub [1, 0, 2] rfl (o_X1_condition_66 hk4 s0 x2 M13)
def f_X1_condition_42 (k47 : Int32 → Int32 → gM → Option (Bool × gM)) (x2 : Int32) (M : gM) : Option (Bool × gM) := (k47 x2 (1 : Int32) M)
set_option maxRecDepth 100000 in
set_option maxHeartbeats 4000000 in
theorem o_X1_condition_42 {X : gX} {k47 : Int32 → Int32 → gM → Option (Bool × gM)} (hk47 : ∀ (x2 : Int32) (s0 : Int32) (M : gM), G Y1 jX1_condition X (g_fin g_eb) 47 [(0, .ref (ad X 21)), (2, .int x2)] [.int s0] M (k47 x2 s0 M)) (x2 : Int32) (M : gM) : G Y1 jX1_condition X (g_fin g_eb) 42 [(0, .ref (ad X 21)), (2, .int x2)] [] M (f_X1_condition_42 k47 x2 M) := by
  rw [f_X1_condition_42]
  refine G_iconst (v := 1) dX1_condition_42 (by decide) ?_
  refine G_goto (tgt := 47) dX1_condition_43 (by decide) ?_
  exact G_sub [0, 1] rfl (hk47 x2 (1 : Int32) M)
def f_X1_condition_4 : Nat → Int32 → Int32 → gM → Option (Bool × gM)
  | 0, _, _, _ => none
  | n + 1, x1, x2, M => (if (400 : Int32) < x2 then (f_X1_condition_85 M) else (if x1 = 0 then (f_X1_condition_85 M) else (g_b (f_X1_literal M) (fun r5 M4 => (if r5 then (g_b (f_X1_kind M4) (fun r7 M6 => (if r7 = (15 : Int32) then (f_X1_condition_42 (f_X1_condition_47 (f_X1_condition_4 n)) x2 M6) else (g_b (f_X1_kind M6) (fun r16 M15 => (if r16 = (14 : Int32) then (f_X1_condition_42 (f_X1_condition_47 (f_X1_condition_4 n)) x2 M15) else (f_X1_condition_47 (f_X1_condition_4 n) x2 (0 : Int32) M15))))))) else (some (false, M4)))))))
set_option maxRecDepth 100000 in
set_option maxHeartbeats 4000000 in
theorem o_X1_condition_4 {X : gX} : ∀ (n : Nat) (x1 : Int32) (x2 : Int32) (M : gM), G Y1 jX1_condition X (g_fin g_eb) 4 [(0, .ref (ad X 21)), (1, .int x1), (2, .int x2)] [] M (f_X1_condition_4 n x1 x2 M) := by
  intro n
  induction n with
  | zero => intro x1 x2 M; exact G_none
  | succ n ih =>
    intro x1 x2 M
    rw [f_X1_condition_4]
    refine G_iload_n 2 dX1_condition_4 rfl rfl ?_
    refine G_sipush (v := 400) dX1_condition_5 (by decide) ?_
    refine G_icmp_gt (tgt := 85) dX1_condition_8 (by decide) ?_ ?_
    · exact G_sub [0] rfl (o_X1_condition_85 M)
    · refine G_iload_n 1 dX1_condition_11 rfl rfl ?_
      refine G_if_eq (tgt := 85) dX1_condition_12 (by decide) ?_ ?_
      · exact G_sub [0] rfl (o_X1_condition_85 M)
      · refine G_aload_n 0 dX1_condition_15 rfl rfl ?_
        refine G_cVb (As := []) (rest := []) (ok_X1_literal M) rfl (y1_21) rfl mv_X1_166 dX1_condition_16 rfl rfl (Nat.le_of_ble_eq_true rfl) (g_fitN (by decide) (by decide)) (fun r5 M4 => ?_)
        refine G_ifB_ne (tgt := 24) dX1_condition_19 (by decide) ?_ ?_
        · refine G_aload_n 0 dX1_condition_24 rfl rfl ?_
          refine G_cVi (As := []) (rest := []) (ok_X1_kind M4) rfl (y1_21) rfl mv_X1_51 dX1_condition_25 rfl rfl (Nat.le_of_ble_eq_true rfl) (g_fitN (by decide) (by decide)) (fun r7 M6 => ?_)
          refine G_bipush (v := 15) dX1_condition_28 (by decide) ?_
          refine G_icmp_eq (tgt := 42) dX1_condition_30 (by decide) ?_ ?_
          · exact G_sub [0, 2] rfl (o_X1_condition_42 (o_X1_condition_47 ih) x2 M6)
          · refine G_aload_n 0 dX1_condition_33 rfl rfl ?_
            refine G_cVi (As := []) (rest := []) (ok_X1_kind M6) rfl (y1_21) rfl mv_X1_51 dX1_condition_34 rfl rfl (Nat.le_of_ble_eq_true rfl) (g_fitN (by decide) (by decide)) (fun r16 M15 => ?_)
            refine G_bipush (v := 14) dX1_condition_37 (by decide) ?_
            refine G_icmp_ne (tgt := 46) dX1_condition_39 (by decide) ?_ ?_
            · refine G_iconst (v := 0) dX1_condition_46 (by decide) ?_
              exact G_sub [0, 2] rfl (o_X1_condition_47 ih x2 (0 : Int32) M15)
            · exact G_sub [0, 2] rfl (o_X1_condition_42 (o_X1_condition_47 ih) x2 M15)
        · refine G_iconst (v := 0) dX1_condition_22 (by decide) ?_
          exact G_zret (b := false) rfl dX1_condition_23
def f_X1_condition (M : gM) : Option (Bool × gM) := (f_X1_condition_4 FU (1 : Int32) (0 : Int32) M)
set_option maxRecDepth 100000 in
set_option maxHeartbeats 4000000 in
theorem ok_X1_condition (M : gM) : g_met Y1 yX1_condition jX1_condition g_eb (fun Z => [.ref (Z.2.1 21)]) M (f_X1_condition M) := by
  refine g_enter (fun Z => [(0, .ref (Z.2.1 21))]) (by decide) rfl (fun Z => Nat.le_of_ble_eq_true rfl) (fun Z => rfl) (fun X => ?_)
  rw [f_X1_condition]
  refine G_iconst (v := 1) dX1_condition_0 (by decide) ?_
  refine G_istore_n (lv' := [(1, .int 1), (0, .ref (ad X 21))]) dX1_condition_1 rfl (by decide) rfl ?_
  refine G_iconst (v := 0) dX1_condition_2 (by decide) ?_
  refine G_istore_n (lv' := [(2, .int 0), (1, .int 1), (0, .ref (ad X 21))]) dX1_condition_3 rfl (by decide) rfl ?_
  exact G_sub [2, 1, 0] rfl (o_X1_condition_4 FU (1 : Int32) (0 : Int32) M)
-- X1_note
def f_X1_note (a1 : Int32) (M : gM) : Option (Unit × gM) := (if (M.1 21 2) = 0 then (g_m (sI M 21 2 a1) (fun M1 => (if (401 : Int32) ≤ (M1.1 21 4) then (g_m (sI M1 21 3 ((-1) : Int32)) (fun M2 => (some ((), M2)))) else (g_ck (M1.1 21 4) 401 (g_m (sI M1 21 3 (M1.1 25 (tn (M1.1 21 4)))) (fun M3 => (some ((), M3)))))))) else (some ((), M)))
set_option maxRecDepth 100000 in
set_option maxHeartbeats 4000000 in
theorem ok_X1_note (a1 : Int32) (M : gM) : g_met Y1 yX1_note jX1_note g_ev (fun Z => [.ref (Z.2.1 21), .int a1]) M (f_X1_note a1 M) := by
  refine g_enter (fun Z => [(0, .ref (Z.2.1 21)), (1, .int a1)]) (by decide) rfl (fun Z => Nat.le_of_ble_eq_true rfl) (fun Z => rfl) (fun X => ?_)
  rw [f_X1_note]
  refine G_aload_n 0 dX1_note_0 rfl rfl ?_
  refine G_get 2 clX1 (y1_21) fl_X1_45 dX1_note_1 (by decide) rfl rfl ?_
  refine G_if_ne (tgt := 47) dX1_note_4 (by decide) ?_ ?_
  · exact G_vret rfl dX1_note_47
  · refine G_aload_n 0 dX1_note_7 rfl rfl ?_
    refine G_iload_n 1 dX1_note_8 rfl rfl ?_
    refine G_putI 2 clX1 (y1_21) fl_X1_45 dX1_note_9 (by decide) rfl rfl rfl ?_
    refine G_m (fun M1 => ?_)
    refine G_aload_n 0 dX1_note_12 rfl rfl ?_
    refine G_aload_n 0 dX1_note_13 rfl rfl ?_
    refine G_get 4 clX1 (y1_21) fl_X1_35 dX1_note_14 (by decide) rfl rfl ?_
    refine G_aload_n 0 dX1_note_17 rfl rfl ?_
    refine G_get 9 clX1 (y1_21) fl_X1_18 dX1_note_18 (by decide) rfl rfl ?_
    refine G_get 1 clX7 (y1_23) fl_X1_85 dX1_note_21 (by decide) rfl rfl ?_
    refine G_alen (v := 401) (y1_25) rfl dX1_note_24 ?_
    refine G_icmp_ge (tgt := 43) dX1_note_25 (by decide) ?_ ?_
    · refine G_iconst (v := (-1)) dX1_note_43 (by decide) ?_
      refine G_putI 3 clX1 (y1_21) fl_X1_48 dX1_note_44 (by decide) rfl rfl rfl ?_
      refine G_m (fun M2 => ?_)
      exact G_vret rfl dX1_note_47
    · refine G_aload_n 0 dX1_note_28 rfl rfl ?_
      refine G_get 9 clX1 (y1_21) fl_X1_18 dX1_note_29 (by decide) rfl rfl ?_
      refine G_get 1 clX7 (y1_23) fl_X1_85 dX1_note_32 (by decide) rfl rfl ?_
      refine G_aload_n 0 dX1_note_35 rfl rfl ?_
      refine G_get 4 clX1 (y1_21) fl_X1_35 dX1_note_36 (by decide) rfl rfl ?_
      refine G_iald (y1_25) dX1_note_39 ?_
      refine G_goto (tgt := 44) dX1_note_40 (by decide) ?_
      refine G_putI 3 clX1 (y1_21) fl_X1_48 dX1_note_44 (by decide) rfl rfl rfl ?_
      refine G_m (fun M3 => ?_)
      exact G_vret rfl dX1_note_47
-- X1_take
def f_X1_take (a1 : Int32) (M : gM) : Option (Bool × gM) := (g_b (f_X1_kind M) (fun r2 M1 => (if r2 = a1 then (g_b (f_X1_step M1) (fun r6 M5 => (some (r6, M5)))) else (g_b (f_X1_fail (1 : Int32) M1) (fun r4 M3 => (some (r4, M3)))))))
set_option maxRecDepth 100000 in
set_option maxHeartbeats 4000000 in
theorem ok_X1_take (a1 : Int32) (M : gM) : g_met Y1 yX1_take jX1_take g_eb (fun Z => [.ref (Z.2.1 21), .int a1]) M (f_X1_take a1 M) := by
  refine g_enter (fun Z => [(0, .ref (Z.2.1 21)), (1, .int a1)]) (by decide) rfl (fun Z => Nat.le_of_ble_eq_true rfl) (fun Z => rfl) (fun X => ?_)
  rw [f_X1_take]
  refine G_aload_n 0 dX1_take_0 rfl rfl ?_
  refine G_cVi (As := []) (rest := []) (ok_X1_kind M) rfl (y1_21) rfl mv_X1_51 dX1_take_1 rfl rfl (Nat.le_of_ble_eq_true rfl) (g_fitN (by decide) (by decide)) (fun r2 M1 => ?_)
  refine G_iload_n 1 dX1_take_4 rfl rfl ?_
  refine G_icmp_ne (tgt := 15) dX1_take_5 (by decide) ?_ ?_
  · refine G_aload_n 0 dX1_take_15 rfl rfl ?_
    refine G_iconst (v := 1) dX1_take_16 (by decide) ?_
    refine G_cVb (As := [.int 1]) (rest := []) (ok_X1_fail (1 : Int32) M1) rfl (y1_21) rfl mv_X1_72 dX1_take_17 rfl rfl (Nat.le_of_ble_eq_true rfl) (g_fitN (by decide) (by decide)) (fun r4 M3 => ?_)
    exact G_zret rfl dX1_take_20
  · refine G_aload_n 0 dX1_take_8 rfl rfl ?_
    refine G_cVb (As := []) (rest := []) (ok_X1_step M1) rfl (y1_21) rfl mv_X1_88 dX1_take_9 rfl rfl (Nat.le_of_ble_eq_true rfl) (g_fitN (by decide) (by decide)) (fun r6 M5 => ?_)
    refine G_goto (tgt := 20) dX1_take_12 (by decide) ?_
    exact G_zret rfl dX1_take_20
-- X1_takeSigned
def f_X1_takeSigned_75 (x5 : Int32) (M : gM) : Option (Bool × gM) := (g_m (sI M 21 5 x5) (fun M8 => (g_b (f_X1_take (18 : Int32) M8) (fun r10 M9 => (some (r10, M9))))))
set_option maxRecDepth 100000 in
set_option maxHeartbeats 4000000 in
theorem o_X1_takeSigned_75 {X : gX} (x5 : Int32) (M : gM) : G Y1 jX1_takeSigned X (g_fin g_eb) 75 [(0, .ref (ad X 21)), (5, .int x5)] [] M (f_X1_takeSigned_75 x5 M) := by
  rw [f_X1_takeSigned_75]
  refine G_aload_n 0 dX1_takeSigned_75 rfl rfl ?_
  refine G_iload 1 dX1_takeSigned_76 rfl ?_
  refine G_putI 5 clX1 (y1_21) fl_X1_95 dX1_takeSigned_78 (by decide) rfl rfl rfl ?_
  refine G_m (fun M8 => ?_)
  refine G_aload_n 0 dX1_takeSigned_81 rfl rfl ?_
  refine G_bipush (v := 18) dX1_takeSigned_82 (by decide) ?_
  refine G_cVb (As := [.int 18]) (rest := []) (ok_X1_take (18 : Int32) M8) rfl (y1_21) rfl mv_X1_107 dX1_takeSigned_84 rfl rfl (Nat.le_of_ble_eq_true rfl) (g_fitN (by decide) (by decide)) (fun r10 M9 => ?_)
  exact G_zret rfl dX1_takeSigned_87
def f_X1_takeSigned_70 (k75 : Int32 → gM → Option (Bool × gM)) (x5 : Int32) (M : gM) : Option (Bool × gM) := (g_b (f_X1_note (5 : Int32) M) (fun r12 M11 => (k75 x5 M11)))
set_option maxRecDepth 100000 in
set_option maxHeartbeats 4000000 in
theorem o_X1_takeSigned_70 {X : gX} {k75 : Int32 → gM → Option (Bool × gM)} (hk75 : ∀ (x5 : Int32) (M : gM), G Y1 jX1_takeSigned X (g_fin g_eb) 75 [(0, .ref (ad X 21)), (5, .int x5)] [] M (k75 x5 M)) (x5 : Int32) (M : gM) : G Y1 jX1_takeSigned X (g_fin g_eb) 70 [(0, .ref (ad X 21)), (5, .int x5)] [] M (f_X1_takeSigned_70 k75 x5 M) := by
  rw [f_X1_takeSigned_70]
  refine G_aload_n 0 dX1_takeSigned_70 rfl rfl ?_
  refine G_iconst (v := 5) dX1_takeSigned_71 (by decide) ?_
  refine G_cVv (As := [.int 5]) (rest := []) (ok_X1_note (5 : Int32) M) rfl (y1_21) rfl mv_X1_114 dX1_takeSigned_72 rfl rfl (Nat.le_of_ble_eq_true rfl) (g_fitN (by decide) (by decide)) (fun r12 M11 => ?_)
  exact G_sub [0, 1] rfl (hk75 x5 M11)
def f_X1_takeSigned_47 (x1 : Int32) (x2 : Int32) (x4 : Int32) (s0 : Int32) (M : gM) : Option (Bool × gM) := (g_b (f_X1_kind M) (fun r7 M6 => (if r7 = (18 : Int32) then (if x2 < x4 then (f_X1_takeSigned_70 (f_X1_takeSigned_75) s0 M6) else (if x1 ≤ s0 then (f_X1_takeSigned_75 s0 M6) else (f_X1_takeSigned_70 (f_X1_takeSigned_75) s0 M6))) else (f_X1_takeSigned_75 s0 M6))))
set_option maxRecDepth 100000 in
set_option maxHeartbeats 4000000 in
theorem o_X1_takeSigned_47 {X : gX} (x1 : Int32) (x2 : Int32) (x4 : Int32) (s0 : Int32) (M : gM) : G Y1 jX1_takeSigned X (g_fin g_eb) 47 [(0, .ref (ad X 21)), (1, .int x1), (2, .int x2), (4, .int x4)] [.int s0] M (f_X1_takeSigned_47 x1 x2 x4 s0 M) := by
  rw [f_X1_takeSigned_47]
  refine G_istore (lv' := [(5, .int s0), (0, .ref (ad X 21)), (1, .int x1), (2, .int x2), (4, .int x4)]) dX1_takeSigned_47 (by decide) rfl ?_
  refine G_aload_n 1 dX1_takeSigned_49 rfl rfl ?_
  refine G_cVi (As := []) (rest := []) (ok_X1_kind M) rfl (y1_21) rfl mv_X1_51 dX1_takeSigned_50 rfl rfl (Nat.le_of_ble_eq_true rfl) (g_fitN (by decide) (by decide)) (fun r7 M6 => ?_)
  refine G_bipush (v := 18) dX1_takeSigned_53 (by decide) ?_
  refine G_icmp_ne (tgt := 75) dX1_takeSigned_55 (by decide) ?_ ?_
  · exact G_sub [1, 0] rfl (o_X1_takeSigned_75 s0 M6)
  · refine G_iload 4 dX1_takeSigned_58 rfl ?_
    refine G_iload_n 3 dX1_takeSigned_60 rfl rfl ?_
    refine G_icmp_gt (tgt := 70) dX1_takeSigned_61 (by decide) ?_ ?_
    · exact G_sub [1, 0] rfl (o_X1_takeSigned_70 (o_X1_takeSigned_75) s0 M6)
    · refine G_iload 0 dX1_takeSigned_64 rfl ?_
      refine G_iload_n 2 dX1_takeSigned_66 rfl rfl ?_
      refine G_icmp_ge (tgt := 75) dX1_takeSigned_67 (by decide) ?_ ?_
      · exact G_sub [1, 0] rfl (o_X1_takeSigned_75 s0 M6)
      · exact G_sub [1, 0] rfl (o_X1_takeSigned_70 (o_X1_takeSigned_75) s0 M6)
def f_X1_takeSigned_28 (x1 : Int32) (x2 : Int32) (x3 : Int32) (M : gM) : Option (Bool × gM) := (g_b (f_X1_value M) (fun r4 M3 => (g_v r4.toInt32 (fun y5 => (if x3 = 0 then (f_X1_takeSigned_47 x1 x2 y5 y5 M3) else (f_X1_takeSigned_47 x1 x2 y5 (-y5) M3))))))
set_option maxRecDepth 100000 in
set_option maxHeartbeats 4000000 in
theorem o_X1_takeSigned_28 {X : gX} (x1 : Int32) (x2 : Int32) (x3 : Int32) (M : gM) : G Y1 jX1_takeSigned X (g_fin g_eb) 28 [(0, .ref (ad X 21)), (1, .int x1), (2, .int x2), (3, .int x3)] [] M (f_X1_takeSigned_28 x1 x2 x3 M) := by
  rw [f_X1_takeSigned_28]
  refine G_aload_n 0 dX1_takeSigned_28 rfl rfl ?_
  refine G_cVl (As := []) (rest := []) (ok_X1_value M) rfl (y1_21) rfl mv_X1_110 dX1_takeSigned_29 rfl rfl (Nat.le_of_ble_eq_true rfl) (g_fitN (by decide) (by decide)) (fun r4 M3 => ?_)
  refine G_l2i dX1_takeSigned_32 ?_
  refine G_vi (fun y5 => ?_)
  refine G_istore (lv' := [(4, .int y5), (0, .ref (ad X 21)), (1, .int x1), (2, .int x2), (3, .int x3)]) dX1_takeSigned_33 (by decide) rfl ?_
  refine G_iload_n 4 dX1_takeSigned_35 rfl rfl ?_
  refine G_if_eq (tgt := 45) dX1_takeSigned_36 (by decide) ?_ ?_
  · refine G_iload 0 dX1_takeSigned_45 rfl ?_
    exact G_sub [1, 2, 3, 0] rfl (o_X1_takeSigned_47 x1 x2 y5 y5 M3)
  · refine G_iload 0 dX1_takeSigned_39 rfl ?_
    refine G_ineg dX1_takeSigned_41 ?_
    refine G_goto (tgt := 47) dX1_takeSigned_42 (by decide) ?_
    exact G_sub [1, 2, 3, 0] rfl (o_X1_takeSigned_47 x1 x2 y5 (-y5) M3)
def f_X1_takeSigned_14 (x1 : Int32) (x2 : Int32) (s0 : Int32) (M : gM) : Option (Bool × gM) := (if s0 = 0 then (f_X1_takeSigned_28 x1 x2 s0 M) else (g_b (f_X1_step M) (fun r14 M13 => (if r14 then (f_X1_takeSigned_28 x1 x2 s0 M13) else (some (false, M13))))))
set_option maxRecDepth 100000 in
set_option maxHeartbeats 4000000 in
theorem o_X1_takeSigned_14 {X : gX} (x1 : Int32) (x2 : Int32) (s0 : Int32) (M : gM) : G Y1 jX1_takeSigned X (g_fin g_eb) 14 [(0, .ref (ad X 21)), (1, .int x1), (2, .int x2)] [.int s0] M (f_X1_takeSigned_14 x1 x2 s0 M) := by
  rw [f_X1_takeSigned_14]
  refine G_istore_n (lv' := [(3, .int s0), (0, .ref (ad X 21)), (1, .int x1), (2, .int x2)]) dX1_takeSigned_14 rfl (by decide) rfl ?_
  refine G_iload_n 0 dX1_takeSigned_15 rfl rfl ?_
  refine G_if_eq (tgt := 28) dX1_takeSigned_16 (by decide) ?_ ?_
  · exact G_sub [1, 2, 3, 0] rfl (o_X1_takeSigned_28 x1 x2 s0 M)
  · refine G_aload_n 1 dX1_takeSigned_19 rfl rfl ?_
    refine G_cVb (As := []) (rest := []) (ok_X1_step M) rfl (y1_21) rfl mv_X1_88 dX1_takeSigned_20 rfl rfl (Nat.le_of_ble_eq_true rfl) (g_fitN (by decide) (by decide)) (fun r14 M13 => ?_)
    refine G_ifB_ne (tgt := 28) dX1_takeSigned_23 (by decide) ?_ ?_
    · exact G_sub [1, 2, 3, 0] rfl (o_X1_takeSigned_28 x1 x2 s0 M13)
    · refine G_iconst (v := 0) dX1_takeSigned_26 (by decide) ?_
      exact G_zret (b := false) rfl dX1_takeSigned_27
def f_X1_takeSigned (a1 : Int32) (a2 : Int32) (M : gM) : Option (Bool × gM) := (g_b (f_X1_kind M) (fun r2 M1 => (if r2 = (21 : Int32) then (f_X1_takeSigned_14 a1 a2 (1 : Int32) M1) else (f_X1_takeSigned_14 a1 a2 (0 : Int32) M1))))
set_option maxRecDepth 100000 in
set_option maxHeartbeats 4000000 in
theorem ok_X1_takeSigned (a1 : Int32) (a2 : Int32) (M : gM) : g_met Y1 yX1_takeSigned jX1_takeSigned g_eb (fun Z => [.ref (Z.2.1 21), .int a1, .int a2]) M (f_X1_takeSigned a1 a2 M) := by
  refine g_enter (fun Z => [(0, .ref (Z.2.1 21)), (1, .int a1), (2, .int a2)]) (by decide) rfl (fun Z => Nat.le_of_ble_eq_true rfl) (fun Z => rfl) (fun X => ?_)
  rw [f_X1_takeSigned]
  refine G_aload_n 0 dX1_takeSigned_0 rfl rfl ?_
  refine G_cVi (As := []) (rest := []) (ok_X1_kind M) rfl (y1_21) rfl mv_X1_51 dX1_takeSigned_1 rfl rfl (Nat.le_of_ble_eq_true rfl) (g_fitN (by decide) (by decide)) (fun r2 M1 => ?_)
  refine G_bipush (v := 21) dX1_takeSigned_4 (by decide) ?_
  refine G_icmp_ne (tgt := 13) dX1_takeSigned_6 (by decide) ?_ ?_
  · refine G_iconst (v := 0) dX1_takeSigned_13 (by decide) ?_
    exact G_sub [0, 1, 2] rfl (o_X1_takeSigned_14 a1 a2 (0 : Int32) M1)
  · refine G_iconst (v := 1) dX1_takeSigned_9 (by decide) ?_
    refine G_goto (tgt := 14) dX1_takeSigned_10 (by decide) ?_
    exact G_sub [0, 1, 2] rfl (o_X1_takeSigned_14 a1 a2 (1 : Int32) M1)
-- X4_actNamed
def f_X4_actNamed_2 (t : Nat) : Nat → Int64 → Int32 → gM → Option (Int32 × gM)
  | 0, _, _, _ => none
  | n + 1, x1, x3, M => (if (M.1 t 5) ≤ x3 then (some (((-1) : Int32), M)) else (if (6 : Int32) ≤ x3 then (some (((-1) : Int32), M)) else (g_ck x3 6 (if (lg_cmp (M.2.1 (t + 2) (tn x3)) x1) = 0 then (some (x3, M)) else (f_X4_actNamed_2 t n x1 (x3 + 1) M)))))
set_option maxRecDepth 100000 in
set_option maxHeartbeats 4000000 in
theorem o_X4_actNamed_2 {X : gX} {t : Nat} (ht : t = 3 ∨ t = 12) : ∀ (n : Nat) (x1 : Int64) (x3 : Int32) (M : gM), G Y1 jX4_actNamed X (g_fin g_ei) 2 [(0, .ref (ad X t)), (1, .long x1), (3, .int x3)] [] M (f_X4_actNamed_2 t n x1 x3 M) := by
  intro n
  induction n with
  | zero => intro x1 x3 M; exact G_none
  | succ n ih =>
    intro x1 x3 M
    rw [f_X4_actNamed_2]
    refine G_iload_n 2 dX4_actNamed_2 rfl rfl ?_
    refine G_aload_n 0 dX4_actNamed_3 rfl rfl ?_
    refine G_get 5 clX4 (ro_0 ht) fl_X4_53 dX4_actNamed_4 (by decide) rfl rfl ?_
    refine G_icmp_ge (tgt := 35) dX4_actNamed_7 (by decide) ?_ ?_
    · refine G_iconst (v := (-1)) dX4_actNamed_35 (by decide) ?_
      exact G_iret rfl dX4_actNamed_36
    · refine G_iload_n 2 dX4_actNamed_10 rfl rfl ?_
      refine G_bipush (v := 6) dX4_actNamed_11 (by decide) ?_
      refine G_icmp_ge (tgt := 35) dX4_actNamed_13 (by decide) ?_ ?_
      · refine G_iconst (v := (-1)) dX4_actNamed_35 (by decide) ?_
        exact G_iret rfl dX4_actNamed_36
      · refine G_aload_n 0 dX4_actNamed_16 rfl rfl ?_
        refine G_get 10 clX4 (ro_0 ht) fl_X4_15 dX4_actNamed_17 (by decide) rfl rfl ?_
        refine G_iload_n 2 dX4_actNamed_20 rfl rfl ?_
        refine G_lald (ro_2 ht) dX4_actNamed_21 ?_
        refine G_lload_n 1 dX4_actNamed_22 rfl rfl ?_
        refine G_lcmp dX4_actNamed_23 ?_
        refine G_if_ne (tgt := 29) dX4_actNamed_24 (by decide) ?_ ?_
        · refine G_iinc (v := x3 + 1) (lv' := [(3, .int (x3 + 1)), (0, .ref (ad X t)), (1, .long x1)]) 2 dX4_actNamed_29 rfl rfl (by decide) rfl ?_
          refine G_goto (tgt := 2) dX4_actNamed_32 (by decide) ?_
          exact G_sub [1, 2, 0] rfl (ih x1 (x3 + 1) M)
        · refine G_iload_n 2 dX4_actNamed_27 rfl rfl ?_
          exact G_iret rfl dX4_actNamed_28
def f_X4_actNamed (t : Nat) (a1 : Int64) (M : gM) : Option (Int32 × gM) := (f_X4_actNamed_2 t FU a1 (0 : Int32) M)
set_option maxRecDepth 100000 in
set_option maxHeartbeats 4000000 in
theorem ok_X4_actNamed {t : Nat} (ht : t = 3 ∨ t = 12) (a1 : Int64) (M : gM) : g_met Y1 yX4_actNamed jX4_actNamed g_ei (fun Z => [.ref (Z.2.1 t), .long a1]) M (f_X4_actNamed t a1 M) := by
  refine g_enter (fun Z => [(0, .ref (Z.2.1 t)), (1, .long a1)]) (by decide) rfl (fun Z => Nat.le_of_ble_eq_true rfl) (fun Z => rfl) (fun X => ?_)
  rw [f_X4_actNamed]
  refine G_iconst (v := 0) dX4_actNamed_0 (by decide) ?_
  refine G_istore_n (lv' := [(3, .int 0), (0, .ref (ad X t)), (1, .long a1)]) dX4_actNamed_1 rfl (by decide) rfl ?_
  exact G_sub [1, 2, 0] rfl (o_X4_actNamed_2 ht FU a1 (0 : Int32) M)
-- X4_addAct
def f_X4_addAct (t : Nat) (a1 : Int64) (a3 : Int32) (a4 : Int32) (a5 : Int32) (M : gM) : Option (Unit × gM) := (if (6 : Int32) ≤ (M.1 t 5) then (some ((), M)) else (g_ck (M.1 t 5) 6 (g_m (sL M (t + 2) (tn (M.1 t 5)) a1) (fun M1 => (g_ck (M1.1 t 5) 6 (g_m (sI M1 (t + 3) (tn (M1.1 t 5)) a3) (fun M2 => (g_ck (M2.1 t 5) 6 (g_m (sI M2 (t + 4) (tn (M2.1 t 5)) a4) (fun M3 => (g_ck (M3.1 t 5) 6 (g_m (sI M3 (t + 5) (tn (M3.1 t 5)) a5) (fun M4 => (g_m (sI M4 t 5 ((M4.1 t 5) + (1 : Int32))) (fun M5 => (some ((), M5)))))))))))))))))
set_option maxRecDepth 100000 in
set_option maxHeartbeats 4000000 in
theorem ok_X4_addAct {t : Nat} (ht : t = 3 ∨ t = 12) (a1 : Int64) (a3 : Int32) (a4 : Int32) (a5 : Int32) (M : gM) : g_met Y1 yX4_addAct jX4_addAct g_ev (fun Z => [.ref (Z.2.1 t), .long a1, .int a3, .int a4, .int a5]) M (f_X4_addAct t a1 a3 a4 a5 M) := by
  refine g_enter (fun Z => [(0, .ref (Z.2.1 t)), (1, .long a1), (3, .int a3), (4, .int a4), (5, .int a5)]) (by decide) rfl (fun Z => Nat.le_of_ble_eq_true rfl) (fun Z => rfl) (fun X => ?_)
  rw [f_X4_addAct]
  refine G_aload_n 0 dX4_addAct_0 rfl rfl ?_
  refine G_get 5 clX4 (ro_0 ht) fl_X4_53 dX4_addAct_1 (by decide) rfl rfl ?_
  refine G_bipush (v := 6) dX4_addAct_4 (by decide) ?_
  refine G_icmp_ge (tgt := 61) dX4_addAct_6 (by decide) ?_ ?_
  · exact G_vret rfl dX4_addAct_61
  · refine G_aload_n 0 dX4_addAct_9 rfl rfl ?_
    refine G_get 10 clX4 (ro_0 ht) fl_X4_15 dX4_addAct_10 (by decide) rfl rfl ?_
    refine G_aload_n 0 dX4_addAct_13 rfl rfl ?_
    refine G_get 5 clX4 (ro_0 ht) fl_X4_53 dX4_addAct_14 (by decide) rfl rfl ?_
    refine G_lload_n 1 dX4_addAct_17 rfl rfl ?_
    refine G_last (ro_2 ht) dX4_addAct_18 ?_
    refine G_m (fun M1 => ?_)
    refine G_aload_n 0 dX4_addAct_19 rfl rfl ?_
    refine G_get 11 clX4 (ro_0 ht) fl_X4_19 dX4_addAct_20 (by decide) rfl rfl ?_
    refine G_aload_n 0 dX4_addAct_23 rfl rfl ?_
    refine G_get 5 clX4 (ro_0 ht) fl_X4_53 dX4_addAct_24 (by decide) rfl rfl ?_
    refine G_iload_n 2 dX4_addAct_27 rfl rfl ?_
    refine G_iast (ro_3 ht) dX4_addAct_28 ?_
    refine G_m (fun M2 => ?_)
    refine G_aload_n 0 dX4_addAct_29 rfl rfl ?_
    refine G_get 12 clX4 (ro_0 ht) fl_X4_22 dX4_addAct_30 (by decide) rfl rfl ?_
    refine G_aload_n 0 dX4_addAct_33 rfl rfl ?_
    refine G_get 5 clX4 (ro_0 ht) fl_X4_53 dX4_addAct_34 (by decide) rfl rfl ?_
    refine G_iload 3 dX4_addAct_37 rfl ?_
    refine G_iast (ro_4 ht) dX4_addAct_39 ?_
    refine G_m (fun M3 => ?_)
    refine G_aload_n 0 dX4_addAct_40 rfl rfl ?_
    refine G_get 13 clX4 (ro_0 ht) fl_X4_25 dX4_addAct_41 (by decide) rfl rfl ?_
    refine G_aload_n 0 dX4_addAct_44 rfl rfl ?_
    refine G_get 5 clX4 (ro_0 ht) fl_X4_53 dX4_addAct_45 (by decide) rfl rfl ?_
    refine G_iload 4 dX4_addAct_48 rfl ?_
    refine G_iast (ro_5 ht) dX4_addAct_50 ?_
    refine G_m (fun M4 => ?_)
    refine G_aload_n 0 dX4_addAct_51 rfl rfl ?_
    refine G_dup dX4_addAct_52 rfl ?_
    refine G_get 5 clX4 (ro_0 ht) fl_X4_53 dX4_addAct_53 (by decide) rfl rfl ?_
    refine G_iconst (v := 1) dX4_addAct_56 (by decide) ?_
    refine G_iadd dX4_addAct_57 ?_
    refine G_putI 5 clX4 (ro_0 ht) fl_X4_53 dX4_addAct_58 (by decide) rfl rfl rfl ?_
    refine G_m (fun M5 => ?_)
    exact G_vret rfl dX4_addAct_61
-- X1_tellAct
def f_X1_tellAct_142 (x1 : Int64) (x3 : Int32) (x4 : Int32) (x5 : Int32) (M : gM) : Option (Bool × gM) := (g_or 3 12 (M.2.2 21 6) (fun t24 => (g_b (f_X4_addAct t24 x1 x3 x4 x5 M) (fun r26 M25 => (g_b (f_X1_take (19 : Int32) M25) (fun r28 M27 => (some (r28, M27))))))))
set_option maxRecDepth 100000 in
set_option maxHeartbeats 4000000 in
theorem o_X1_tellAct_142 {X : gX} (x1 : Int64) (x3 : Int32) (x4 : Int32) (x5 : Int32) (M : gM) : G Y1 jX1_tellAct X (g_fin g_eb) 142 [(0, .ref (ad X 21)), (1, .long x1), (3, .int x3), (4, .int x4), (5, .int x5)] [] M (f_X1_tellAct_142 x1 x3 x4 x5 M) := by
  rw [f_X1_tellAct_142]
  refine G_aload_n 0 dX1_tellAct_142 rfl rfl ?_
  refine G_getO 6 clX1 (y1_21) fl_X1_22 dX1_tellAct_143 (by decide) rfl (by decide) (fun t24 ht24 => ?_)
  refine G_lload_n 1 dX1_tellAct_146 rfl rfl ?_
  refine G_iload_n 2 dX1_tellAct_147 rfl rfl ?_
  refine G_iload 3 dX1_tellAct_148 rfl ?_
  refine G_iload 4 dX1_tellAct_150 rfl ?_
  refine G_cVv (As := [.long x1, .int x3, .int x4, .int x5]) (rest := []) (ok_X4_addAct ht24 x1 x3 x4 x5 M) rfl (ro_0 ht24) rfl mv_X1_148 dX1_tellAct_152 rfl rfl (Nat.le_of_ble_eq_true rfl) (g_fitN (by decide) (by decide)) (fun r26 M25 => ?_)
  refine G_aload_n 0 dX1_tellAct_155 rfl rfl ?_
  refine G_bipush (v := 19) dX1_tellAct_156 (by decide) ?_
  refine G_cVb (As := [.int 19]) (rest := []) (ok_X1_take (19 : Int32) M25) rfl (y1_21) rfl mv_X1_107 dX1_tellAct_158 rfl rfl (Nat.le_of_ble_eq_true rfl) (g_fitN (by decide) (by decide)) (fun r28 M27 => ?_)
  exact G_zret rfl dX1_tellAct_161
def f_X1_tellAct_58 (x1 : Int64) (M : gM) : Option (Bool × gM) := (g_b (f_X1_take (17 : Int32) M) (fun r9 M8 => (if r9 then (g_b (f_X1_takeSigned ((-9) : Int32) (9 : Int32) M8) (fun r11 M10 => (if r11 then (g_v (M10.1 21 5) (fun y12 => (g_b (f_X1_takeSigned ((-1) : Int32) (1 : Int32) M10) (fun r14 M13 => (if r14 then (g_v (M13.1 21 5) (fun y15 => (g_or 3 12 (M13.2.2 21 6) (fun t16 => (g_v (M13.1 t16 8) (fun y17 => (g_b (f_X1_kind M13) (fun r19 M18 => (if r19 = (12 : Int32) then (g_b (f_X1_step M18) (fun r21 M20 => (if r21 then (g_b (f_X1_condition M20) (fun r23 M22 => (if r23 then (f_X1_tellAct_142 x1 y12 y15 y17 M22) else (some (false, M22))))) else (some (false, M20))))) else (f_X1_tellAct_142 x1 y12 y15 ((-1) : Int32) M18)))))))))) else (some (false, M13))))))) else (some (false, M10))))) else (some (false, M8)))))
set_option maxRecDepth 100000 in
set_option maxHeartbeats 4000000 in
theorem o_X1_tellAct_58 {X : gX} (x1 : Int64) (M : gM) : G Y1 jX1_tellAct X (g_fin g_eb) 58 [(0, .ref (ad X 21)), (1, .long x1)] [] M (f_X1_tellAct_58 x1 M) := by
  rw [f_X1_tellAct_58]
  refine G_aload_n 0 dX1_tellAct_58 rfl rfl ?_
  refine G_bipush (v := 17) dX1_tellAct_59 (by decide) ?_
  refine G_cVb (As := [.int 17]) (rest := []) (ok_X1_take (17 : Int32) M) rfl (y1_21) rfl mv_X1_107 dX1_tellAct_61 rfl rfl (Nat.le_of_ble_eq_true rfl) (g_fitN (by decide) (by decide)) (fun r9 M8 => ?_)
  refine G_ifB_eq (tgt := 78) dX1_tellAct_64 (by decide) ?_ ?_
  · refine G_iconst (v := 0) dX1_tellAct_78 (by decide) ?_
    exact G_zret (b := false) rfl dX1_tellAct_79
  · refine G_aload_n 0 dX1_tellAct_67 rfl rfl ?_
    refine G_bipush (v := (-9)) dX1_tellAct_68 (by decide) ?_
    refine G_bipush (v := 9) dX1_tellAct_70 (by decide) ?_
    refine G_cVb (As := [.int (-9), .int 9]) (rest := []) (ok_X1_takeSigned ((-9) : Int32) (9 : Int32) M8) rfl (y1_21) rfl mv_X1_142 dX1_tellAct_72 rfl rfl (Nat.le_of_ble_eq_true rfl) (g_fitN (by decide) (by decide)) (fun r11 M10 => ?_)
    refine G_ifB_ne (tgt := 80) dX1_tellAct_75 (by decide) ?_ ?_
    · refine G_aload_n 0 dX1_tellAct_80 rfl rfl ?_
      refine G_get 5 clX1 (y1_21) fl_X1_95 dX1_tellAct_81 (by decide) rfl rfl ?_
      refine G_vi (fun y12 => ?_)
      refine G_istore_n (lv' := [(3, .int y12), (0, .ref (ad X 21)), (1, .long x1)]) dX1_tellAct_84 rfl (by decide) rfl ?_
      refine G_aload_n 1 dX1_tellAct_85 rfl rfl ?_
      refine G_iconst (v := (-1)) dX1_tellAct_86 (by decide) ?_
      refine G_iconst (v := 1) dX1_tellAct_87 (by decide) ?_
      refine G_cVb (As := [.int (-1), .int 1]) (rest := []) (ok_X1_takeSigned ((-1) : Int32) (1 : Int32) M10) rfl (y1_21) rfl mv_X1_142 dX1_tellAct_88 rfl rfl (Nat.le_of_ble_eq_true rfl) (g_fitN (by decide) (by decide)) (fun r14 M13 => ?_)
      refine G_ifB_ne (tgt := 96) dX1_tellAct_91 (by decide) ?_ ?_
      · refine G_aload_n 1 dX1_tellAct_96 rfl rfl ?_
        refine G_get 5 clX1 (y1_21) fl_X1_95 dX1_tellAct_97 (by decide) rfl rfl ?_
        refine G_vi (fun y15 => ?_)
        refine G_istore (lv' := [(4, .int y15), (3, .int y12), (0, .ref (ad X 21)), (1, .long x1)]) dX1_tellAct_100 (by decide) rfl ?_
        refine G_aload_n 2 dX1_tellAct_102 rfl rfl ?_
        refine G_getO 6 clX1 (y1_21) fl_X1_22 dX1_tellAct_103 (by decide) rfl (by decide) (fun t16 ht16 => ?_)
        refine G_get 8 clX4 (ro_0 ht16) fl_X1_118 dX1_tellAct_106 (by decide) rfl rfl ?_
        refine G_vi (fun y17 => ?_)
        refine G_istore (lv' := [(5, .int y17), (4, .int y15), (3, .int y12), (0, .ref (ad X 21)), (1, .long x1)]) dX1_tellAct_109 (by decide) rfl ?_
        refine G_aload_n 3 dX1_tellAct_111 rfl rfl ?_
        refine G_cVi (As := []) (rest := []) (ok_X1_kind M13) rfl (y1_21) rfl mv_X1_51 dX1_tellAct_112 rfl rfl (Nat.le_of_ble_eq_true rfl) (g_fitN (by decide) (by decide)) (fun r19 M18 => ?_)
        refine G_bipush (v := 12) dX1_tellAct_115 (by decide) ?_
        refine G_icmp_eq (tgt := 126) dX1_tellAct_117 (by decide) ?_ ?_
        · refine G_aload_n 3 dX1_tellAct_126 rfl rfl ?_
          refine G_cVb (As := []) (rest := []) (ok_X1_step M18) rfl (y1_21) rfl mv_X1_88 dX1_tellAct_127 rfl rfl (Nat.le_of_ble_eq_true rfl) (g_fitN (by decide) (by decide)) (fun r21 M20 => ?_)
          refine G_ifB_eq (tgt := 140) dX1_tellAct_130 (by decide) ?_ ?_
          · refine G_iconst (v := 0) dX1_tellAct_140 (by decide) ?_
            exact G_zret (b := false) rfl dX1_tellAct_141
          · refine G_aload_n 3 dX1_tellAct_133 rfl rfl ?_
            refine G_cVb (As := []) (rest := []) (ok_X1_condition M20) rfl (y1_21) rfl mv_X1_145 dX1_tellAct_134 rfl rfl (Nat.le_of_ble_eq_true rfl) (g_fitN (by decide) (by decide)) (fun r23 M22 => ?_)
            refine G_ifB_ne (tgt := 142) dX1_tellAct_137 (by decide) ?_ ?_
            · exact G_sub [3, 4, 2, 1, 0] rfl (o_X1_tellAct_142 x1 y12 y15 y17 M22)
            · refine G_iconst (v := 0) dX1_tellAct_140 (by decide) ?_
              exact G_zret (b := false) rfl dX1_tellAct_141
        · refine G_iconst (v := (-1)) dX1_tellAct_120 (by decide) ?_
          refine G_istore (lv' := [(5, .int (-1)), (4, .int y15), (3, .int y12), (0, .ref (ad X 21)), (1, .long x1)]) dX1_tellAct_121 (by decide) rfl ?_
          refine G_goto (tgt := 142) dX1_tellAct_123 (by decide) ?_
          exact G_sub [3, 4, 2, 1, 0] rfl (o_X1_tellAct_142 x1 y12 y15 ((-1) : Int32) M18)
      · refine G_iconst (v := 0) dX1_tellAct_94 (by decide) ?_
        exact G_zret (b := false) rfl dX1_tellAct_95
    · refine G_iconst (v := 0) dX1_tellAct_78 (by decide) ?_
      exact G_zret (b := false) rfl dX1_tellAct_79
def f_X1_tellAct (M : gM) : Option (Bool × gM) := (g_or 3 12 (M.2.2 21 6) (fun t1 => (if (M.1 t1 5) < (6 : Int32) then (g_b (f_X1_step M) (fun r3 M2 => (if r3 then (g_b (f_X1_value M2) (fun r5 M4 => (g_b (f_X1_kind M4) (fun r7 M6 => (if r7 = (17 : Int32) then (g_or 3 12 (M6.2.2 21 6) (fun t29 => (g_b (f_X4_actNamed t29 r5 M6) (fun r31 M30 => (if r31 = ((-1) : Int32) then (f_X1_tellAct_58 r5 M30) else (g_b (f_X1_note (3 : Int32) M30) (fun r33 M32 => (f_X1_tellAct_58 r5 M32)))))))) else (f_X1_tellAct_58 r5 M6)))))) else (some (false, M2))))) else (g_b (f_X1_fail (2 : Int32) M) (fun r35 M34 => (some (r35, M34)))))))
set_option maxRecDepth 100000 in
set_option maxHeartbeats 4000000 in
theorem ok_X1_tellAct (M : gM) : g_met Y1 yX1_tellAct jX1_tellAct g_eb (fun Z => [.ref (Z.2.1 21)]) M (f_X1_tellAct M) := by
  refine g_enter (fun Z => [(0, .ref (Z.2.1 21))]) (by decide) rfl (fun Z => Nat.le_of_ble_eq_true rfl) (fun Z => rfl) (fun X => ?_)
  rw [f_X1_tellAct]
  refine G_aload_n 0 dX1_tellAct_0 rfl rfl ?_
  refine G_getO 6 clX1 (y1_21) fl_X1_22 dX1_tellAct_1 (by decide) rfl (by decide) (fun t1 ht1 => ?_)
  refine G_get 5 clX4 (ro_0 ht1) fl_X1_135 dX1_tellAct_4 (by decide) rfl rfl ?_
  refine G_bipush (v := 6) dX1_tellAct_7 (by decide) ?_
  refine G_icmp_lt (tgt := 18) dX1_tellAct_9 (by decide) ?_ ?_
  · refine G_aload_n 0 dX1_tellAct_18 rfl rfl ?_
    refine G_cVb (As := []) (rest := []) (ok_X1_step M) rfl (y1_21) rfl mv_X1_88 dX1_tellAct_19 rfl rfl (Nat.le_of_ble_eq_true rfl) (g_fitN (by decide) (by decide)) (fun r3 M2 => ?_)
    refine G_ifB_ne (tgt := 27) dX1_tellAct_22 (by decide) ?_ ?_
    · refine G_aload_n 0 dX1_tellAct_27 rfl rfl ?_
      refine G_cVl (As := []) (rest := []) (ok_X1_value M2) rfl (y1_21) rfl mv_X1_110 dX1_tellAct_28 rfl rfl (Nat.le_of_ble_eq_true rfl) (g_fitN (by decide) (by decide)) (fun r5 M4 => ?_)
      refine G_lstore_n (lv' := [(1, .long r5), (0, .ref (ad X 21))]) dX1_tellAct_31 rfl (by decide) rfl ?_
      refine G_aload_n 1 dX1_tellAct_32 rfl rfl ?_
      refine G_cVi (As := []) (rest := []) (ok_X1_kind M4) rfl (y1_21) rfl mv_X1_51 dX1_tellAct_33 rfl rfl (Nat.le_of_ble_eq_true rfl) (g_fitN (by decide) (by decide)) (fun r7 M6 => ?_)
      refine G_bipush (v := 17) dX1_tellAct_36 (by decide) ?_
      refine G_icmp_ne (tgt := 58) dX1_tellAct_38 (by decide) ?_ ?_
      · exact G_sub [1, 0] rfl (o_X1_tellAct_58 r5 M6)
      · refine G_aload_n 1 dX1_tellAct_41 rfl rfl ?_
        refine G_getO 6 clX1 (y1_21) fl_X1_22 dX1_tellAct_42 (by decide) rfl (by decide) (fun t29 ht29 => ?_)
        refine G_lload_n 0 dX1_tellAct_45 rfl rfl ?_
        refine G_cVi (As := [.long r5]) (rest := []) (ok_X4_actNamed ht29 r5 M6) rfl (ro_0 ht29) rfl mv_X1_138 dX1_tellAct_46 rfl rfl (Nat.le_of_ble_eq_true rfl) (g_fitN (by decide) (by decide)) (fun r31 M30 => ?_)
        refine G_iconst (v := (-1)) dX1_tellAct_49 (by decide) ?_
        refine G_icmp_eq (tgt := 58) dX1_tellAct_50 (by decide) ?_ ?_
        · exact G_sub [1, 0] rfl (o_X1_tellAct_58 r5 M30)
        · refine G_aload_n 1 dX1_tellAct_53 rfl rfl ?_
          refine G_iconst (v := 3) dX1_tellAct_54 (by decide) ?_
          refine G_cVv (As := [.int 3]) (rest := []) (ok_X1_note (3 : Int32) M30) rfl (y1_21) rfl mv_X1_114 dX1_tellAct_55 rfl rfl (Nat.le_of_ble_eq_true rfl) (g_fitN (by decide) (by decide)) (fun r33 M32 => ?_)
          exact G_sub [1, 0] rfl (o_X1_tellAct_58 r5 M32)
    · refine G_iconst (v := 0) dX1_tellAct_25 (by decide) ?_
      exact G_zret (b := false) rfl dX1_tellAct_26
  · refine G_aload_n 0 dX1_tellAct_12 rfl rfl ?_
    refine G_iconst (v := 2) dX1_tellAct_13 (by decide) ?_
    refine G_cVb (As := [.int 2]) (rest := []) (ok_X1_fail (2 : Int32) M) rfl (y1_21) rfl mv_X1_72 dX1_tellAct_14 rfl rfl (Nat.le_of_ble_eq_true rfl) (g_fitN (by decide) (by decide)) (fun r35 M34 => ?_)
    exact G_zret rfl dX1_tellAct_17
-- X1_takeInt
def f_X1_takeInt_34 (M : gM) : Option (Bool × gM) := (g_b (f_X1_note (5 : Int32) M) (fun r9 M8 => (g_b (f_X1_take (18 : Int32) M8) (fun r11 M10 => (some (r11, M10))))))
set_option maxRecDepth 100000 in
set_option maxHeartbeats 4000000 in
theorem o_X1_takeInt_34 {X : gX} (M : gM) : G Y1 jX1_takeInt X (g_fin g_eb) 34 [(0, .ref (ad X 21))] [] M (f_X1_takeInt_34 M) := by
  rw [f_X1_takeInt_34]
  refine G_aload_n 0 dX1_takeInt_34 rfl rfl ?_
  refine G_iconst (v := 5) dX1_takeInt_35 (by decide) ?_
  refine G_cVv (As := [.int 5]) (rest := []) (ok_X1_note (5 : Int32) M) rfl (y1_21) rfl mv_X1_114 dX1_takeInt_36 rfl rfl (Nat.le_of_ble_eq_true rfl) (g_fitN (by decide) (by decide)) (fun r9 M8 => ?_)
  refine G_aload_n 0 dX1_takeInt_39 rfl rfl ?_
  refine G_bipush (v := 18) dX1_takeInt_40 (by decide) ?_
  refine G_cVb (As := [.int 18]) (rest := []) (ok_X1_take (18 : Int32) M8) rfl (y1_21) rfl mv_X1_107 dX1_takeInt_42 rfl rfl (Nat.le_of_ble_eq_true rfl) (g_fitN (by decide) (by decide)) (fun r11 M10 => ?_)
  exact G_zret rfl dX1_takeInt_45
def f_X1_takeInt (a1 : Int32) (a2 : Int32) (M : gM) : Option (Bool × gM) := (g_b (f_X1_value M) (fun r2 M1 => (g_m (sI M1 21 5 r2.toInt32) (fun M3 => (g_b (f_X1_kind M3) (fun r5 M4 => (if r5 = (18 : Int32) then (if (M4.1 21 5) < a1 then (f_X1_takeInt_34 M4) else (if (M4.1 21 5) ≤ a2 then (g_b (f_X1_take (18 : Int32) M4) (fun r13 M12 => (some (r13, M12)))) else (f_X1_takeInt_34 M4))) else (g_b (f_X1_take (18 : Int32) M4) (fun r7 M6 => (some (r7, M6)))))))))))
set_option maxRecDepth 100000 in
set_option maxHeartbeats 4000000 in
theorem ok_X1_takeInt (a1 : Int32) (a2 : Int32) (M : gM) : g_met Y1 yX1_takeInt jX1_takeInt g_eb (fun Z => [.ref (Z.2.1 21), .int a1, .int a2]) M (f_X1_takeInt a1 a2 M) := by
  refine g_enter (fun Z => [(0, .ref (Z.2.1 21)), (1, .int a1), (2, .int a2)]) (by decide) rfl (fun Z => Nat.le_of_ble_eq_true rfl) (fun Z => rfl) (fun X => ?_)
  rw [f_X1_takeInt]
  refine G_aload_n 0 dX1_takeInt_0 rfl rfl ?_
  refine G_aload_n 0 dX1_takeInt_1 rfl rfl ?_
  refine G_cVl (As := []) (rest := [.ref (ad X 21)]) (ok_X1_value M) rfl (y1_21) rfl mv_X1_110 dX1_takeInt_2 rfl rfl (Nat.le_of_ble_eq_true rfl) (g_fitN (by decide) (by decide)) (fun r2 M1 => ?_)
  refine G_l2i dX1_takeInt_5 ?_
  refine G_putI 5 clX1 (y1_21) fl_X1_95 dX1_takeInt_6 (by decide) rfl rfl rfl ?_
  refine G_m (fun M3 => ?_)
  refine G_aload_n 0 dX1_takeInt_9 rfl rfl ?_
  refine G_cVi (As := []) (rest := []) (ok_X1_kind M3) rfl (y1_21) rfl mv_X1_51 dX1_takeInt_10 rfl rfl (Nat.le_of_ble_eq_true rfl) (g_fitN (by decide) (by decide)) (fun r5 M4 => ?_)
  refine G_bipush (v := 18) dX1_takeInt_13 (by decide) ?_
  refine G_icmp_ne (tgt := 39) dX1_takeInt_15 (by decide) ?_ ?_
  · refine G_aload_n 0 dX1_takeInt_39 rfl rfl ?_
    refine G_bipush (v := 18) dX1_takeInt_40 (by decide) ?_
    refine G_cVb (As := [.int 18]) (rest := []) (ok_X1_take (18 : Int32) M4) rfl (y1_21) rfl mv_X1_107 dX1_takeInt_42 rfl rfl (Nat.le_of_ble_eq_true rfl) (g_fitN (by decide) (by decide)) (fun r7 M6 => ?_)
    exact G_zret rfl dX1_takeInt_45
  · refine G_aload_n 0 dX1_takeInt_18 rfl rfl ?_
    refine G_get 5 clX1 (y1_21) fl_X1_95 dX1_takeInt_19 (by decide) rfl rfl ?_
    refine G_iload_n 1 dX1_takeInt_22 rfl rfl ?_
    refine G_icmp_lt (tgt := 34) dX1_takeInt_23 (by decide) ?_ ?_
    · exact G_sub [0] rfl (o_X1_takeInt_34 M4)
    · refine G_aload_n 0 dX1_takeInt_26 rfl rfl ?_
      refine G_get 5 clX1 (y1_21) fl_X1_95 dX1_takeInt_27 (by decide) rfl rfl ?_
      refine G_iload_n 2 dX1_takeInt_30 rfl rfl ?_
      refine G_icmp_le (tgt := 39) dX1_takeInt_31 (by decide) ?_ ?_
      · refine G_aload_n 0 dX1_takeInt_39 rfl rfl ?_
        refine G_bipush (v := 18) dX1_takeInt_40 (by decide) ?_
        refine G_cVb (As := [.int 18]) (rest := []) (ok_X1_take (18 : Int32) M4) rfl (y1_21) rfl mv_X1_107 dX1_takeInt_42 rfl rfl (Nat.le_of_ble_eq_true rfl) (g_fitN (by decide) (by decide)) (fun r13 M12 => ?_)
        exact G_zret rfl dX1_takeInt_45
      · exact G_sub [0] rfl (o_X1_takeInt_34 M4)
