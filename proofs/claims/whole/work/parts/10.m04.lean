-- X10_rank
def f_X10_rank (a0 : Int32) (M : gM) : Option (Int32 × gM) := (if a0 = (6 : Int32) then (some ((3 : Int32), M)) else (if a0 ≤ (3 : Int32) then (if a0 ≤ (1 : Int32) then (some ((0 : Int32), M)) else (some ((1 : Int32), M))) else (some ((2 : Int32), M))))
set_option maxRecDepth 100000 in
set_option maxHeartbeats 4000000 in
theorem ok_X10_rank (a0 : Int32) (M : gM) : g_met Y2 yX10_rank jX10_rank g_ei (fun Z => [.int a0]) M (f_X10_rank a0 M) := by
  refine g_enter (fun Z => [(0, .int a0)]) (by decide) rfl (fun Z => Nat.le_of_ble_eq_true rfl) (fun Z => rfl) (fun X => ?_)
  rw [f_X10_rank]
  refine G_iload_n 0 dX10_rank_0 rfl rfl ?_
  refine G_bipush (v := 6) dX10_rank_1 (by decide) ?_
  refine G_icmp_ne (tgt := 10) dX10_rank_3 (by decide) ?_ ?_
  · refine G_iload_n 0 dX10_rank_10 rfl rfl ?_
    refine G_iconst (v := 3) dX10_rank_11 (by decide) ?_
    refine G_icmp_le (tgt := 19) dX10_rank_12 (by decide) ?_ ?_
    · refine G_iload_n 0 dX10_rank_19 rfl rfl ?_
      refine G_iconst (v := 1) dX10_rank_20 (by decide) ?_
      refine G_icmp_le (tgt := 28) dX10_rank_21 (by decide) ?_ ?_
      · refine G_iconst (v := 0) dX10_rank_28 (by decide) ?_
        exact G_iret rfl dX10_rank_29
      · refine G_iconst (v := 1) dX10_rank_24 (by decide) ?_
        refine G_goto (tgt := 29) dX10_rank_25 (by decide) ?_
        exact G_iret rfl dX10_rank_29
    · refine G_iconst (v := 2) dX10_rank_15 (by decide) ?_
      refine G_goto (tgt := 29) dX10_rank_16 (by decide) ?_
      exact G_iret rfl dX10_rank_29
  · refine G_iconst (v := 3) dX10_rank_6 (by decide) ?_
    refine G_goto (tgt := 29) dX10_rank_7 (by decide) ?_
    exact G_iret rfl dX10_rank_29
-- X10_reduce
def f_X10_reduce_0 : Nat → Int32 → Int32 → gM → Option (Unit × gM)
  | 0, _, _, _ => none
  | n + 1, x1, x2, M => (if (M.1 0 60) ≤ x2 then (some ((), M)) else (g_ck ((M.1 0 60) - (1 : Int32)) 500 (g_b (f_X10_rank (M.1 45 (tn ((M.1 0 60) - (1 : Int32)))) M) (fun r2 M1 => (if r2 < x1 then (some ((), M1)) else (g_m (sI M1 0 60 ((M1.1 0 60) - (1 : Int32))) (fun M3 => (g_ck (M3.1 0 60) 500 (g_b (f_X10_emit (M3.1 45 (tn (M3.1 0 60))) (0 : Int32) M3) (fun r5 M4 => (f_X10_reduce_0 n x1 x2 M4)))))))))))
set_option maxRecDepth 100000 in
set_option maxHeartbeats 4000000 in
theorem o_X10_reduce_0 {X : gX} : ∀ (n : Nat) (x1 : Int32) (x2 : Int32) (M : gM), G Y2 jX10_reduce X (g_fin g_ev) 0 [(0, .ref (ad X 0)), (1, .int x1), (2, .int x2)] [] M (f_X10_reduce_0 n x1 x2 M) := by
  intro n
  induction n with
  | zero => intro x1 x2 M; exact G_none
  | succ n ih =>
    intro x1 x2 M
    rw [f_X10_reduce_0]
    refine G_aload_n 0 dX10_reduce_0 rfl rfl ?_
    refine G_get 60 clX10 (y2_0) fl_X10_321 dX10_reduce_1 (by decide) rfl rfl ?_
    refine G_iload_n 2 dX10_reduce_4 rfl rfl ?_
    refine G_icmp_le (tgt := 53) dX10_reduce_5 (by decide) ?_ ?_
    · exact G_vret rfl dX10_reduce_53
    · refine G_aload_n 0 dX10_reduce_8 rfl rfl ?_
      refine G_get 61 clX10 (y2_0) fl_X10_151 dX10_reduce_9 (by decide) rfl rfl ?_
      refine G_aload_n 0 dX10_reduce_12 rfl rfl ?_
      refine G_get 60 clX10 (y2_0) fl_X10_321 dX10_reduce_13 (by decide) rfl rfl ?_
      refine G_iconst (v := 1) dX10_reduce_16 (by decide) ?_
      refine G_isub dX10_reduce_17 ?_
      refine G_iald (y2_45) dX10_reduce_18 ?_
      refine G_cSi (As := [.int (M.1 45 (tn ((M.1 0 60) - (1 : Int32))))]) (rest := []) (ok_X10_rank (M.1 45 (tn ((M.1 0 60) - (1 : Int32)))) M) rfl ms_X10_324 dX10_reduce_19 rfl rfl (Nat.le_of_ble_eq_true rfl) (g_fitN (by decide) (by decide)) (fun r2 M1 => ?_)
      refine G_iload_n 1 dX10_reduce_22 rfl rfl ?_
      refine G_icmp_lt (tgt := 53) dX10_reduce_23 (by decide) ?_ ?_
      · exact G_vret rfl dX10_reduce_53
      · refine G_aload_n 0 dX10_reduce_26 rfl rfl ?_
        refine G_dup dX10_reduce_27 rfl ?_
        refine G_get 60 clX10 (y2_0) fl_X10_321 dX10_reduce_28 (by decide) rfl rfl ?_
        refine G_iconst (v := 1) dX10_reduce_31 (by decide) ?_
        refine G_isub dX10_reduce_32 ?_
        refine G_putI 60 clX10 (y2_0) fl_X10_321 dX10_reduce_33 (by decide) rfl rfl rfl ?_
        refine G_m (fun M3 => ?_)
        refine G_aload_n 0 dX10_reduce_36 rfl rfl ?_
        refine G_aload_n 0 dX10_reduce_37 rfl rfl ?_
        refine G_get 61 clX10 (y2_0) fl_X10_151 dX10_reduce_38 (by decide) rfl rfl ?_
        refine G_aload_n 0 dX10_reduce_41 rfl rfl ?_
        refine G_get 60 clX10 (y2_0) fl_X10_321 dX10_reduce_42 (by decide) rfl rfl ?_
        refine G_iald (y2_45) dX10_reduce_45 ?_
        refine G_iconst (v := 0) dX10_reduce_46 (by decide) ?_
        refine G_cVv (As := [.int (M3.1 45 (tn (M3.1 0 60))), .int 0]) (rest := []) (ok_X10_emit (M3.1 45 (tn (M3.1 0 60))) (0 : Int32) M3) rfl (y2_0) rfl mv_X10_327 dX10_reduce_47 rfl rfl (Nat.le_of_ble_eq_true rfl) (g_fitN (by decide) (by decide)) (fun r5 M4 => ?_)
        refine G_goto (tgt := 0) dX10_reduce_50 (by decide) ?_
        exact G_sub [0, 1, 2] rfl (ih x1 x2 M4)
def f_X10_reduce (a1 : Int32) (a2 : Int32) (M : gM) : Option (Unit × gM) := (f_X10_reduce_0 FU a1 a2 M)
set_option maxRecDepth 100000 in
set_option maxHeartbeats 4000000 in
theorem ok_X10_reduce (a1 : Int32) (a2 : Int32) (M : gM) : g_met Y2 yX10_reduce jX10_reduce g_ev (fun Z => [.ref (Z.2.1 0), .int a1, .int a2]) M (f_X10_reduce a1 a2 M) := by
  refine g_enter (fun Z => [(0, .ref (Z.2.1 0)), (1, .int a1), (2, .int a2)]) (by decide) rfl (fun Z => Nat.le_of_ble_eq_true rfl) (fun Z => rfl) (fun X => ?_)
  rw [f_X10_reduce]
  exact G_sub [0, 1, 2] rfl (o_X10_reduce_0 FU a1 a2 M)
-- X10_await
def f_X10_await (a1 : Int32) (M : gM) : Option (Unit × gM) := (g_ck (M.1 0 60) 500 (g_m (sI M 45 (tn (M.1 0 60)) a1) (fun M1 => (g_m (sI M1 0 60 ((M1.1 0 60) + (1 : Int32))) (fun M2 => (some ((), M2)))))))
set_option maxRecDepth 100000 in
set_option maxHeartbeats 4000000 in
theorem ok_X10_await (a1 : Int32) (M : gM) : g_met Y2 yX10_await jX10_await g_ev (fun Z => [.ref (Z.2.1 0), .int a1]) M (f_X10_await a1 M) := by
  refine g_enter (fun Z => [(0, .ref (Z.2.1 0)), (1, .int a1)]) (by decide) rfl (fun Z => Nat.le_of_ble_eq_true rfl) (fun Z => rfl) (fun X => ?_)
  rw [f_X10_await]
  refine G_aload_n 0 dX10_await_0 rfl rfl ?_
  refine G_get 61 clX10 (y2_0) fl_X10_151 dX10_await_1 (by decide) rfl rfl ?_
  refine G_aload_n 0 dX10_await_4 rfl rfl ?_
  refine G_get 60 clX10 (y2_0) fl_X10_321 dX10_await_5 (by decide) rfl rfl ?_
  refine G_iload_n 1 dX10_await_8 rfl rfl ?_
  refine G_iast (y2_45) dX10_await_9 ?_
  refine G_m (fun M1 => ?_)
  refine G_aload_n 0 dX10_await_10 rfl rfl ?_
  refine G_dup dX10_await_11 rfl ?_
  refine G_get 60 clX10 (y2_0) fl_X10_321 dX10_await_12 (by decide) rfl rfl ?_
  refine G_iconst (v := 1) dX10_await_15 (by decide) ?_
  refine G_iadd dX10_await_16 ?_
  refine G_putI 60 clX10 (y2_0) fl_X10_321 dX10_await_17 (by decide) rfl rfl rfl ?_
  refine G_m (fun M2 => ?_)
  exact G_vret rfl dX10_await_20
-- X10_variableOf
def f_X10_variableOf (a0 : Int32) (M : gM) : Option (Int32 × gM) := (if a0 = (13 : Int32) then (some ((0 : Int32), M)) else (if a0 = (4 : Int32) then (some ((1 : Int32), M)) else (if a0 = (3 : Int32) then (some ((2 : Int32), M)) else (if a0 = (14 : Int32) then (some ((3 : Int32), M)) else (if a0 = (15 : Int32) then (some ((4 : Int32), M)) else (if a0 = (16 : Int32) then (some ((5 : Int32), M)) else (some (((-1) : Int32), M))))))))
set_option maxRecDepth 100000 in
set_option maxHeartbeats 4000000 in
theorem ok_X10_variableOf (a0 : Int32) (M : gM) : g_met Y2 yX10_variableOf jX10_variableOf g_ei (fun Z => [.int a0]) M (f_X10_variableOf a0 M) := by
  refine g_enter (fun Z => [(0, .int a0)]) (by decide) rfl (fun Z => Nat.le_of_ble_eq_true rfl) (fun Z => rfl) (fun X => ?_)
  rw [f_X10_variableOf]
  refine G_iload_n 0 dX10_variableOf_0 rfl rfl ?_
  refine G_bipush (v := 13) dX10_variableOf_1 (by decide) ?_
  refine G_icmp_ne (tgt := 10) dX10_variableOf_3 (by decide) ?_ ?_
  · refine G_iload_n 0 dX10_variableOf_10 rfl rfl ?_
    refine G_iconst (v := 4) dX10_variableOf_11 (by decide) ?_
    refine G_icmp_ne (tgt := 19) dX10_variableOf_12 (by decide) ?_ ?_
    · refine G_iload_n 0 dX10_variableOf_19 rfl rfl ?_
      refine G_iconst (v := 3) dX10_variableOf_20 (by decide) ?_
      refine G_icmp_ne (tgt := 28) dX10_variableOf_21 (by decide) ?_ ?_
      · refine G_iload_n 0 dX10_variableOf_28 rfl rfl ?_
        refine G_bipush (v := 14) dX10_variableOf_29 (by decide) ?_
        refine G_icmp_ne (tgt := 38) dX10_variableOf_31 (by decide) ?_ ?_
        · refine G_iload_n 0 dX10_variableOf_38 rfl rfl ?_
          refine G_bipush (v := 15) dX10_variableOf_39 (by decide) ?_
          refine G_icmp_ne (tgt := 48) dX10_variableOf_41 (by decide) ?_ ?_
          · refine G_iload_n 0 dX10_variableOf_48 rfl rfl ?_
            refine G_bipush (v := 16) dX10_variableOf_49 (by decide) ?_
            refine G_icmp_ne (tgt := 58) dX10_variableOf_51 (by decide) ?_ ?_
            · refine G_iconst (v := (-1)) dX10_variableOf_58 (by decide) ?_
              exact G_iret rfl dX10_variableOf_59
            · refine G_iconst (v := 5) dX10_variableOf_54 (by decide) ?_
              refine G_goto (tgt := 59) dX10_variableOf_55 (by decide) ?_
              exact G_iret rfl dX10_variableOf_59
          · refine G_iconst (v := 4) dX10_variableOf_44 (by decide) ?_
            refine G_goto (tgt := 59) dX10_variableOf_45 (by decide) ?_
            exact G_iret rfl dX10_variableOf_59
        · refine G_iconst (v := 3) dX10_variableOf_34 (by decide) ?_
          refine G_goto (tgt := 59) dX10_variableOf_35 (by decide) ?_
          exact G_iret rfl dX10_variableOf_59
      · refine G_iconst (v := 2) dX10_variableOf_24 (by decide) ?_
        refine G_goto (tgt := 59) dX10_variableOf_25 (by decide) ?_
        exact G_iret rfl dX10_variableOf_59
    · refine G_iconst (v := 1) dX10_variableOf_15 (by decide) ?_
      refine G_goto (tgt := 59) dX10_variableOf_16 (by decide) ?_
      exact G_iret rfl dX10_variableOf_59
  · refine G_iconst (v := 0) dX10_variableOf_6 (by decide) ?_
    refine G_goto (tgt := 59) dX10_variableOf_7 (by decide) ?_
    exact G_iret rfl dX10_variableOf_59
-- X10_expr
def f_X10_expr_247 (k24 : Int32 → Int32 → Int32 → gM → Option (Bool × gM)) (x1 : Int32) (x3 : Int32) (s1 : Int32) (M : gM) : Option (Bool × gM) := (g_b (f_X10_await s1 M) (fun r12 M11 => (g_b (f_X10_pass M11) (fun r14 M13 => (if r14 then (k24 x1 (1 : Int32) x3 M13) else (some (false, M13)))))))
set_option maxRecDepth 100000 in
set_option maxHeartbeats 4000000 in
theorem o_X10_expr_247 {X : gX} {k24 : Int32 → Int32 → Int32 → gM → Option (Bool × gM)} (hk24 : ∀ (x1 : Int32) (x2 : Int32) (x3 : Int32) (M : gM), G Y2 jX10_expr X (g_fin g_eb) 24 [(0, .ref (ad X 0)), (1, .int x1), (2, .int x2), (3, .int x3)] [] M (k24 x1 x2 x3 M)) (x1 : Int32) (x3 : Int32) (s1 : Int32) (M : gM) : G Y2 jX10_expr X (g_fin g_eb) 247 [(0, .ref (ad X 0)), (1, .int x1), (3, .int x3)] [.int s1, .ref (ad X 0)] M (f_X10_expr_247 k24 x1 x3 s1 M) := by
  rw [f_X10_expr_247]
  refine G_cVv (As := [.int s1]) (rest := []) (ok_X10_await s1 M) rfl (y2_0) rfl mv_X10_333 dX10_expr_247 rfl rfl (Nat.le_of_ble_eq_true rfl) (g_fitN (by decide) (by decide)) (fun r12 M11 => ?_)
  refine G_aload_n 0 dX10_expr_250 rfl rfl ?_
  refine G_cVb (As := []) (rest := []) (ok_X10_pass M11) rfl (y2_0) rfl mv_X10_301 dX10_expr_251 rfl rfl (Nat.le_of_ble_eq_true rfl) (g_fitN (by decide) (by decide)) (fun r14 M13 => ?_)
  refine G_ifB_ne (tgt := 259) dX10_expr_254 (by decide) ?_ ?_
  · refine G_iconst (v := 1) dX10_expr_259 (by decide) ?_
    refine G_istore_n (lv' := [(2, .int 1), (0, .ref (ad X 0)), (1, .int x1), (3, .int x3)]) dX10_expr_260 rfl (by decide) rfl ?_
    refine G_goto (tgt := 24) dX10_expr_261 (by decide) ?_
    exact G_sub [1, 2, 0, 3] rfl (hk24 x1 (1 : Int32) x3 M13)
  · refine G_iconst (v := 0) dX10_expr_257 (by decide) ?_
    exact G_zret (b := false) rfl dX10_expr_258
def f_X10_expr_226 (k24 : Int32 → Int32 → Int32 → gM → Option (Bool × gM)) (x1 : Int32) (x3 : Int32) (M : gM) : Option (Bool × gM) := (g_b (f_X10_reduce (2 : Int32) (0 : Int32) M) (fun r8 M7 => (g_b (f_X10_isSign (42 : Int32) M7) (fun r10 M9 => (if r10 then (f_X10_expr_247 k24 x1 x3 (4 : Int32) M9) else (f_X10_expr_247 k24 x1 x3 (5 : Int32) M9))))))
set_option maxRecDepth 100000 in
set_option maxHeartbeats 4000000 in
theorem o_X10_expr_226 {X : gX} {k24 : Int32 → Int32 → Int32 → gM → Option (Bool × gM)} (hk24 : ∀ (x1 : Int32) (x2 : Int32) (x3 : Int32) (M : gM), G Y2 jX10_expr X (g_fin g_eb) 24 [(0, .ref (ad X 0)), (1, .int x1), (2, .int x2), (3, .int x3)] [] M (k24 x1 x2 x3 M)) (x1 : Int32) (x3 : Int32) (M : gM) : G Y2 jX10_expr X (g_fin g_eb) 226 [(0, .ref (ad X 0)), (1, .int x1), (3, .int x3)] [] M (f_X10_expr_226 k24 x1 x3 M) := by
  rw [f_X10_expr_226]
  refine G_aload_n 0 dX10_expr_226 rfl rfl ?_
  refine G_iconst (v := 2) dX10_expr_227 (by decide) ?_
  refine G_iconst (v := 0) dX10_expr_228 (by decide) ?_
  refine G_cVv (As := [.int 2, .int 0]) (rest := []) (ok_X10_reduce (2 : Int32) (0 : Int32) M) rfl (y2_0) rfl mv_X10_339 dX10_expr_229 rfl rfl (Nat.le_of_ble_eq_true rfl) (g_fitN (by decide) (by decide)) (fun r8 M7 => ?_)
  refine G_aload_n 0 dX10_expr_232 rfl rfl ?_
  refine G_aload_n 0 dX10_expr_233 rfl rfl ?_
  refine G_bipush (v := 42) dX10_expr_234 (by decide) ?_
  refine G_cVb (As := [.int 42]) (rest := [.ref (ad X 0)]) (ok_X10_isSign (42 : Int32) M7) rfl (y2_0) rfl mv_X10_305 dX10_expr_236 rfl rfl (Nat.le_of_ble_eq_true rfl) (g_fitN (by decide) (by decide)) (fun r10 M9 => ?_)
  refine G_ifB_eq (tgt := 246) dX10_expr_239 (by decide) ?_ ?_
  · refine G_iconst (v := 5) dX10_expr_246 (by decide) ?_
    exact G_sub [0, 1, 2] rfl (o_X10_expr_247 hk24 x1 x3 (5 : Int32) M9)
  · refine G_iconst (v := 4) dX10_expr_242 (by decide) ?_
    refine G_goto (tgt := 247) dX10_expr_243 (by decide) ?_
    exact G_sub [0, 1, 2] rfl (o_X10_expr_247 hk24 x1 x3 (4 : Int32) M9)
def f_X10_expr_303 (k24 : Int32 → Int32 → Int32 → gM → Option (Bool × gM)) (x1 : Int32) (x3 : Int32) (s1 : Int32) (M : gM) : Option (Bool × gM) := (g_b (f_X10_await s1 M) (fun r24 M23 => (g_b (f_X10_pass M23) (fun r26 M25 => (if r26 then (k24 x1 (1 : Int32) x3 M25) else (some (false, M25)))))))
set_option maxRecDepth 100000 in
set_option maxHeartbeats 4000000 in
theorem o_X10_expr_303 {X : gX} {k24 : Int32 → Int32 → Int32 → gM → Option (Bool × gM)} (hk24 : ∀ (x1 : Int32) (x2 : Int32) (x3 : Int32) (M : gM), G Y2 jX10_expr X (g_fin g_eb) 24 [(0, .ref (ad X 0)), (1, .int x1), (2, .int x2), (3, .int x3)] [] M (k24 x1 x2 x3 M)) (x1 : Int32) (x3 : Int32) (s1 : Int32) (M : gM) : G Y2 jX10_expr X (g_fin g_eb) 303 [(0, .ref (ad X 0)), (1, .int x1), (3, .int x3)] [.int s1, .ref (ad X 0)] M (f_X10_expr_303 k24 x1 x3 s1 M) := by
  rw [f_X10_expr_303]
  refine G_cVv (As := [.int s1]) (rest := []) (ok_X10_await s1 M) rfl (y2_0) rfl mv_X10_333 dX10_expr_303 rfl rfl (Nat.le_of_ble_eq_true rfl) (g_fitN (by decide) (by decide)) (fun r24 M23 => ?_)
  refine G_aload_n 0 dX10_expr_306 rfl rfl ?_
  refine G_cVb (As := []) (rest := []) (ok_X10_pass M23) rfl (y2_0) rfl mv_X10_301 dX10_expr_307 rfl rfl (Nat.le_of_ble_eq_true rfl) (g_fitN (by decide) (by decide)) (fun r26 M25 => ?_)
  refine G_ifB_ne (tgt := 315) dX10_expr_310 (by decide) ?_ ?_
  · refine G_iconst (v := 1) dX10_expr_315 (by decide) ?_
    refine G_istore_n (lv' := [(2, .int 1), (0, .ref (ad X 0)), (1, .int x1), (3, .int x3)]) dX10_expr_316 rfl (by decide) rfl ?_
    refine G_goto (tgt := 24) dX10_expr_317 (by decide) ?_
    exact G_sub [1, 2, 0, 3] rfl (hk24 x1 (1 : Int32) x3 M25)
  · refine G_iconst (v := 0) dX10_expr_313 (by decide) ?_
    exact G_zret (b := false) rfl dX10_expr_314
def f_X10_expr_282 (k24 : Int32 → Int32 → Int32 → gM → Option (Bool × gM)) (x1 : Int32) (x3 : Int32) (M : gM) : Option (Bool × gM) := (g_b (f_X10_reduce (1 : Int32) (0 : Int32) M) (fun r20 M19 => (g_b (f_X10_isSign (43 : Int32) M19) (fun r22 M21 => (if r22 then (f_X10_expr_303 k24 x1 x3 (2 : Int32) M21) else (f_X10_expr_303 k24 x1 x3 (3 : Int32) M21))))))
set_option maxRecDepth 100000 in
set_option maxHeartbeats 4000000 in
theorem o_X10_expr_282 {X : gX} {k24 : Int32 → Int32 → Int32 → gM → Option (Bool × gM)} (hk24 : ∀ (x1 : Int32) (x2 : Int32) (x3 : Int32) (M : gM), G Y2 jX10_expr X (g_fin g_eb) 24 [(0, .ref (ad X 0)), (1, .int x1), (2, .int x2), (3, .int x3)] [] M (k24 x1 x2 x3 M)) (x1 : Int32) (x3 : Int32) (M : gM) : G Y2 jX10_expr X (g_fin g_eb) 282 [(0, .ref (ad X 0)), (1, .int x1), (3, .int x3)] [] M (f_X10_expr_282 k24 x1 x3 M) := by
  rw [f_X10_expr_282]
  refine G_aload_n 0 dX10_expr_282 rfl rfl ?_
  refine G_iconst (v := 1) dX10_expr_283 (by decide) ?_
  refine G_iconst (v := 0) dX10_expr_284 (by decide) ?_
  refine G_cVv (As := [.int 1, .int 0]) (rest := []) (ok_X10_reduce (1 : Int32) (0 : Int32) M) rfl (y2_0) rfl mv_X10_339 dX10_expr_285 rfl rfl (Nat.le_of_ble_eq_true rfl) (g_fitN (by decide) (by decide)) (fun r20 M19 => ?_)
  refine G_aload_n 0 dX10_expr_288 rfl rfl ?_
  refine G_aload_n 0 dX10_expr_289 rfl rfl ?_
  refine G_bipush (v := 43) dX10_expr_290 (by decide) ?_
  refine G_cVb (As := [.int 43]) (rest := [.ref (ad X 0)]) (ok_X10_isSign (43 : Int32) M19) rfl (y2_0) rfl mv_X10_305 dX10_expr_292 rfl rfl (Nat.le_of_ble_eq_true rfl) (g_fitN (by decide) (by decide)) (fun r22 M21 => ?_)
  refine G_ifB_eq (tgt := 302) dX10_expr_295 (by decide) ?_ ?_
  · refine G_iconst (v := 3) dX10_expr_302 (by decide) ?_
    exact G_sub [0, 1, 2] rfl (o_X10_expr_303 hk24 x1 x3 (3 : Int32) M21)
  · refine G_iconst (v := 2) dX10_expr_298 (by decide) ?_
    refine G_goto (tgt := 303) dX10_expr_299 (by decide) ?_
    exact G_sub [0, 1, 2] rfl (o_X10_expr_303 hk24 x1 x3 (2 : Int32) M21)
def f_X10_expr_185 (k24 : Int32 → Int32 → Int32 → gM → Option (Bool × gM)) (x1 : Int32) (x3 : Int32) (s1 : Int32) (s2 : Int32) (M : gM) : Option (Bool × gM) := (g_b (f_X10_emit s1 s2 M) (fun r45 M44 => (g_b (f_X10_pass M44) (fun r47 M46 => (if r47 then (g_b (f_X10_reduce (3 : Int32) (0 : Int32) M46) (fun r49 M48 => (k24 x1 (0 : Int32) x3 M48))) else (some (false, M46)))))))
set_option maxRecDepth 100000 in
set_option maxHeartbeats 4000000 in
theorem o_X10_expr_185 {X : gX} {k24 : Int32 → Int32 → Int32 → gM → Option (Bool × gM)} (hk24 : ∀ (x1 : Int32) (x2 : Int32) (x3 : Int32) (M : gM), G Y2 jX10_expr X (g_fin g_eb) 24 [(0, .ref (ad X 0)), (1, .int x1), (2, .int x2), (3, .int x3)] [] M (k24 x1 x2 x3 M)) (x1 : Int32) (x3 : Int32) (s1 : Int32) (s2 : Int32) (M : gM) : G Y2 jX10_expr X (g_fin g_eb) 185 [(0, .ref (ad X 0)), (1, .int x1), (3, .int x3)] [.int s2, .int s1, .ref (ad X 0)] M (f_X10_expr_185 k24 x1 x3 s1 s2 M) := by
  rw [f_X10_expr_185]
  refine G_cVv (As := [.int s1, .int s2]) (rest := []) (ok_X10_emit s1 s2 M) rfl (y2_0) rfl mv_X10_327 dX10_expr_185 rfl rfl (Nat.le_of_ble_eq_true rfl) (g_fitN (by decide) (by decide)) (fun r45 M44 => ?_)
  refine G_aload_n 0 dX10_expr_188 rfl rfl ?_
  refine G_cVb (As := []) (rest := []) (ok_X10_pass M44) rfl (y2_0) rfl mv_X10_301 dX10_expr_189 rfl rfl (Nat.le_of_ble_eq_true rfl) (g_fitN (by decide) (by decide)) (fun r47 M46 => ?_)
  refine G_ifB_ne (tgt := 197) dX10_expr_192 (by decide) ?_ ?_
  · refine G_aload_n 0 dX10_expr_197 rfl rfl ?_
    refine G_iconst (v := 3) dX10_expr_198 (by decide) ?_
    refine G_iconst (v := 0) dX10_expr_199 (by decide) ?_
    refine G_cVv (As := [.int 3, .int 0]) (rest := []) (ok_X10_reduce (3 : Int32) (0 : Int32) M46) rfl (y2_0) rfl mv_X10_339 dX10_expr_200 rfl rfl (Nat.le_of_ble_eq_true rfl) (g_fitN (by decide) (by decide)) (fun r49 M48 => ?_)
    refine G_iconst (v := 0) dX10_expr_203 (by decide) ?_
    refine G_istore_n (lv' := [(2, .int 0), (0, .ref (ad X 0)), (1, .int x1), (3, .int x3)]) dX10_expr_204 rfl (by decide) rfl ?_
    refine G_goto (tgt := 24) dX10_expr_205 (by decide) ?_
    exact G_sub [1, 2, 0, 3] rfl (hk24 x1 (0 : Int32) x3 M48)
  · refine G_iconst (v := 0) dX10_expr_195 (by decide) ?_
    exact G_zret (b := false) rfl dX10_expr_196
def f_X10_expr_166 (k24 : Int32 → Int32 → Int32 → gM → Option (Bool × gM)) (x1 : Int32) (x3 : Int32) (x4 : Int32) (s1 : Int32) (M : gM) : Option (Bool × gM) := (if 0 ≤ x4 then (f_X10_expr_185 k24 x1 x3 s1 x4 M) else (g_ck (M.1 0 8) 2001 (f_X10_expr_185 k24 x1 x3 s1 (M.1 4 (tn (M.1 0 8))) M)))
set_option maxRecDepth 100000 in
set_option maxHeartbeats 4000000 in
theorem o_X10_expr_166 {X : gX} {k24 : Int32 → Int32 → Int32 → gM → Option (Bool × gM)} (hk24 : ∀ (x1 : Int32) (x2 : Int32) (x3 : Int32) (M : gM), G Y2 jX10_expr X (g_fin g_eb) 24 [(0, .ref (ad X 0)), (1, .int x1), (2, .int x2), (3, .int x3)] [] M (k24 x1 x2 x3 M)) (x1 : Int32) (x3 : Int32) (x4 : Int32) (s1 : Int32) (M : gM) : G Y2 jX10_expr X (g_fin g_eb) 166 [(0, .ref (ad X 0)), (1, .int x1), (3, .int x3), (4, .int x4)] [.int s1, .ref (ad X 0)] M (f_X10_expr_166 k24 x1 x3 x4 s1 M) := by
  rw [f_X10_expr_166]
  refine G_iload 3 dX10_expr_166 rfl ?_
  refine G_if_ge (tgt := 183) dX10_expr_168 (by decide) ?_ ?_
  · refine G_iload 3 dX10_expr_183 rfl ?_
    exact G_sub [0, 1, 2] rfl (o_X10_expr_185 hk24 x1 x3 s1 x4 M)
  · refine G_aload_n 0 dX10_expr_171 rfl rfl ?_
    refine G_get 6 clX10 (y2_0) fl_X10_19 dX10_expr_172 (by decide) rfl rfl ?_
    refine G_aload_n 0 dX10_expr_175 rfl rfl ?_
    refine G_get 8 clX10 (y2_0) fl_X10_289 dX10_expr_176 (by decide) rfl rfl ?_
    refine G_iald (y2_4) dX10_expr_179 ?_
    refine G_goto (tgt := 185) dX10_expr_180 (by decide) ?_
    exact G_sub [0, 1, 2] rfl (o_X10_expr_185 hk24 x1 x3 s1 (M.1 4 (tn (M.1 0 8))) M)
def f_X10_expr_155 (k24 : Int32 → Int32 → Int32 → gM → Option (Bool × gM)) (x1 : Int32) (x3 : Int32) (x4 : Int32) (M : gM) : Option (Bool × gM) := (if 0 ≤ x4 then (f_X10_expr_166 k24 x1 x3 x4 (1 : Int32) M) else (f_X10_expr_166 k24 x1 x3 x4 (0 : Int32) M))
set_option maxRecDepth 100000 in
set_option maxHeartbeats 4000000 in
theorem o_X10_expr_155 {X : gX} {k24 : Int32 → Int32 → Int32 → gM → Option (Bool × gM)} (hk24 : ∀ (x1 : Int32) (x2 : Int32) (x3 : Int32) (M : gM), G Y2 jX10_expr X (g_fin g_eb) 24 [(0, .ref (ad X 0)), (1, .int x1), (2, .int x2), (3, .int x3)] [] M (k24 x1 x2 x3 M)) (x1 : Int32) (x3 : Int32) (x4 : Int32) (M : gM) : G Y2 jX10_expr X (g_fin g_eb) 155 [(0, .ref (ad X 0)), (1, .int x1), (3, .int x3), (4, .int x4)] [] M (f_X10_expr_155 k24 x1 x3 x4 M) := by
  rw [f_X10_expr_155]
  refine G_aload_n 0 dX10_expr_155 rfl rfl ?_
  refine G_iload 3 dX10_expr_156 rfl ?_
  refine G_if_ge (tgt := 165) dX10_expr_158 (by decide) ?_ ?_
  · refine G_iconst (v := 1) dX10_expr_165 (by decide) ?_
    exact G_sub [0, 1, 2, 3] rfl (o_X10_expr_166 hk24 x1 x3 x4 (1 : Int32) M)
  · refine G_iconst (v := 0) dX10_expr_161 (by decide) ?_
    refine G_goto (tgt := 166) dX10_expr_162 (by decide) ?_
    exact G_sub [0, 1, 2, 3] rfl (o_X10_expr_166 hk24 x1 x3 x4 (0 : Int32) M)
def f_X10_expr_129 (k24 : Int32 → Int32 → Int32 → gM → Option (Bool × gM)) (x1 : Int32) (x3 : Int32) (s0 : Int32) (M : gM) : Option (Bool × gM) := (g_ck (M.1 0 8) 2001 (if (M.1 2 (tn (M.1 0 8))) = (1 : Int32) then (f_X10_expr_155 k24 x1 x3 s0 M) else (if 0 ≤ s0 then (f_X10_expr_155 k24 x1 x3 s0 M) else (g_b (f_X10_wrong (1 : Int32) M) (fun r51 M50 => (some (r51, M50)))))))
set_option maxRecDepth 100000 in
set_option maxHeartbeats 4000000 in
theorem o_X10_expr_129 {X : gX} {k24 : Int32 → Int32 → Int32 → gM → Option (Bool × gM)} (hk24 : ∀ (x1 : Int32) (x2 : Int32) (x3 : Int32) (M : gM), G Y2 jX10_expr X (g_fin g_eb) 24 [(0, .ref (ad X 0)), (1, .int x1), (2, .int x2), (3, .int x3)] [] M (k24 x1 x2 x3 M)) (x1 : Int32) (x3 : Int32) (s0 : Int32) (M : gM) : G Y2 jX10_expr X (g_fin g_eb) 129 [(0, .ref (ad X 0)), (1, .int x1), (3, .int x3)] [.int s0] M (f_X10_expr_129 k24 x1 x3 s0 M) := by
  rw [f_X10_expr_129]
  refine G_istore (lv' := [(4, .int s0), (0, .ref (ad X 0)), (1, .int x1), (3, .int x3)]) dX10_expr_129 (by decide) rfl ?_
  refine G_aload_n 1 dX10_expr_131 rfl rfl ?_
  refine G_get 4 clX10 (y2_0) fl_X10_13 dX10_expr_132 (by decide) rfl rfl ?_
  refine G_aload_n 1 dX10_expr_135 rfl rfl ?_
  refine G_get 8 clX10 (y2_0) fl_X10_289 dX10_expr_136 (by decide) rfl rfl ?_
  refine G_iald (y2_2) dX10_expr_139 ?_
  refine G_iconst (v := 1) dX10_expr_140 (by decide) ?_
  refine G_icmp_eq (tgt := 155) dX10_expr_141 (by decide) ?_ ?_
  · exact G_sub [1, 2, 3, 0] rfl (o_X10_expr_155 hk24 x1 x3 s0 M)
  · refine G_iload 0 dX10_expr_144 rfl ?_
    refine G_if_ge (tgt := 155) dX10_expr_146 (by decide) ?_ ?_
    · exact G_sub [1, 2, 3, 0] rfl (o_X10_expr_155 hk24 x1 x3 s0 M)
    · refine G_aload_n 1 dX10_expr_149 rfl rfl ?_
      refine G_iconst (v := 1) dX10_expr_150 (by decide) ?_
      refine G_cVb (As := [.int 1]) (rest := []) (ok_X10_wrong (1 : Int32) M) rfl (y2_0) rfl mv_X10_298 dX10_expr_151 rfl rfl (Nat.le_of_ble_eq_true rfl) (g_fitN (by decide) (by decide)) (fun r51 M50 => ?_)
      exact G_zret rfl dX10_expr_154
def f_X10_expr_24 : Nat → Int32 → Int32 → Int32 → gM → Option (Bool × gM)
  | 0, _, _, _, _ => none
  | n + 1, x1, x2, x3, M => (if x3 = 0 then (g_b (f_X10_reduce (1 : Int32) (0 : Int32) M) (fun r4 M3 => (some (true, M3)))) else (if x2 = 0 then (g_b (f_X10_isSign (42 : Int32) M) (fun r6 M5 => (if r6 then (f_X10_expr_226 (f_X10_expr_24 n) x1 x3 M5) else (g_b (f_X10_isSign (47 : Int32) M5) (fun r16 M15 => (if r16 then (f_X10_expr_226 (f_X10_expr_24 n) x1 x3 M15) else (g_b (f_X10_isSign (43 : Int32) M15) (fun r18 M17 => (if r18 then (f_X10_expr_282 (f_X10_expr_24 n) x1 x3 M17) else (g_b (f_X10_isSign (45 : Int32) M17) (fun r28 M27 => (if r28 then (f_X10_expr_282 (f_X10_expr_24 n) x1 x3 M27) else (if x1 ≤ 0 then (f_X10_expr_24 n x1 x2 (0 : Int32) M27) else (g_b (f_X10_isSign (41 : Int32) M27) (fun r30 M29 => (if r30 then (g_b (f_X10_pass M29) (fun r32 M31 => (if r32 then (g_b (f_X10_reduce (1 : Int32) (0 : Int32) M31) (fun r34 M33 => (g_m (sI M33 0 60 ((M33.1 0 60) - (1 : Int32))) (fun M35 => (g_b (f_X10_reduce (3 : Int32) (0 : Int32) M35) (fun r37 M36 => (f_X10_expr_24 n (x1 + (-1)) x2 x3 M36))))))) else (some (false, M31))))) else (g_b (f_X10_wrong (1 : Int32) M29) (fun r39 M38 => (some (r39, M38)))))))))))))))))))) else (g_b (f_X10_isSign (45 : Int32) M) (fun r41 M40 => (if r41 then (g_b (f_X10_pass M40) (fun r61 M60 => (if r61 then (g_b (f_X10_await (6 : Int32) M60) (fun r63 M62 => (f_X10_expr_24 n x1 x2 x3 M62))) else (some (false, M60))))) else (g_b (f_X10_isSign (40 : Int32) M40) (fun r43 M42 => (if r43 then (if x1 = (6 : Int32) then (g_b (f_X10_wrong (2 : Int32) M42) (fun r59 M58 => (some (r59, M58)))) else (g_b (f_X10_pass M42) (fun r55 M54 => (if r55 then (g_b (f_X10_await (0 : Int32) M54) (fun r57 M56 => (f_X10_expr_24 n (x1 + 1) x2 x3 M56))) else (some (false, M54)))))) else (g_ck (M42.1 0 8) 2001 (if (M42.1 2 (tn (M42.1 0 8))) = (3 : Int32) then (g_ck (M42.1 0 8) 2001 (g_b (f_X10_variableOf (M42.1 4 (tn (M42.1 0 8))) M42) (fun r53 M52 => (f_X10_expr_129 (f_X10_expr_24 n) x1 x3 r53 M52)))) else (f_X10_expr_129 (f_X10_expr_24 n) x1 x3 ((-1) : Int32) M42)))))))))))
set_option maxRecDepth 100000 in
set_option maxHeartbeats 4000000 in
theorem o_X10_expr_24 {X : gX} : ∀ (n : Nat) (x1 : Int32) (x2 : Int32) (x3 : Int32) (M : gM), G Y2 jX10_expr X (g_fin g_eb) 24 [(0, .ref (ad X 0)), (1, .int x1), (2, .int x2), (3, .int x3)] [] M (f_X10_expr_24 n x1 x2 x3 M) := by
  intro n
  induction n with
  | zero => intro x1 x2 x3 M; exact G_none
  | succ n ih =>
    intro x1 x2 x3 M
    rw [f_X10_expr_24]
    refine G_iload_n 3 dX10_expr_24 rfl rfl ?_
    refine G_if_eq (tgt := 381) dX10_expr_25 (by decide) ?_ ?_
    · refine G_aload_n 0 dX10_expr_381 rfl rfl ?_
      refine G_iconst (v := 1) dX10_expr_382 (by decide) ?_
      refine G_iconst (v := 0) dX10_expr_383 (by decide) ?_
      refine G_cVv (As := [.int 1, .int 0]) (rest := []) (ok_X10_reduce (1 : Int32) (0 : Int32) M) rfl (y2_0) rfl mv_X10_339 dX10_expr_384 rfl rfl (Nat.le_of_ble_eq_true rfl) (g_fitN (by decide) (by decide)) (fun r4 M3 => ?_)
      refine G_iconst (v := 1) dX10_expr_387 (by decide) ?_
      exact G_zret (b := true) rfl dX10_expr_388
    · refine G_iload_n 2 dX10_expr_28 rfl rfl ?_
      refine G_if_eq (tgt := 208) dX10_expr_29 (by decide) ?_ ?_
      · refine G_aload_n 0 dX10_expr_208 rfl rfl ?_
        refine G_bipush (v := 42) dX10_expr_209 (by decide) ?_
        refine G_cVb (As := [.int 42]) (rest := []) (ok_X10_isSign (42 : Int32) M) rfl (y2_0) rfl mv_X10_305 dX10_expr_211 rfl rfl (Nat.le_of_ble_eq_true rfl) (g_fitN (by decide) (by decide)) (fun r6 M5 => ?_)
        refine G_ifB_ne (tgt := 226) dX10_expr_214 (by decide) ?_ ?_
        · exact G_sub [0, 1, 3] rfl (o_X10_expr_226 ih x1 x3 M5)
        · refine G_aload_n 0 dX10_expr_217 rfl rfl ?_
          refine G_bipush (v := 47) dX10_expr_218 (by decide) ?_
          refine G_cVb (As := [.int 47]) (rest := []) (ok_X10_isSign (47 : Int32) M5) rfl (y2_0) rfl mv_X10_305 dX10_expr_220 rfl rfl (Nat.le_of_ble_eq_true rfl) (g_fitN (by decide) (by decide)) (fun r16 M15 => ?_)
          refine G_ifB_eq (tgt := 264) dX10_expr_223 (by decide) ?_ ?_
          · refine G_aload_n 0 dX10_expr_264 rfl rfl ?_
            refine G_bipush (v := 43) dX10_expr_265 (by decide) ?_
            refine G_cVb (As := [.int 43]) (rest := []) (ok_X10_isSign (43 : Int32) M15) rfl (y2_0) rfl mv_X10_305 dX10_expr_267 rfl rfl (Nat.le_of_ble_eq_true rfl) (g_fitN (by decide) (by decide)) (fun r18 M17 => ?_)
            refine G_ifB_ne (tgt := 282) dX10_expr_270 (by decide) ?_ ?_
            · exact G_sub [0, 1, 3] rfl (o_X10_expr_282 ih x1 x3 M17)
            · refine G_aload_n 0 dX10_expr_273 rfl rfl ?_
              refine G_bipush (v := 45) dX10_expr_274 (by decide) ?_
              refine G_cVb (As := [.int 45]) (rest := []) (ok_X10_isSign (45 : Int32) M17) rfl (y2_0) rfl mv_X10_305 dX10_expr_276 rfl rfl (Nat.le_of_ble_eq_true rfl) (g_fitN (by decide) (by decide)) (fun r28 M27 => ?_)
              refine G_ifB_eq (tgt := 320) dX10_expr_279 (by decide) ?_ ?_
              · refine G_iload_n 1 dX10_expr_320 rfl rfl ?_
                refine G_if_le (tgt := 376) dX10_expr_321 (by decide) ?_ ?_
                · refine G_iconst (v := 0) dX10_expr_376 (by decide) ?_
                  refine G_istore_n (lv' := [(3, .int 0), (0, .ref (ad X 0)), (1, .int x1), (2, .int x2)]) dX10_expr_377 rfl (by decide) rfl ?_
                  refine G_goto (tgt := 24) dX10_expr_378 (by decide) ?_
                  exact G_sub [1, 2, 3, 0] rfl (ih x1 x2 (0 : Int32) M27)
                · refine G_aload_n 0 dX10_expr_324 rfl rfl ?_
                  refine G_bipush (v := 41) dX10_expr_325 (by decide) ?_
                  refine G_cVb (As := [.int 41]) (rest := []) (ok_X10_isSign (41 : Int32) M27) rfl (y2_0) rfl mv_X10_305 dX10_expr_327 rfl rfl (Nat.le_of_ble_eq_true rfl) (g_fitN (by decide) (by decide)) (fun r30 M29 => ?_)
                  refine G_ifB_ne (tgt := 339) dX10_expr_330 (by decide) ?_ ?_
                  · refine G_aload_n 0 dX10_expr_339 rfl rfl ?_
                    refine G_cVb (As := []) (rest := []) (ok_X10_pass M29) rfl (y2_0) rfl mv_X10_301 dX10_expr_340 rfl rfl (Nat.le_of_ble_eq_true rfl) (g_fitN (by decide) (by decide)) (fun r32 M31 => ?_)
                    refine G_ifB_ne (tgt := 348) dX10_expr_343 (by decide) ?_ ?_
                    · refine G_aload_n 0 dX10_expr_348 rfl rfl ?_
                      refine G_iconst (v := 1) dX10_expr_349 (by decide) ?_
                      refine G_iconst (v := 0) dX10_expr_350 (by decide) ?_
                      refine G_cVv (As := [.int 1, .int 0]) (rest := []) (ok_X10_reduce (1 : Int32) (0 : Int32) M31) rfl (y2_0) rfl mv_X10_339 dX10_expr_351 rfl rfl (Nat.le_of_ble_eq_true rfl) (g_fitN (by decide) (by decide)) (fun r34 M33 => ?_)
                      refine G_aload_n 0 dX10_expr_354 rfl rfl ?_
                      refine G_dup dX10_expr_355 rfl ?_
                      refine G_get 60 clX10 (y2_0) fl_X10_321 dX10_expr_356 (by decide) rfl rfl ?_
                      refine G_iconst (v := 1) dX10_expr_359 (by decide) ?_
                      refine G_isub dX10_expr_360 ?_
                      refine G_putI 60 clX10 (y2_0) fl_X10_321 dX10_expr_361 (by decide) rfl rfl rfl ?_
                      refine G_m (fun M35 => ?_)
                      refine G_iinc (v := x1 + (-1)) (lv' := [(1, .int (x1 + (-1))), (0, .ref (ad X 0)), (2, .int x2), (3, .int x3)]) 1 dX10_expr_364 rfl rfl (by decide) rfl ?_
                      refine G_aload_n 1 dX10_expr_367 rfl rfl ?_
                      refine G_iconst (v := 3) dX10_expr_368 (by decide) ?_
                      refine G_iconst (v := 0) dX10_expr_369 (by decide) ?_
                      refine G_cVv (As := [.int 3, .int 0]) (rest := []) (ok_X10_reduce (3 : Int32) (0 : Int32) M35) rfl (y2_0) rfl mv_X10_339 dX10_expr_370 rfl rfl (Nat.le_of_ble_eq_true rfl) (g_fitN (by decide) (by decide)) (fun r37 M36 => ?_)
                      refine G_goto (tgt := 24) dX10_expr_373 (by decide) ?_
                      exact G_sub [1, 0, 2, 3] rfl (ih (x1 + (-1)) x2 x3 M36)
                    · refine G_iconst (v := 0) dX10_expr_346 (by decide) ?_
                      exact G_zret (b := false) rfl dX10_expr_347
                  · refine G_aload_n 0 dX10_expr_333 rfl rfl ?_
                    refine G_iconst (v := 1) dX10_expr_334 (by decide) ?_
                    refine G_cVb (As := [.int 1]) (rest := []) (ok_X10_wrong (1 : Int32) M29) rfl (y2_0) rfl mv_X10_298 dX10_expr_335 rfl rfl (Nat.le_of_ble_eq_true rfl) (g_fitN (by decide) (by decide)) (fun r39 M38 => ?_)
                    exact G_zret rfl dX10_expr_338
              · exact G_sub [0, 1, 3] rfl (o_X10_expr_282 ih x1 x3 M27)
          · exact G_sub [0, 1, 3] rfl (o_X10_expr_226 ih x1 x3 M15)
      · refine G_aload_n 0 dX10_expr_32 rfl rfl ?_
        refine G_bipush (v := 45) dX10_expr_33 (by decide) ?_
        refine G_cVb (As := [.int 45]) (rest := []) (ok_X10_isSign (45 : Int32) M) rfl (y2_0) rfl mv_X10_305 dX10_expr_35 rfl rfl (Nat.le_of_ble_eq_true rfl) (g_fitN (by decide) (by decide)) (fun r41 M40 => ?_)
        refine G_ifB_eq (tgt := 59) dX10_expr_38 (by decide) ?_ ?_
        · refine G_aload_n 0 dX10_expr_59 rfl rfl ?_
          refine G_bipush (v := 40) dX10_expr_60 (by decide) ?_
          refine G_cVb (As := [.int 40]) (rest := []) (ok_X10_isSign (40 : Int32) M40) rfl (y2_0) rfl mv_X10_305 dX10_expr_62 rfl rfl (Nat.le_of_ble_eq_true rfl) (g_fitN (by decide) (by decide)) (fun r43 M42 => ?_)
          refine G_ifB_eq (tgt := 100) dX10_expr_65 (by decide) ?_ ?_
          · refine G_aload_n 0 dX10_expr_100 rfl rfl ?_
            refine G_get 4 clX10 (y2_0) fl_X10_13 dX10_expr_101 (by decide) rfl rfl ?_
            refine G_aload_n 0 dX10_expr_104 rfl rfl ?_
            refine G_get 8 clX10 (y2_0) fl_X10_289 dX10_expr_105 (by decide) rfl rfl ?_
            refine G_iald (y2_2) dX10_expr_108 ?_
            refine G_iconst (v := 3) dX10_expr_109 (by decide) ?_
            refine G_icmp_ne (tgt := 128) dX10_expr_110 (by decide) ?_ ?_
            · refine G_iconst (v := (-1)) dX10_expr_128 (by decide) ?_
              exact G_sub [0, 1, 3] rfl (o_X10_expr_129 ih x1 x3 ((-1) : Int32) M42)
            · refine G_aload_n 0 dX10_expr_113 rfl rfl ?_
              refine G_get 6 clX10 (y2_0) fl_X10_19 dX10_expr_114 (by decide) rfl rfl ?_
              refine G_aload_n 0 dX10_expr_117 rfl rfl ?_
              refine G_get 8 clX10 (y2_0) fl_X10_289 dX10_expr_118 (by decide) rfl rfl ?_
              refine G_iald (y2_4) dX10_expr_121 ?_
              refine G_cSi (As := [.int (M42.1 4 (tn (M42.1 0 8)))]) (rest := []) (ok_X10_variableOf (M42.1 4 (tn (M42.1 0 8))) M42) rfl ms_X10_336 dX10_expr_122 rfl rfl (Nat.le_of_ble_eq_true rfl) (g_fitN (by decide) (by decide)) (fun r53 M52 => ?_)
              refine G_goto (tgt := 129) dX10_expr_125 (by decide) ?_
              exact G_sub [0, 1, 3] rfl (o_X10_expr_129 ih x1 x3 r53 M52)
          · refine G_iload_n 1 dX10_expr_68 rfl rfl ?_
            refine G_bipush (v := 6) dX10_expr_69 (by decide) ?_
            refine G_icmp_ne (tgt := 80) dX10_expr_71 (by decide) ?_ ?_
            · refine G_aload_n 0 dX10_expr_80 rfl rfl ?_
              refine G_cVb (As := []) (rest := []) (ok_X10_pass M42) rfl (y2_0) rfl mv_X10_301 dX10_expr_81 rfl rfl (Nat.le_of_ble_eq_true rfl) (g_fitN (by decide) (by decide)) (fun r55 M54 => ?_)
              refine G_ifB_ne (tgt := 89) dX10_expr_84 (by decide) ?_ ?_
              · refine G_iinc (v := x1 + 1) (lv' := [(1, .int (x1 + 1)), (0, .ref (ad X 0)), (2, .int x2), (3, .int x3)]) 1 dX10_expr_89 rfl rfl (by decide) rfl ?_
                refine G_aload_n 1 dX10_expr_92 rfl rfl ?_
                refine G_iconst (v := 0) dX10_expr_93 (by decide) ?_
                refine G_cVv (As := [.int 0]) (rest := []) (ok_X10_await (0 : Int32) M54) rfl (y2_0) rfl mv_X10_333 dX10_expr_94 rfl rfl (Nat.le_of_ble_eq_true rfl) (g_fitN (by decide) (by decide)) (fun r57 M56 => ?_)
                refine G_goto (tgt := 24) dX10_expr_97 (by decide) ?_
                exact G_sub [1, 0, 2, 3] rfl (ih (x1 + 1) x2 x3 M56)
              · refine G_iconst (v := 0) dX10_expr_87 (by decide) ?_
                exact G_zret (b := false) rfl dX10_expr_88
            · refine G_aload_n 0 dX10_expr_74 rfl rfl ?_
              refine G_iconst (v := 2) dX10_expr_75 (by decide) ?_
              refine G_cVb (As := [.int 2]) (rest := []) (ok_X10_wrong (2 : Int32) M42) rfl (y2_0) rfl mv_X10_298 dX10_expr_76 rfl rfl (Nat.le_of_ble_eq_true rfl) (g_fitN (by decide) (by decide)) (fun r59 M58 => ?_)
              exact G_zret rfl dX10_expr_79
        · refine G_aload_n 0 dX10_expr_41 rfl rfl ?_
          refine G_cVb (As := []) (rest := []) (ok_X10_pass M40) rfl (y2_0) rfl mv_X10_301 dX10_expr_42 rfl rfl (Nat.le_of_ble_eq_true rfl) (g_fitN (by decide) (by decide)) (fun r61 M60 => ?_)
          refine G_ifB_ne (tgt := 50) dX10_expr_45 (by decide) ?_ ?_
          · refine G_aload_n 0 dX10_expr_50 rfl rfl ?_
            refine G_bipush (v := 6) dX10_expr_51 (by decide) ?_
            refine G_cVv (As := [.int 6]) (rest := []) (ok_X10_await (6 : Int32) M60) rfl (y2_0) rfl mv_X10_333 dX10_expr_53 rfl rfl (Nat.le_of_ble_eq_true rfl) (g_fitN (by decide) (by decide)) (fun r63 M62 => ?_)
            refine G_goto (tgt := 24) dX10_expr_56 (by decide) ?_
            exact G_sub [0, 1, 2, 3] rfl (ih x1 x2 x3 M62)
          · refine G_iconst (v := 0) dX10_expr_48 (by decide) ?_
            exact G_zret (b := false) rfl dX10_expr_49
def f_X10_expr (M : gM) : Option (Bool × gM) := (g_ck (M.1 0 14) 2 (g_m (sI M 0 62 (M.1 28 (tn (M.1 0 14)))) (fun M1 => (g_m (sI M1 0 60 (0 : Int32)) (fun M2 => (f_X10_expr_24 FU (0 : Int32) (1 : Int32) (1 : Int32) M2))))))
set_option maxRecDepth 100000 in
set_option maxHeartbeats 4000000 in
theorem ok_X10_expr (M : gM) : g_met Y2 yX10_expr jX10_expr g_eb (fun Z => [.ref (Z.2.1 0)]) M (f_X10_expr M) := by
  refine g_enter (fun Z => [(0, .ref (Z.2.1 0))]) (by decide) rfl (fun Z => Nat.le_of_ble_eq_true rfl) (fun Z => rfl) (fun X => ?_)
  rw [f_X10_expr]
  refine G_aload_n 0 dX10_expr_0 rfl rfl ?_
  refine G_aload_n 0 dX10_expr_1 rfl rfl ?_
  refine G_get 37 clX10 (y2_0) fl_X10_96 dX10_expr_2 (by decide) rfl rfl ?_
  refine G_aload_n 0 dX10_expr_5 rfl rfl ?_
  refine G_get 14 clX10 (y2_0) fl_X10_318 dX10_expr_6 (by decide) rfl rfl ?_
  refine G_iald (y2_28) dX10_expr_9 ?_
  refine G_putI 62 clX10 (y2_0) fl_X10_330 dX10_expr_10 (by decide) rfl rfl rfl ?_
  refine G_m (fun M1 => ?_)
  refine G_aload_n 0 dX10_expr_13 rfl rfl ?_
  refine G_iconst (v := 0) dX10_expr_14 (by decide) ?_
  refine G_putI 60 clX10 (y2_0) fl_X10_321 dX10_expr_15 (by decide) rfl rfl rfl ?_
  refine G_m (fun M2 => ?_)
  refine G_iconst (v := 0) dX10_expr_18 (by decide) ?_
  refine G_istore_n (lv' := [(1, .int 0), (0, .ref (ad X 0))]) dX10_expr_19 rfl (by decide) rfl ?_
  refine G_iconst (v := 1) dX10_expr_20 (by decide) ?_
  refine G_istore_n (lv' := [(2, .int 1), (1, .int 0), (0, .ref (ad X 0))]) dX10_expr_21 rfl (by decide) rfl ?_
  refine G_iconst (v := 1) dX10_expr_22 (by decide) ?_
  refine G_istore_n (lv' := [(3, .int 1), (2, .int 1), (1, .int 0), (0, .ref (ad X 0))]) dX10_expr_23 rfl (by decide) rfl ?_
  exact G_sub [3, 2, 1, 0] rfl (o_X10_expr_24 FU (0 : Int32) (1 : Int32) (1 : Int32) M2)
-- X10_cond
def f_X10_cond_268 (k17 : Int32 → Int32 → gM → Option (Bool × gM)) (x1 : Int32) (x2 : Int32) (M : gM) : Option (Bool × gM) := (if x2 = 0 then (k17 x1 x2 M) else (g_b (f_X10_pass M) (fun r25 M24 => (if r25 then (k17 x1 x2 M24) else (some (false, M24))))))
set_option maxRecDepth 100000 in
set_option maxHeartbeats 4000000 in
theorem o_X10_cond_268 {X : gX} {k17 : Int32 → Int32 → gM → Option (Bool × gM)} (hk17 : ∀ (x1 : Int32) (x2 : Int32) (M : gM), G Y2 jX10_cond X (g_fin g_eb) 17 [(0, .ref (ad X 0)), (1, .int x1), (2, .int x2)] [] M (k17 x1 x2 M)) (x1 : Int32) (x2 : Int32) (M : gM) : G Y2 jX10_cond X (g_fin g_eb) 268 [(0, .ref (ad X 0)), (1, .int x1), (2, .int x2)] [] M (f_X10_cond_268 k17 x1 x2 M) := by
  rw [f_X10_cond_268]
  refine G_iload_n 2 dX10_cond_268 rfl rfl ?_
  refine G_if_eq (tgt := 281) dX10_cond_269 (by decide) ?_ ?_
  · refine G_goto (tgt := 17) dX10_cond_281 (by decide) ?_
    exact G_sub [0, 1, 2] rfl (hk17 x1 x2 M)
  · refine G_aload_n 0 dX10_cond_272 rfl rfl ?_
    refine G_cVb (As := []) (rest := []) (ok_X10_pass M) rfl (y2_0) rfl mv_X10_301 dX10_cond_273 rfl rfl (Nat.le_of_ble_eq_true rfl) (g_fitN (by decide) (by decide)) (fun r25 M24 => ?_)
    refine G_ifB_ne (tgt := 281) dX10_cond_276 (by decide) ?_ ?_
    · refine G_goto (tgt := 17) dX10_cond_281 (by decide) ?_
      exact G_sub [0, 1, 2] rfl (hk17 x1 x2 M24)
    · refine G_iconst (v := 0) dX10_cond_279 (by decide) ?_
      exact G_zret (b := false) rfl dX10_cond_280
def f_X10_cond_255 (k17 : Int32 → Int32 → gM → Option (Bool × gM)) (x1 : Int32) (s0 : Int32) (M : gM) : Option (Bool × gM) := (g_b (f_X10_isWord (12 : Int32) M) (fun r23 M22 => (if r23 then (f_X10_cond_268 k17 (x1 + 1) s0 M22) else (f_X10_cond_268 k17 x1 s0 M22))))
set_option maxRecDepth 100000 in
set_option maxHeartbeats 4000000 in
theorem o_X10_cond_255 {X : gX} {k17 : Int32 → Int32 → gM → Option (Bool × gM)} (hk17 : ∀ (x1 : Int32) (x2 : Int32) (M : gM), G Y2 jX10_cond X (g_fin g_eb) 17 [(0, .ref (ad X 0)), (1, .int x1), (2, .int x2)] [] M (k17 x1 x2 M)) (x1 : Int32) (s0 : Int32) (M : gM) : G Y2 jX10_cond X (g_fin g_eb) 255 [(0, .ref (ad X 0)), (1, .int x1)] [.int s0] M (f_X10_cond_255 k17 x1 s0 M) := by
  rw [f_X10_cond_255]
  refine G_istore_n (lv' := [(2, .int s0), (0, .ref (ad X 0)), (1, .int x1)]) dX10_cond_255 rfl (by decide) rfl ?_
  refine G_aload_n 1 dX10_cond_256 rfl rfl ?_
  refine G_bipush (v := 12) dX10_cond_257 (by decide) ?_
  refine G_cVb (As := [.int 12]) (rest := []) (ok_X10_isWord (12 : Int32) M) rfl (y2_0) rfl mv_X10_345 dX10_cond_259 rfl rfl (Nat.le_of_ble_eq_true rfl) (g_fitN (by decide) (by decide)) (fun r23 M22 => ?_)
  refine G_ifB_eq (tgt := 268) dX10_cond_262 (by decide) ?_ ?_
  · exact G_sub [1, 2, 0] rfl (o_X10_cond_268 hk17 x1 s0 M22)
  · refine G_iinc (v := x1 + 1) (lv' := [(1, .int (x1 + 1)), (2, .int s0), (0, .ref (ad X 0))]) 2 dX10_cond_265 rfl rfl (by decide) rfl ?_
    exact G_sub [2, 0, 1] rfl (o_X10_cond_268 hk17 (x1 + 1) s0 M22)
def f_X10_cond_250 (k255 : Int32 → Int32 → gM → Option (Bool × gM)) (x1 : Int32) (M : gM) : Option (Bool × gM) := (k255 x1 (1 : Int32) M)
set_option maxRecDepth 100000 in
set_option maxHeartbeats 4000000 in
theorem o_X10_cond_250 {X : gX} {k255 : Int32 → Int32 → gM → Option (Bool × gM)} (hk255 : ∀ (x1 : Int32) (s0 : Int32) (M : gM), G Y2 jX10_cond X (g_fin g_eb) 255 [(0, .ref (ad X 0)), (1, .int x1)] [.int s0] M (k255 x1 s0 M)) (x1 : Int32) (M : gM) : G Y2 jX10_cond X (g_fin g_eb) 250 [(0, .ref (ad X 0)), (1, .int x1)] [] M (f_X10_cond_250 k255 x1 M) := by
  rw [f_X10_cond_250]
  refine G_iconst (v := 1) dX10_cond_250 (by decide) ?_
  refine G_goto (tgt := 255) dX10_cond_251 (by decide) ?_
  exact G_sub [0, 1] rfl (hk255 x1 (1 : Int32) M)
def f_X10_cond_145 (k17 : Int32 → Int32 → gM → Option (Bool × gM)) (x1 : Int32) (x3 : Int32) (x4 : Int32) (s0 : Int32) (M : gM) : Option (Bool × gM) := (if s0 = 0 then (g_b (f_X10_wrong (1 : Int32) M) (fun r29 M28 => (some (r29, M28)))) else (g_ck (M.1 0 8) 2001 (g_ck x3 400 (g_m (sI M 33 (tn x3) (M.1 4 (tn (M.1 0 8)))) (fun M11 => (g_b (f_X10_pass M11) (fun r13 M12 => (if r13 then (g_b (f_X10_expr M12) (fun r15 M14 => (if r15 then (g_ck (M14.1 0 14) 2 (g_ck x3 400 (g_m (sI M14 36 (tn x3) (M14.1 28 (tn (M14.1 0 14)))) (fun M16 => (g_ck x3 400 (g_m (sI M16 32 (tn x3) (zb x4)) (fun M17 => (g_ck x3 400 (g_m (sI M17 37 (tn x3) x1) (fun M18 => (g_ck (M18.1 0 14) 2 (g_ck (M18.1 0 14) 2 (g_m (sI M18 31 (tn (M18.1 0 14)) ((M18.1 31 (tn (M18.1 0 14))) + (1 : Int32))) (fun M19 => (g_b (f_X10_isWord (11 : Int32) M19) (fun r21 M20 => (if r21 then (f_X10_cond_250 (f_X10_cond_255 k17) x1 M20) else (g_b (f_X10_isWord (12 : Int32) M20) (fun r27 M26 => (if r27 then (f_X10_cond_250 (f_X10_cond_255 k17) x1 M26) else (f_X10_cond_255 k17 x1 (0 : Int32) M26))))))))))))))))))))) else (some (false, M14))))) else (some (false, M12))))))))))
set_option maxRecDepth 100000 in
set_option maxHeartbeats 4000000 in
theorem o_X10_cond_145 {X : gX} {k17 : Int32 → Int32 → gM → Option (Bool × gM)} (hk17 : ∀ (x1 : Int32) (x2 : Int32) (M : gM), G Y2 jX10_cond X (g_fin g_eb) 17 [(0, .ref (ad X 0)), (1, .int x1), (2, .int x2)] [] M (k17 x1 x2 M)) (x1 : Int32) (x3 : Int32) (x4 : Int32) (s0 : Int32) (M : gM) : G Y2 jX10_cond X (g_fin g_eb) 145 [(0, .ref (ad X 0)), (1, .int x1), (3, .int x3), (4, .int x4)] [.int s0] M (f_X10_cond_145 k17 x1 x3 x4 s0 M) := by
  rw [f_X10_cond_145]
  refine G_istore (lv' := [(5, .int s0), (0, .ref (ad X 0)), (1, .int x1), (3, .int x3), (4, .int x4)]) dX10_cond_145 (by decide) rfl ?_
  refine G_iload 0 dX10_cond_147 rfl ?_
  refine G_if_ne (tgt := 158) dX10_cond_149 (by decide) ?_ ?_
  · refine G_aload_n 1 dX10_cond_158 rfl rfl ?_
    refine G_get 42 clX10 (y2_0) fl_X10_112 dX10_cond_159 (by decide) rfl rfl ?_
    refine G_iload_n 3 dX10_cond_162 rfl rfl ?_
    refine G_aload_n 1 dX10_cond_163 rfl rfl ?_
    refine G_get 6 clX10 (y2_0) fl_X10_19 dX10_cond_164 (by decide) rfl rfl ?_
    refine G_aload_n 1 dX10_cond_167 rfl rfl ?_
    refine G_get 8 clX10 (y2_0) fl_X10_289 dX10_cond_168 (by decide) rfl rfl ?_
    refine G_iald (y2_4) dX10_cond_171 ?_
    refine G_iast (y2_33) dX10_cond_172 ?_
    refine G_m (fun M11 => ?_)
    refine G_aload_n 1 dX10_cond_173 rfl rfl ?_
    refine G_cVb (As := []) (rest := []) (ok_X10_pass M11) rfl (y2_0) rfl mv_X10_301 dX10_cond_174 rfl rfl (Nat.le_of_ble_eq_true rfl) (g_fitN (by decide) (by decide)) (fun r13 M12 => ?_)
    refine G_ifB_eq (tgt := 187) dX10_cond_177 (by decide) ?_ ?_
    · refine G_iconst (v := 0) dX10_cond_187 (by decide) ?_
      exact G_zret (b := false) rfl dX10_cond_188
    · refine G_aload_n 1 dX10_cond_180 rfl rfl ?_
      refine G_cVb (As := []) (rest := []) (ok_X10_expr M12) rfl (y2_0) rfl mv_X10_348 dX10_cond_181 rfl rfl (Nat.le_of_ble_eq_true rfl) (g_fitN (by decide) (by decide)) (fun r15 M14 => ?_)
      refine G_ifB_ne (tgt := 189) dX10_cond_184 (by decide) ?_ ?_
      · refine G_aload_n 1 dX10_cond_189 rfl rfl ?_
        refine G_get 45 clX10 (y2_0) fl_X10_121 dX10_cond_190 (by decide) rfl rfl ?_
        refine G_iload_n 3 dX10_cond_193 rfl rfl ?_
        refine G_aload_n 1 dX10_cond_194 rfl rfl ?_
        refine G_get 37 clX10 (y2_0) fl_X10_96 dX10_cond_195 (by decide) rfl rfl ?_
        refine G_aload_n 1 dX10_cond_198 rfl rfl ?_
        refine G_get 14 clX10 (y2_0) fl_X10_318 dX10_cond_199 (by decide) rfl rfl ?_
        refine G_iald (y2_28) dX10_cond_202 ?_
        refine G_iast (y2_36) dX10_cond_203 ?_
        refine G_m (fun M16 => ?_)
        refine G_aload_n 1 dX10_cond_204 rfl rfl ?_
        refine G_get 41 clX10 (y2_0) fl_X10_108 dX10_cond_205 (by decide) rfl rfl ?_
        refine G_iload_n 3 dX10_cond_208 rfl rfl ?_
        refine G_iload 4 dX10_cond_209 rfl ?_
        refine G_zast (y2_32) dX10_cond_211 ?_
        refine G_m (fun M17 => ?_)
        refine G_aload_n 1 dX10_cond_212 rfl rfl ?_
        refine G_get 46 clX10 (y2_0) fl_X10_124 dX10_cond_213 (by decide) rfl rfl ?_
        refine G_iload_n 3 dX10_cond_216 rfl rfl ?_
        refine G_iload_n 2 dX10_cond_217 rfl rfl ?_
        refine G_iast (y2_37) dX10_cond_218 ?_
        refine G_m (fun M18 => ?_)
        refine G_aload_n 1 dX10_cond_219 rfl rfl ?_
        refine G_get 40 clX10 (y2_0) fl_X10_105 dX10_cond_220 (by decide) rfl rfl ?_
        refine G_aload_n 1 dX10_cond_223 rfl rfl ?_
        refine G_get 14 clX10 (y2_0) fl_X10_318 dX10_cond_224 (by decide) rfl rfl ?_
        refine G_dup2 dX10_cond_227 rfl rfl ?_
        refine G_iald (y2_31) dX10_cond_228 ?_
        refine G_iconst (v := 1) dX10_cond_229 (by decide) ?_
        refine G_iadd dX10_cond_230 ?_
        refine G_iast (y2_31) dX10_cond_231 ?_
        refine G_m (fun M19 => ?_)
        refine G_aload_n 1 dX10_cond_232 rfl rfl ?_
        refine G_bipush (v := 11) dX10_cond_233 (by decide) ?_
        refine G_cVb (As := [.int 11]) (rest := []) (ok_X10_isWord (11 : Int32) M19) rfl (y2_0) rfl mv_X10_345 dX10_cond_235 rfl rfl (Nat.le_of_ble_eq_true rfl) (g_fitN (by decide) (by decide)) (fun r21 M20 => ?_)
        refine G_ifB_ne (tgt := 250) dX10_cond_238 (by decide) ?_ ?_
        · exact G_sub [1, 2] rfl (o_X10_cond_250 (o_X10_cond_255 hk17) x1 M20)
        · refine G_aload_n 1 dX10_cond_241 rfl rfl ?_
          refine G_bipush (v := 12) dX10_cond_242 (by decide) ?_
          refine G_cVb (As := [.int 12]) (rest := []) (ok_X10_isWord (12 : Int32) M20) rfl (y2_0) rfl mv_X10_345 dX10_cond_244 rfl rfl (Nat.le_of_ble_eq_true rfl) (g_fitN (by decide) (by decide)) (fun r27 M26 => ?_)
          refine G_ifB_eq (tgt := 254) dX10_cond_247 (by decide) ?_ ?_
          · refine G_iconst (v := 0) dX10_cond_254 (by decide) ?_
            exact G_sub [1, 2] rfl (o_X10_cond_255 hk17 x1 (0 : Int32) M26)
          · exact G_sub [1, 2] rfl (o_X10_cond_250 (o_X10_cond_255 hk17) x1 M26)
      · refine G_iconst (v := 0) dX10_cond_187 (by decide) ?_
        exact G_zret (b := false) rfl dX10_cond_188
  · refine G_aload_n 1 dX10_cond_152 rfl rfl ?_
    refine G_iconst (v := 1) dX10_cond_153 (by decide) ?_
    refine G_cVb (As := [.int 1]) (rest := []) (ok_X10_wrong (1 : Int32) M) rfl (y2_0) rfl mv_X10_298 dX10_cond_154 rfl rfl (Nat.le_of_ble_eq_true rfl) (g_fitN (by decide) (by decide)) (fun r29 M28 => ?_)
    exact G_zret rfl dX10_cond_157
def f_X10_cond_140 (k145 : Int32 → Int32 → Int32 → Int32 → gM → Option (Bool × gM)) (x1 : Int32) (x3 : Int32) (x4 : Int32) (M : gM) : Option (Bool × gM) := (k145 x1 x3 x4 (1 : Int32) M)
set_option maxRecDepth 100000 in
set_option maxHeartbeats 4000000 in
theorem o_X10_cond_140 {X : gX} {k145 : Int32 → Int32 → Int32 → Int32 → gM → Option (Bool × gM)} (hk145 : ∀ (x1 : Int32) (x3 : Int32) (x4 : Int32) (s0 : Int32) (M : gM), G Y2 jX10_cond X (g_fin g_eb) 145 [(0, .ref (ad X 0)), (1, .int x1), (3, .int x3), (4, .int x4)] [.int s0] M (k145 x1 x3 x4 s0 M)) (x1 : Int32) (x3 : Int32) (x4 : Int32) (M : gM) : G Y2 jX10_cond X (g_fin g_eb) 140 [(0, .ref (ad X 0)), (1, .int x1), (3, .int x3), (4, .int x4)] [] M (f_X10_cond_140 k145 x1 x3 x4 M) := by
  rw [f_X10_cond_140]
  refine G_iconst (v := 1) dX10_cond_140 (by decide) ?_
  refine G_goto (tgt := 145) dX10_cond_141 (by decide) ?_
  exact G_sub [0, 1, 2, 3] rfl (hk145 x1 x3 x4 (1 : Int32) M)
def f_X10_cond_34 (k17 : Int32 → Int32 → gM → Option (Bool × gM)) : Nat → Int32 → Int32 → Int32 → gM → Option (Bool × gM)
  | 0, _, _, _, _ => none
  | n + 1, x1, x3, x4, M => (g_b (f_X10_isWord (10 : Int32) M) (fun r4 M3 => (if r4 then (g_b (f_X10_pass M3) (fun r37 M36 => (if r37 then (if x4 = 0 then (f_X10_cond_34 k17 n x1 x3 (1 : Int32) M36) else (f_X10_cond_34 k17 n x1 x3 (0 : Int32) M36)) else (some (false, M36))))) else (g_b (f_X10_expr M3) (fun r6 M5 => (if r6 then (g_ck x3 400 (g_m (sI M5 34 (tn x3) (M5.1 0 62)) (fun M7 => (g_ck (M7.1 0 14) 2 (g_ck x3 400 (g_m (sI M7 35 (tn x3) (M7.1 28 (tn (M7.1 0 14)))) (fun M8 => (g_b (f_X10_isSign (300 : Int32) M8) (fun r10 M9 => (if r10 then (f_X10_cond_140 (f_X10_cond_145 k17) x1 x3 x4 M9) else (g_b (f_X10_isSign (301 : Int32) M9) (fun r31 M30 => (if r31 then (f_X10_cond_140 (f_X10_cond_145 k17) x1 x3 x4 M30) else (g_b (f_X10_isSign (302 : Int32) M30) (fun r33 M32 => (if r33 then (f_X10_cond_140 (f_X10_cond_145 k17) x1 x3 x4 M32) else (g_b (f_X10_isSign (60 : Int32) M32) (fun r35 M34 => (if r35 then (f_X10_cond_140 (f_X10_cond_145 k17) x1 x3 x4 M34) else (f_X10_cond_145 k17 x1 x3 x4 (0 : Int32) M34)))))))))))))))))))) else (some (false, M5))))))))
set_option maxRecDepth 100000 in
set_option maxHeartbeats 4000000 in
theorem o_X10_cond_34 {X : gX} {k17 : Int32 → Int32 → gM → Option (Bool × gM)} (hk17 : ∀ (x1 : Int32) (x2 : Int32) (M : gM), G Y2 jX10_cond X (g_fin g_eb) 17 [(0, .ref (ad X 0)), (1, .int x1), (2, .int x2)] [] M (k17 x1 x2 M)) : ∀ (n : Nat) (x1 : Int32) (x3 : Int32) (x4 : Int32) (M : gM), G Y2 jX10_cond X (g_fin g_eb) 34 [(0, .ref (ad X 0)), (1, .int x1), (3, .int x3), (4, .int x4)] [] M (f_X10_cond_34 k17 n x1 x3 x4 M) := by
  intro n
  induction n with
  | zero => intro x1 x3 x4 M; exact G_none
  | succ n ih =>
    intro x1 x3 x4 M
    rw [f_X10_cond_34]
    refine G_aload_n 0 dX10_cond_34 rfl rfl ?_
    refine G_bipush (v := 10) dX10_cond_35 (by decide) ?_
    refine G_cVb (As := [.int 10]) (rest := []) (ok_X10_isWord (10 : Int32) M) rfl (y2_0) rfl mv_X10_345 dX10_cond_37 rfl rfl (Nat.le_of_ble_eq_true rfl) (g_fitN (by decide) (by decide)) (fun r4 M3 => ?_)
    refine G_ifB_eq (tgt := 67) dX10_cond_40 (by decide) ?_ ?_
    · refine G_aload_n 0 dX10_cond_67 rfl rfl ?_
      refine G_cVb (As := []) (rest := []) (ok_X10_expr M3) rfl (y2_0) rfl mv_X10_348 dX10_cond_68 rfl rfl (Nat.le_of_ble_eq_true rfl) (g_fitN (by decide) (by decide)) (fun r6 M5 => ?_)
      refine G_ifB_ne (tgt := 76) dX10_cond_71 (by decide) ?_ ?_
      · refine G_aload_n 0 dX10_cond_76 rfl rfl ?_
        refine G_get 43 clX10 (y2_0) fl_X10_115 dX10_cond_77 (by decide) rfl rfl ?_
        refine G_iload_n 2 dX10_cond_80 rfl rfl ?_
        refine G_aload_n 0 dX10_cond_81 rfl rfl ?_
        refine G_get 62 clX10 (y2_0) fl_X10_330 dX10_cond_82 (by decide) rfl rfl ?_
        refine G_iast (y2_34) dX10_cond_85 ?_
        refine G_m (fun M7 => ?_)
        refine G_aload_n 0 dX10_cond_86 rfl rfl ?_
        refine G_get 44 clX10 (y2_0) fl_X10_118 dX10_cond_87 (by decide) rfl rfl ?_
        refine G_iload_n 2 dX10_cond_90 rfl rfl ?_
        refine G_aload_n 0 dX10_cond_91 rfl rfl ?_
        refine G_get 37 clX10 (y2_0) fl_X10_96 dX10_cond_92 (by decide) rfl rfl ?_
        refine G_aload_n 0 dX10_cond_95 rfl rfl ?_
        refine G_get 14 clX10 (y2_0) fl_X10_318 dX10_cond_96 (by decide) rfl rfl ?_
        refine G_iald (y2_28) dX10_cond_99 ?_
        refine G_iast (y2_35) dX10_cond_100 ?_
        refine G_m (fun M8 => ?_)
        refine G_aload_n 0 dX10_cond_101 rfl rfl ?_
        refine G_sipush (v := 300) dX10_cond_102 (by decide) ?_
        refine G_cVb (As := [.int 300]) (rest := []) (ok_X10_isSign (300 : Int32) M8) rfl (y2_0) rfl mv_X10_305 dX10_cond_105 rfl rfl (Nat.le_of_ble_eq_true rfl) (g_fitN (by decide) (by decide)) (fun r10 M9 => ?_)
        refine G_ifB_ne (tgt := 140) dX10_cond_108 (by decide) ?_ ?_
        · exact G_sub [0, 1, 2, 3] rfl (o_X10_cond_140 (o_X10_cond_145 hk17) x1 x3 x4 M9)
        · refine G_aload_n 0 dX10_cond_111 rfl rfl ?_
          refine G_sipush (v := 301) dX10_cond_112 (by decide) ?_
          refine G_cVb (As := [.int 301]) (rest := []) (ok_X10_isSign (301 : Int32) M9) rfl (y2_0) rfl mv_X10_305 dX10_cond_115 rfl rfl (Nat.le_of_ble_eq_true rfl) (g_fitN (by decide) (by decide)) (fun r31 M30 => ?_)
          refine G_ifB_ne (tgt := 140) dX10_cond_118 (by decide) ?_ ?_
          · exact G_sub [0, 1, 2, 3] rfl (o_X10_cond_140 (o_X10_cond_145 hk17) x1 x3 x4 M30)
          · refine G_aload_n 0 dX10_cond_121 rfl rfl ?_
            refine G_sipush (v := 302) dX10_cond_122 (by decide) ?_
            refine G_cVb (As := [.int 302]) (rest := []) (ok_X10_isSign (302 : Int32) M30) rfl (y2_0) rfl mv_X10_305 dX10_cond_125 rfl rfl (Nat.le_of_ble_eq_true rfl) (g_fitN (by decide) (by decide)) (fun r33 M32 => ?_)
            refine G_ifB_ne (tgt := 140) dX10_cond_128 (by decide) ?_ ?_
            · exact G_sub [0, 1, 2, 3] rfl (o_X10_cond_140 (o_X10_cond_145 hk17) x1 x3 x4 M32)
            · refine G_aload_n 0 dX10_cond_131 rfl rfl ?_
              refine G_bipush (v := 60) dX10_cond_132 (by decide) ?_
              refine G_cVb (As := [.int 60]) (rest := []) (ok_X10_isSign (60 : Int32) M32) rfl (y2_0) rfl mv_X10_305 dX10_cond_134 rfl rfl (Nat.le_of_ble_eq_true rfl) (g_fitN (by decide) (by decide)) (fun r35 M34 => ?_)
              refine G_ifB_eq (tgt := 144) dX10_cond_137 (by decide) ?_ ?_
              · refine G_iconst (v := 0) dX10_cond_144 (by decide) ?_
                exact G_sub [0, 1, 2, 3] rfl (o_X10_cond_145 hk17 x1 x3 x4 (0 : Int32) M34)
              · exact G_sub [0, 1, 2, 3] rfl (o_X10_cond_140 (o_X10_cond_145 hk17) x1 x3 x4 M34)
      · refine G_iconst (v := 0) dX10_cond_74 (by decide) ?_
        exact G_zret (b := false) rfl dX10_cond_75
    · refine G_aload_n 0 dX10_cond_43 rfl rfl ?_
      refine G_cVb (As := []) (rest := []) (ok_X10_pass M3) rfl (y2_0) rfl mv_X10_301 dX10_cond_44 rfl rfl (Nat.le_of_ble_eq_true rfl) (g_fitN (by decide) (by decide)) (fun r37 M36 => ?_)
      refine G_ifB_ne (tgt := 52) dX10_cond_47 (by decide) ?_ ?_
      · refine G_iload 3 dX10_cond_52 rfl ?_
        refine G_if_ne (tgt := 61) dX10_cond_54 (by decide) ?_ ?_
        · refine G_iconst (v := 0) dX10_cond_61 (by decide) ?_
          refine G_istore (lv' := [(4, .int 0), (0, .ref (ad X 0)), (1, .int x1), (3, .int x3)]) dX10_cond_62 (by decide) rfl ?_
          refine G_goto (tgt := 34) dX10_cond_64 (by decide) ?_
          exact G_sub [1, 2, 3, 0] rfl (ih x1 x3 (0 : Int32) M36)
        · refine G_iconst (v := 1) dX10_cond_57 (by decide) ?_
          refine G_goto (tgt := 62) dX10_cond_58 (by decide) ?_
          refine G_istore (lv' := [(4, .int 1), (0, .ref (ad X 0)), (1, .int x1), (3, .int x3)]) dX10_cond_62 (by decide) rfl ?_
          refine G_goto (tgt := 34) dX10_cond_64 (by decide) ?_
          exact G_sub [1, 2, 3, 0] rfl (ih x1 x3 (1 : Int32) M36)
      · refine G_iconst (v := 0) dX10_cond_50 (by decide) ?_
        exact G_zret (b := false) rfl dX10_cond_51
def f_X10_cond_17 : Nat → Int32 → Int32 → gM → Option (Bool × gM)
  | 0, _, _, _ => none
  | n + 1, x1, x2, M => (if x2 = 0 then (some (true, M)) else (g_ck (M.1 0 14) 2 (g_v (M.1 31 (tn (M.1 0 14))) (fun y2 => (f_X10_cond_34 (f_X10_cond_17 n) FU x1 y2 (0 : Int32) M)))))
set_option maxRecDepth 100000 in
set_option maxHeartbeats 4000000 in
theorem o_X10_cond_17 {X : gX} : ∀ (n : Nat) (x1 : Int32) (x2 : Int32) (M : gM), G Y2 jX10_cond X (g_fin g_eb) 17 [(0, .ref (ad X 0)), (1, .int x1), (2, .int x2)] [] M (f_X10_cond_17 n x1 x2 M) := by
  intro n
  induction n with
  | zero => intro x1 x2 M; exact G_none
  | succ n ih =>
    intro x1 x2 M
    rw [f_X10_cond_17]
    refine G_iload_n 2 dX10_cond_17 rfl rfl ?_
    refine G_if_eq (tgt := 284) dX10_cond_18 (by decide) ?_ ?_
    · refine G_iconst (v := 1) dX10_cond_284 (by decide) ?_
      exact G_zret (b := true) rfl dX10_cond_285
    · refine G_aload_n 0 dX10_cond_21 rfl rfl ?_
      refine G_get 40 clX10 (y2_0) fl_X10_105 dX10_cond_22 (by decide) rfl rfl ?_
      refine G_aload_n 0 dX10_cond_25 rfl rfl ?_
      refine G_get 14 clX10 (y2_0) fl_X10_318 dX10_cond_26 (by decide) rfl rfl ?_
      refine G_iald (y2_31) dX10_cond_29 ?_
      refine G_vi (fun y2 => ?_)
      refine G_istore_n (lv' := [(3, .int y2), (0, .ref (ad X 0)), (1, .int x1), (2, .int x2)]) dX10_cond_30 rfl (by decide) rfl ?_
      refine G_iconst (v := 0) dX10_cond_31 (by decide) ?_
      refine G_istore (lv' := [(4, .int 0), (3, .int y2), (0, .ref (ad X 0)), (1, .int x1), (2, .int x2)]) dX10_cond_32 (by decide) rfl ?_
      exact G_sub [2, 3, 1, 0] rfl (o_X10_cond_34 ih FU x1 y2 (0 : Int32) M)
def f_X10_cond (M : gM) : Option (Bool × gM) := (g_ck (M.1 0 14) 2 (g_m (sI M 0 63 (M.1 31 (tn (M.1 0 14)))) (fun M1 => (f_X10_cond_17 FU (0 : Int32) (1 : Int32) M1))))
set_option maxRecDepth 100000 in
set_option maxHeartbeats 4000000 in
theorem ok_X10_cond (M : gM) : g_met Y2 yX10_cond jX10_cond g_eb (fun Z => [.ref (Z.2.1 0)]) M (f_X10_cond M) := by
  refine g_enter (fun Z => [(0, .ref (Z.2.1 0))]) (by decide) rfl (fun Z => Nat.le_of_ble_eq_true rfl) (fun Z => rfl) (fun X => ?_)
  rw [f_X10_cond]
  refine G_aload_n 0 dX10_cond_0 rfl rfl ?_
  refine G_aload_n 0 dX10_cond_1 rfl rfl ?_
  refine G_get 40 clX10 (y2_0) fl_X10_105 dX10_cond_2 (by decide) rfl rfl ?_
  refine G_aload_n 0 dX10_cond_5 rfl rfl ?_
  refine G_get 14 clX10 (y2_0) fl_X10_318 dX10_cond_6 (by decide) rfl rfl ?_
  refine G_iald (y2_31) dX10_cond_9 ?_
  refine G_putI 63 clX10 (y2_0) fl_X10_342 dX10_cond_10 (by decide) rfl rfl rfl ?_
  refine G_m (fun M1 => ?_)
  refine G_iconst (v := 0) dX10_cond_13 (by decide) ?_
  refine G_istore_n (lv' := [(1, .int 0), (0, .ref (ad X 0))]) dX10_cond_14 rfl (by decide) rfl ?_
  refine G_iconst (v := 1) dX10_cond_15 (by decide) ?_
  refine G_istore_n (lv' := [(2, .int 1), (1, .int 0), (0, .ref (ad X 0))]) dX10_cond_16 rfl (by decide) rfl ?_
  exact G_sub [2, 1, 0] rfl (o_X10_cond_17 FU (0 : Int32) (1 : Int32) M1)
-- X10_mayCond
def f_X10_mayCond (M : gM) : Option (Bool × gM) := (g_ck (M.1 0 14) 2 (g_m (sI M 0 63 (M.1 31 (tn (M.1 0 14)))) (fun M1 => (g_b (f_X10_isWord (8 : Int32) M1) (fun r3 M2 => (if r3 then (g_b (f_X10_pass M2) (fun r5 M4 => (if r5 then (g_b (f_X10_cond M4) (fun r7 M6 => (if r7 then (some (true, M6)) else (some (false, M6))))) else (some (false, M4))))) else (some (true, M2))))))))
set_option maxRecDepth 100000 in
set_option maxHeartbeats 4000000 in
theorem ok_X10_mayCond (M : gM) : g_met Y2 yX10_mayCond jX10_mayCond g_eb (fun Z => [.ref (Z.2.1 0)]) M (f_X10_mayCond M) := by
  refine g_enter (fun Z => [(0, .ref (Z.2.1 0))]) (by decide) rfl (fun Z => Nat.le_of_ble_eq_true rfl) (fun Z => rfl) (fun X => ?_)
  rw [f_X10_mayCond]
  refine G_aload_n 0 dX10_mayCond_0 rfl rfl ?_
  refine G_aload_n 0 dX10_mayCond_1 rfl rfl ?_
  refine G_get 40 clX10 (y2_0) fl_X10_105 dX10_mayCond_2 (by decide) rfl rfl ?_
  refine G_aload_n 0 dX10_mayCond_5 rfl rfl ?_
  refine G_get 14 clX10 (y2_0) fl_X10_318 dX10_mayCond_6 (by decide) rfl rfl ?_
  refine G_iald (y2_31) dX10_mayCond_9 ?_
  refine G_putI 63 clX10 (y2_0) fl_X10_342 dX10_mayCond_10 (by decide) rfl rfl rfl ?_
  refine G_m (fun M1 => ?_)
  refine G_aload_n 0 dX10_mayCond_13 rfl rfl ?_
  refine G_bipush (v := 8) dX10_mayCond_14 (by decide) ?_
  refine G_cVb (As := [.int 8]) (rest := []) (ok_X10_isWord (8 : Int32) M1) rfl (y2_0) rfl mv_X10_345 dX10_mayCond_16 rfl rfl (Nat.le_of_ble_eq_true rfl) (g_fitN (by decide) (by decide)) (fun r3 M2 => ?_)
  refine G_ifB_ne (tgt := 24) dX10_mayCond_19 (by decide) ?_ ?_
  · refine G_aload_n 0 dX10_mayCond_24 rfl rfl ?_
    refine G_cVb (As := []) (rest := []) (ok_X10_pass M2) rfl (y2_0) rfl mv_X10_301 dX10_mayCond_25 rfl rfl (Nat.le_of_ble_eq_true rfl) (g_fitN (by decide) (by decide)) (fun r5 M4 => ?_)
    refine G_ifB_eq (tgt := 42) dX10_mayCond_28 (by decide) ?_ ?_
    · refine G_iconst (v := 0) dX10_mayCond_42 (by decide) ?_
      exact G_zret (b := false) rfl dX10_mayCond_43
    · refine G_aload_n 0 dX10_mayCond_31 rfl rfl ?_
      refine G_cVb (As := []) (rest := []) (ok_X10_cond M4) rfl (y2_0) rfl mv_X10_351 dX10_mayCond_32 rfl rfl (Nat.le_of_ble_eq_true rfl) (g_fitN (by decide) (by decide)) (fun r7 M6 => ?_)
      refine G_ifB_eq (tgt := 42) dX10_mayCond_35 (by decide) ?_ ?_
      · refine G_iconst (v := 0) dX10_mayCond_42 (by decide) ?_
        exact G_zret (b := false) rfl dX10_mayCond_43
      · refine G_iconst (v := 1) dX10_mayCond_38 (by decide) ?_
        refine G_goto (tgt := 43) dX10_mayCond_39 (by decide) ?_
        exact G_zret (b := true) rfl dX10_mayCond_43
  · refine G_iconst (v := 1) dX10_mayCond_22 (by decide) ?_
    exact G_zret (b := true) rfl dX10_mayCond_23
-- X10_actOf
def f_X10_actOf_2 : Nat → Int64 → Int32 → gM → Option (Int32 × gM)
  | 0, _, _, _ => none
  | n + 1, x1, x3, M => (g_ck (M.1 0 14) 2 (if (M.1 11 (tn (M.1 0 14))) ≤ x3 then (some (((-1) : Int32), M)) else (g_ck (((6 : Int32) * (M.1 0 14)) + x3) 12 (if (lg_cmp (M.2.1 12 (tn (((6 : Int32) * (M.1 0 14)) + x3))) x1) = 0 then (some (x3, M)) else (f_X10_actOf_2 n x1 (x3 + 1) M)))))
set_option maxRecDepth 100000 in
set_option maxHeartbeats 4000000 in
theorem o_X10_actOf_2 {X : gX} : ∀ (n : Nat) (x1 : Int64) (x3 : Int32) (M : gM), G Y2 jX10_actOf X (g_fin g_ei) 2 [(0, .ref (ad X 0)), (1, .long x1), (3, .int x3)] [] M (f_X10_actOf_2 n x1 x3 M) := by
  intro n
  induction n with
  | zero => intro x1 x3 M; exact G_none
  | succ n ih =>
    intro x1 x3 M
    rw [f_X10_actOf_2]
    refine G_iload_n 2 dX10_actOf_2 rfl rfl ?_
    refine G_aload_n 0 dX10_actOf_3 rfl rfl ?_
    refine G_get 20 clX10 (y2_0) fl_X10_45 dX10_actOf_4 (by decide) rfl rfl ?_
    refine G_aload_n 0 dX10_actOf_7 rfl rfl ?_
    refine G_get 14 clX10 (y2_0) fl_X10_318 dX10_actOf_8 (by decide) rfl rfl ?_
    refine G_iald (y2_11) dX10_actOf_11 ?_
    refine G_icmp_ge (tgt := 42) dX10_actOf_12 (by decide) ?_ ?_
    · refine G_iconst (v := (-1)) dX10_actOf_42 (by decide) ?_
      exact G_iret rfl dX10_actOf_43
    · refine G_aload_n 0 dX10_actOf_15 rfl rfl ?_
      refine G_get 21 clX10 (y2_0) fl_X10_48 dX10_actOf_16 (by decide) rfl rfl ?_
      refine G_bipush (v := 6) dX10_actOf_19 (by decide) ?_
      refine G_aload_n 0 dX10_actOf_21 rfl rfl ?_
      refine G_get 14 clX10 (y2_0) fl_X10_318 dX10_actOf_22 (by decide) rfl rfl ?_
      refine G_imul dX10_actOf_25 ?_
      refine G_iload_n 2 dX10_actOf_26 rfl rfl ?_
      refine G_iadd dX10_actOf_27 ?_
      refine G_lald (y2_12) dX10_actOf_28 ?_
      refine G_lload_n 1 dX10_actOf_29 rfl rfl ?_
      refine G_lcmp dX10_actOf_30 ?_
      refine G_if_ne (tgt := 36) dX10_actOf_31 (by decide) ?_ ?_
      · refine G_iinc (v := x3 + 1) (lv' := [(3, .int (x3 + 1)), (0, .ref (ad X 0)), (1, .long x1)]) 2 dX10_actOf_36 rfl rfl (by decide) rfl ?_
        refine G_goto (tgt := 2) dX10_actOf_39 (by decide) ?_
        exact G_sub [1, 2, 0] rfl (ih x1 (x3 + 1) M)
      · refine G_iload_n 2 dX10_actOf_34 rfl rfl ?_
        exact G_iret rfl dX10_actOf_35
def f_X10_actOf (a1 : Int64) (M : gM) : Option (Int32 × gM) := (f_X10_actOf_2 FU a1 (0 : Int32) M)
set_option maxRecDepth 100000 in
set_option maxHeartbeats 4000000 in
theorem ok_X10_actOf (a1 : Int64) (M : gM) : g_met Y2 yX10_actOf jX10_actOf g_ei (fun Z => [.ref (Z.2.1 0), .long a1]) M (f_X10_actOf a1 M) := by
  refine g_enter (fun Z => [(0, .ref (Z.2.1 0)), (1, .long a1)]) (by decide) rfl (fun Z => Nat.le_of_ble_eq_true rfl) (fun Z => rfl) (fun X => ?_)
  rw [f_X10_actOf]
  refine G_iconst (v := 0) dX10_actOf_0 (by decide) ?_
  refine G_istore_n (lv' := [(3, .int 0), (0, .ref (ad X 0)), (1, .long a1)]) dX10_actOf_1 rfl (by decide) rfl ?_
  exact G_sub [1, 2, 0] rfl (o_X10_actOf_2 FU a1 (0 : Int32) M)
-- X10_tellAct
def f_X10_tellAct_81 (x1 : Int32) (x2 : Int32) (M : gM) : Option (Bool × gM) := (g_ck x2 2001 (g_v (M.2.1 5 (tn x2)) (fun y9 => (g_b (f_X10_takesSigned (9 : Int32) M) (fun r11 M10 => (if r11 then (g_ck x1 12 (g_m (sI M10 13 (tn x1) (M10.1 0 59)) (fun M12 => (g_b (f_X10_takesSigned (1 : Int32) M12) (fun r14 M13 => (if r14 then (g_ck x1 12 (g_m (sI M13 14 (tn x1) (M13.1 0 59)) (fun M15 => (g_b (f_X10_mayCond M15) (fun r17 M16 => (if r17 then (g_ck x1 12 (g_m (sI M16 15 (tn x1) (M16.1 0 63)) (fun M18 => (g_ck (M18.1 0 14) 2 (g_ck x1 12 (g_m (sI M18 16 (tn x1) (M18.1 31 (tn (M18.1 0 14)))) (fun M19 => (g_ck x1 12 (g_m (sL M19 12 (tn x1) y9) (fun M20 => (g_ck (M20.1 0 14) 2 (g_ck (M20.1 0 14) 2 (g_m (sI M20 11 (tn (M20.1 0 14)) ((M20.1 11 (tn (M20.1 0 14))) + (1 : Int32))) (fun M21 => (some (true, M21)))))))))))))))) else (some (false, M16)))))))) else (some (false, M13)))))))) else (some (false, M10))))))))
set_option maxRecDepth 100000 in
set_option maxHeartbeats 4000000 in
theorem o_X10_tellAct_81 {X : gX} (x1 : Int32) (x2 : Int32) (M : gM) : G Y2 jX10_tellAct X (g_fin g_eb) 81 [(0, .ref (ad X 0)), (1, .int x1), (2, .int x2)] [] M (f_X10_tellAct_81 x1 x2 M) := by
  rw [f_X10_tellAct_81]
  refine G_aload_n 0 dX10_tellAct_81 rfl rfl ?_
  refine G_get 7 clX10 (y2_0) fl_X10_22 dX10_tellAct_82 (by decide) rfl rfl ?_
  refine G_iload_n 2 dX10_tellAct_85 rfl rfl ?_
  refine G_lald (y2_5) dX10_tellAct_86 ?_
  refine G_vl (fun y9 => ?_)
  refine G_lstore_n (lv' := [(3, .long y9), (0, .ref (ad X 0)), (1, .int x1), (2, .int x2)]) dX10_tellAct_87 rfl (by decide) rfl ?_
  refine G_aload_n 1 dX10_tellAct_88 rfl rfl ?_
  refine G_bipush (v := 9) dX10_tellAct_89 (by decide) ?_
  refine G_cVb (As := [.int 9]) (rest := []) (ok_X10_takesSigned (9 : Int32) M) rfl (y2_0) rfl mv_X10_357 dX10_tellAct_91 rfl rfl (Nat.le_of_ble_eq_true rfl) (g_fitN (by decide) (by decide)) (fun r11 M10 => ?_)
  refine G_ifB_ne (tgt := 99) dX10_tellAct_94 (by decide) ?_ ?_
  · refine G_aload_n 1 dX10_tellAct_99 rfl rfl ?_
    refine G_get 22 clX10 (y2_0) fl_X10_51 dX10_tellAct_100 (by decide) rfl rfl ?_
    refine G_iload_n 2 dX10_tellAct_103 rfl rfl ?_
    refine G_aload_n 1 dX10_tellAct_104 rfl rfl ?_
    refine G_get 59 clX10 (y2_0) fl_X10_315 dX10_tellAct_105 (by decide) rfl rfl ?_
    refine G_iast (y2_13) dX10_tellAct_108 ?_
    refine G_m (fun M12 => ?_)
    refine G_aload_n 1 dX10_tellAct_109 rfl rfl ?_
    refine G_iconst (v := 1) dX10_tellAct_110 (by decide) ?_
    refine G_cVb (As := [.int 1]) (rest := []) (ok_X10_takesSigned (1 : Int32) M12) rfl (y2_0) rfl mv_X10_357 dX10_tellAct_111 rfl rfl (Nat.le_of_ble_eq_true rfl) (g_fitN (by decide) (by decide)) (fun r14 M13 => ?_)
    refine G_ifB_ne (tgt := 119) dX10_tellAct_114 (by decide) ?_ ?_
    · refine G_aload_n 1 dX10_tellAct_119 rfl rfl ?_
      refine G_get 23 clX10 (y2_0) fl_X10_54 dX10_tellAct_120 (by decide) rfl rfl ?_
      refine G_iload_n 2 dX10_tellAct_123 rfl rfl ?_
      refine G_aload_n 1 dX10_tellAct_124 rfl rfl ?_
      refine G_get 59 clX10 (y2_0) fl_X10_315 dX10_tellAct_125 (by decide) rfl rfl ?_
      refine G_iast (y2_14) dX10_tellAct_128 ?_
      refine G_m (fun M15 => ?_)
      refine G_aload_n 1 dX10_tellAct_129 rfl rfl ?_
      refine G_cVb (As := []) (rest := []) (ok_X10_mayCond M15) rfl (y2_0) rfl mv_X10_360 dX10_tellAct_130 rfl rfl (Nat.le_of_ble_eq_true rfl) (g_fitN (by decide) (by decide)) (fun r17 M16 => ?_)
      refine G_ifB_ne (tgt := 138) dX10_tellAct_133 (by decide) ?_ ?_
      · refine G_aload_n 1 dX10_tellAct_138 rfl rfl ?_
        refine G_get 24 clX10 (y2_0) fl_X10_57 dX10_tellAct_139 (by decide) rfl rfl ?_
        refine G_iload_n 2 dX10_tellAct_142 rfl rfl ?_
        refine G_aload_n 1 dX10_tellAct_143 rfl rfl ?_
        refine G_get 63 clX10 (y2_0) fl_X10_342 dX10_tellAct_144 (by decide) rfl rfl ?_
        refine G_iast (y2_15) dX10_tellAct_147 ?_
        refine G_m (fun M18 => ?_)
        refine G_aload_n 1 dX10_tellAct_148 rfl rfl ?_
        refine G_get 25 clX10 (y2_0) fl_X10_60 dX10_tellAct_149 (by decide) rfl rfl ?_
        refine G_iload_n 2 dX10_tellAct_152 rfl rfl ?_
        refine G_aload_n 1 dX10_tellAct_153 rfl rfl ?_
        refine G_get 40 clX10 (y2_0) fl_X10_105 dX10_tellAct_154 (by decide) rfl rfl ?_
        refine G_aload_n 1 dX10_tellAct_157 rfl rfl ?_
        refine G_get 14 clX10 (y2_0) fl_X10_318 dX10_tellAct_158 (by decide) rfl rfl ?_
        refine G_iald (y2_31) dX10_tellAct_161 ?_
        refine G_iast (y2_16) dX10_tellAct_162 ?_
        refine G_m (fun M19 => ?_)
        refine G_aload_n 1 dX10_tellAct_163 rfl rfl ?_
        refine G_get 21 clX10 (y2_0) fl_X10_48 dX10_tellAct_164 (by decide) rfl rfl ?_
        refine G_iload_n 2 dX10_tellAct_167 rfl rfl ?_
        refine G_lload_n 0 dX10_tellAct_168 rfl rfl ?_
        refine G_last (y2_12) dX10_tellAct_169 ?_
        refine G_m (fun M20 => ?_)
        refine G_aload_n 1 dX10_tellAct_170 rfl rfl ?_
        refine G_get 20 clX10 (y2_0) fl_X10_45 dX10_tellAct_171 (by decide) rfl rfl ?_
        refine G_aload_n 1 dX10_tellAct_174 rfl rfl ?_
        refine G_get 14 clX10 (y2_0) fl_X10_318 dX10_tellAct_175 (by decide) rfl rfl ?_
        refine G_dup2 dX10_tellAct_178 rfl rfl ?_
        refine G_iald (y2_11) dX10_tellAct_179 ?_
        refine G_iconst (v := 1) dX10_tellAct_180 (by decide) ?_
        refine G_iadd dX10_tellAct_181 ?_
        refine G_iast (y2_11) dX10_tellAct_182 ?_
        refine G_m (fun M21 => ?_)
        refine G_iconst (v := 1) dX10_tellAct_183 (by decide) ?_
        exact G_zret (b := true) rfl dX10_tellAct_184
      · refine G_iconst (v := 0) dX10_tellAct_136 (by decide) ?_
        exact G_zret (b := false) rfl dX10_tellAct_137
    · refine G_iconst (v := 0) dX10_tellAct_117 (by decide) ?_
      exact G_zret (b := false) rfl dX10_tellAct_118
  · refine G_iconst (v := 0) dX10_tellAct_97 (by decide) ?_
    exact G_zret (b := false) rfl dX10_tellAct_98
def f_X10_tellAct (M : gM) : Option (Bool × gM) := (g_ck (M.1 0 14) 2 (if (M.1 11 (tn (M.1 0 14))) = (6 : Int32) then (g_b (f_X10_wrong (2 : Int32) M) (fun r25 M24 => (some (r25, M24)))) else (g_b (f_X10_pass M) (fun r2 M1 => (if r2 then (g_ck (M1.1 0 14) 2 (g_v (((6 : Int32) * (M1.1 0 14)) + (M1.1 11 (tn (M1.1 0 14)))) (fun y3 => (g_v (M1.1 0 8) (fun y4 => (g_b (f_X10_takes (0 : Int32) M1) (fun r6 M5 => (if r6 then (g_ck y4 2001 (g_b (f_X10_actOf (M5.2.1 5 (tn y4)) M5) (fun r8 M7 => (if r8 < 0 then (f_X10_tellAct_81 y3 y4 M7) else (g_b (f_X10_tells (3 : Int32) y4 M7) (fun r23 M22 => (f_X10_tellAct_81 y3 y4 M22))))))) else (some (false, M5)))))))))) else (some (false, M1)))))))
set_option maxRecDepth 100000 in
set_option maxHeartbeats 4000000 in
theorem ok_X10_tellAct (M : gM) : g_met Y2 yX10_tellAct jX10_tellAct g_eb (fun Z => [.ref (Z.2.1 0)]) M (f_X10_tellAct M) := by
  refine g_enter (fun Z => [(0, .ref (Z.2.1 0))]) (by decide) rfl (fun Z => Nat.le_of_ble_eq_true rfl) (fun Z => rfl) (fun X => ?_)
  rw [f_X10_tellAct]
  refine G_aload_n 0 dX10_tellAct_0 rfl rfl ?_
  refine G_get 20 clX10 (y2_0) fl_X10_45 dX10_tellAct_1 (by decide) rfl rfl ?_
  refine G_aload_n 0 dX10_tellAct_4 rfl rfl ?_
  refine G_get 14 clX10 (y2_0) fl_X10_318 dX10_tellAct_5 (by decide) rfl rfl ?_
  refine G_iald (y2_11) dX10_tellAct_8 ?_
  refine G_bipush (v := 6) dX10_tellAct_9 (by decide) ?_
  refine G_icmp_ne (tgt := 20) dX10_tellAct_11 (by decide) ?_ ?_
  · refine G_aload_n 0 dX10_tellAct_20 rfl rfl ?_
    refine G_cVb (As := []) (rest := []) (ok_X10_pass M) rfl (y2_0) rfl mv_X10_301 dX10_tellAct_21 rfl rfl (Nat.le_of_ble_eq_true rfl) (g_fitN (by decide) (by decide)) (fun r2 M1 => ?_)
    refine G_ifB_ne (tgt := 29) dX10_tellAct_24 (by decide) ?_ ?_
    · refine G_bipush (v := 6) dX10_tellAct_29 (by decide) ?_
      refine G_aload_n 0 dX10_tellAct_31 rfl rfl ?_
      refine G_get 14 clX10 (y2_0) fl_X10_318 dX10_tellAct_32 (by decide) rfl rfl ?_
      refine G_imul dX10_tellAct_35 ?_
      refine G_aload_n 0 dX10_tellAct_36 rfl rfl ?_
      refine G_get 20 clX10 (y2_0) fl_X10_45 dX10_tellAct_37 (by decide) rfl rfl ?_
      refine G_aload_n 0 dX10_tellAct_40 rfl rfl ?_
      refine G_get 14 clX10 (y2_0) fl_X10_318 dX10_tellAct_41 (by decide) rfl rfl ?_
      refine G_iald (y2_11) dX10_tellAct_44 ?_
      refine G_iadd dX10_tellAct_45 ?_
      refine G_vi (fun y3 => ?_)
      refine G_istore_n (lv' := [(1, .int y3), (0, .ref (ad X 0))]) dX10_tellAct_46 rfl (by decide) rfl ?_
      refine G_aload_n 1 dX10_tellAct_47 rfl rfl ?_
      refine G_get 8 clX10 (y2_0) fl_X10_289 dX10_tellAct_48 (by decide) rfl rfl ?_
      refine G_vi (fun y4 => ?_)
      refine G_istore_n (lv' := [(2, .int y4), (1, .int y3), (0, .ref (ad X 0))]) dX10_tellAct_51 rfl (by decide) rfl ?_
      refine G_aload_n 2 dX10_tellAct_52 rfl rfl ?_
      refine G_iconst (v := 0) dX10_tellAct_53 (by decide) ?_
      refine G_cVb (As := [.int 0]) (rest := []) (ok_X10_takes (0 : Int32) M1) rfl (y2_0) rfl mv_X10_308 dX10_tellAct_54 rfl rfl (Nat.le_of_ble_eq_true rfl) (g_fitN (by decide) (by decide)) (fun r6 M5 => ?_)
      refine G_ifB_ne (tgt := 62) dX10_tellAct_57 (by decide) ?_ ?_
      · refine G_aload_n 2 dX10_tellAct_62 rfl rfl ?_
        refine G_aload_n 2 dX10_tellAct_63 rfl rfl ?_
        refine G_get 7 clX10 (y2_0) fl_X10_22 dX10_tellAct_64 (by decide) rfl rfl ?_
        refine G_iload_n 0 dX10_tellAct_67 rfl rfl ?_
        refine G_lald (y2_5) dX10_tellAct_68 ?_
        refine G_cVi (As := [.long (M5.2.1 5 (tn y4))]) (rest := []) (ok_X10_actOf (M5.2.1 5 (tn y4)) M5) rfl (y2_0) rfl mv_X10_354 dX10_tellAct_69 rfl rfl (Nat.le_of_ble_eq_true rfl) (g_fitN (by decide) (by decide)) (fun r8 M7 => ?_)
        refine G_if_lt (tgt := 81) dX10_tellAct_72 (by decide) ?_ ?_
        · exact G_sub [2, 1, 0] rfl (o_X10_tellAct_81 y3 y4 M7)
        · refine G_aload_n 2 dX10_tellAct_75 rfl rfl ?_
          refine G_iconst (v := 3) dX10_tellAct_76 (by decide) ?_
          refine G_iload_n 0 dX10_tellAct_77 rfl rfl ?_
          refine G_cVv (As := [.int 3, .int y4]) (rest := []) (ok_X10_tells (3 : Int32) y4 M7) rfl (y2_0) rfl mv_X10_311 dX10_tellAct_78 rfl rfl (Nat.le_of_ble_eq_true rfl) (g_fitN (by decide) (by decide)) (fun r23 M22 => ?_)
          exact G_sub [2, 1, 0] rfl (o_X10_tellAct_81 y3 y4 M22)
      · refine G_iconst (v := 0) dX10_tellAct_60 (by decide) ?_
        exact G_zret (b := false) rfl dX10_tellAct_61
    · refine G_iconst (v := 0) dX10_tellAct_27 (by decide) ?_
      exact G_zret (b := false) rfl dX10_tellAct_28
  · refine G_aload_n 0 dX10_tellAct_14 rfl rfl ?_
    refine G_iconst (v := 2) dX10_tellAct_15 (by decide) ?_
    refine G_cVb (As := [.int 2]) (rest := []) (ok_X10_wrong (2 : Int32) M) rfl (y2_0) rfl mv_X10_298 dX10_tellAct_16 rfl rfl (Nat.le_of_ble_eq_true rfl) (g_fitN (by decide) (by decide)) (fun r25 M24 => ?_)
    exact G_zret rfl dX10_tellAct_19
-- X10_tellGusts
def f_X10_tellGusts_185 (x1 : Int32) (M : gM) : Option (Bool × gM) := (g_b (f_X10_mayCond M) (fun r17 M16 => (if r17 then (g_ck x1 16 (g_m (sI M16 22 (tn x1) (M16.1 0 63)) (fun M18 => (g_ck (M18.1 0 14) 2 (g_ck x1 16 (g_m (sI M18 23 (tn x1) (M18.1 31 (tn (M18.1 0 14)))) (fun M19 => (g_ck (M19.1 0 14) 2 (g_ck (M19.1 0 14) 2 (g_m (sI M19 17 (tn (M19.1 0 14)) ((M19.1 17 (tn (M19.1 0 14))) + (1 : Int32))) (fun M20 => (some (true, M20))))))))))))) else (some (false, M16)))))
set_option maxRecDepth 100000 in
set_option maxHeartbeats 4000000 in
theorem o_X10_tellGusts_185 {X : gX} (x1 : Int32) (M : gM) : G Y2 jX10_tellGusts X (g_fin g_eb) 185 [(0, .ref (ad X 0)), (1, .int x1)] [] M (f_X10_tellGusts_185 x1 M) := by
  rw [f_X10_tellGusts_185]
  refine G_aload_n 0 dX10_tellGusts_185 rfl rfl ?_
  refine G_cVb (As := []) (rest := []) (ok_X10_mayCond M) rfl (y2_0) rfl mv_X10_360 dX10_tellGusts_186 rfl rfl (Nat.le_of_ble_eq_true rfl) (g_fitN (by decide) (by decide)) (fun r17 M16 => ?_)
  refine G_ifB_ne (tgt := 194) dX10_tellGusts_189 (by decide) ?_ ?_
  · refine G_aload_n 0 dX10_tellGusts_194 rfl rfl ?_
    refine G_get 31 clX10 (y2_0) fl_X10_78 dX10_tellGusts_195 (by decide) rfl rfl ?_
    refine G_iload_n 1 dX10_tellGusts_198 rfl rfl ?_
    refine G_aload_n 0 dX10_tellGusts_199 rfl rfl ?_
    refine G_get 63 clX10 (y2_0) fl_X10_342 dX10_tellGusts_200 (by decide) rfl rfl ?_
    refine G_iast (y2_22) dX10_tellGusts_203 ?_
    refine G_m (fun M18 => ?_)
    refine G_aload_n 0 dX10_tellGusts_204 rfl rfl ?_
    refine G_get 32 clX10 (y2_0) fl_X10_81 dX10_tellGusts_205 (by decide) rfl rfl ?_
    refine G_iload_n 1 dX10_tellGusts_208 rfl rfl ?_
    refine G_aload_n 0 dX10_tellGusts_209 rfl rfl ?_
    refine G_get 40 clX10 (y2_0) fl_X10_105 dX10_tellGusts_210 (by decide) rfl rfl ?_
    refine G_aload_n 0 dX10_tellGusts_213 rfl rfl ?_
    refine G_get 14 clX10 (y2_0) fl_X10_318 dX10_tellGusts_214 (by decide) rfl rfl ?_
    refine G_iald (y2_31) dX10_tellGusts_217 ?_
    refine G_iast (y2_23) dX10_tellGusts_218 ?_
    refine G_m (fun M19 => ?_)
    refine G_aload_n 0 dX10_tellGusts_219 rfl rfl ?_
    refine G_get 26 clX10 (y2_0) fl_X10_63 dX10_tellGusts_220 (by decide) rfl rfl ?_
    refine G_aload_n 0 dX10_tellGusts_223 rfl rfl ?_
    refine G_get 14 clX10 (y2_0) fl_X10_318 dX10_tellGusts_224 (by decide) rfl rfl ?_
    refine G_dup2 dX10_tellGusts_227 rfl rfl ?_
    refine G_iald (y2_17) dX10_tellGusts_228 ?_
    refine G_iconst (v := 1) dX10_tellGusts_229 (by decide) ?_
    refine G_iadd dX10_tellGusts_230 ?_
    refine G_iast (y2_17) dX10_tellGusts_231 ?_
    refine G_m (fun M20 => ?_)
    refine G_iconst (v := 1) dX10_tellGusts_232 (by decide) ?_
    exact G_zret (b := true) rfl dX10_tellGusts_233
  · refine G_iconst (v := 0) dX10_tellGusts_192 (by decide) ?_
    exact G_zret (b := false) rfl dX10_tellGusts_193
def f_X10_tellGusts_117 (x1 : Int32) (M : gM) : Option (Bool × gM) := (g_b (f_X10_takesSigned (6 : Int32) M) (fun r11 M10 => (if r11 then (g_ck x1 16 (g_m (sI M10 20 (tn x1) (M10.1 0 59)) (fun M12 => (g_b (f_X10_takesSigned (6 : Int32) M12) (fun r14 M13 => (if r14 then (g_ck x1 16 (g_m (sI M13 21 (tn x1) (M13.1 0 59)) (fun M15 => (g_ck x1 16 (g_ck x1 16 (if (M15.1 20 (tn x1)) ≤ (M15.1 21 (tn x1)) then (f_X10_tellGusts_185 x1 M15) else (g_b (f_X10_tells (5 : Int32) ((M15.1 0 8) - (1 : Int32)) M15) (fun r22 M21 => (f_X10_tellGusts_185 x1 M21))))))))) else (some (false, M13)))))))) else (some (false, M10)))))
set_option maxRecDepth 100000 in
set_option maxHeartbeats 4000000 in
theorem o_X10_tellGusts_117 {X : gX} (x1 : Int32) (M : gM) : G Y2 jX10_tellGusts X (g_fin g_eb) 117 [(0, .ref (ad X 0)), (1, .int x1)] [] M (f_X10_tellGusts_117 x1 M) := by
  rw [f_X10_tellGusts_117]
  refine G_aload_n 0 dX10_tellGusts_117 rfl rfl ?_
  refine G_bipush (v := 6) dX10_tellGusts_118 (by decide) ?_
  refine G_cVb (As := [.int 6]) (rest := []) (ok_X10_takesSigned (6 : Int32) M) rfl (y2_0) rfl mv_X10_357 dX10_tellGusts_120 rfl rfl (Nat.le_of_ble_eq_true rfl) (g_fitN (by decide) (by decide)) (fun r11 M10 => ?_)
  refine G_ifB_ne (tgt := 128) dX10_tellGusts_123 (by decide) ?_ ?_
  · refine G_aload_n 0 dX10_tellGusts_128 rfl rfl ?_
    refine G_get 29 clX10 (y2_0) fl_X10_72 dX10_tellGusts_129 (by decide) rfl rfl ?_
    refine G_iload_n 1 dX10_tellGusts_132 rfl rfl ?_
    refine G_aload_n 0 dX10_tellGusts_133 rfl rfl ?_
    refine G_get 59 clX10 (y2_0) fl_X10_315 dX10_tellGusts_134 (by decide) rfl rfl ?_
    refine G_iast (y2_20) dX10_tellGusts_137 ?_
    refine G_m (fun M12 => ?_)
    refine G_aload_n 0 dX10_tellGusts_138 rfl rfl ?_
    refine G_bipush (v := 6) dX10_tellGusts_139 (by decide) ?_
    refine G_cVb (As := [.int 6]) (rest := []) (ok_X10_takesSigned (6 : Int32) M12) rfl (y2_0) rfl mv_X10_357 dX10_tellGusts_141 rfl rfl (Nat.le_of_ble_eq_true rfl) (g_fitN (by decide) (by decide)) (fun r14 M13 => ?_)
    refine G_ifB_ne (tgt := 149) dX10_tellGusts_144 (by decide) ?_ ?_
    · refine G_aload_n 0 dX10_tellGusts_149 rfl rfl ?_
      refine G_get 30 clX10 (y2_0) fl_X10_75 dX10_tellGusts_150 (by decide) rfl rfl ?_
      refine G_iload_n 1 dX10_tellGusts_153 rfl rfl ?_
      refine G_aload_n 0 dX10_tellGusts_154 rfl rfl ?_
      refine G_get 59 clX10 (y2_0) fl_X10_315 dX10_tellGusts_155 (by decide) rfl rfl ?_
      refine G_iast (y2_21) dX10_tellGusts_158 ?_
      refine G_m (fun M15 => ?_)
      refine G_aload_n 0 dX10_tellGusts_159 rfl rfl ?_
      refine G_get 30 clX10 (y2_0) fl_X10_75 dX10_tellGusts_160 (by decide) rfl rfl ?_
      refine G_iload_n 1 dX10_tellGusts_163 rfl rfl ?_
      refine G_iald (y2_21) dX10_tellGusts_164 ?_
      refine G_aload_n 0 dX10_tellGusts_165 rfl rfl ?_
      refine G_get 29 clX10 (y2_0) fl_X10_72 dX10_tellGusts_166 (by decide) rfl rfl ?_
      refine G_iload_n 1 dX10_tellGusts_169 rfl rfl ?_
      refine G_iald (y2_20) dX10_tellGusts_170 ?_
      refine G_icmp_ge (tgt := 185) dX10_tellGusts_171 (by decide) ?_ ?_
      · exact G_sub [0, 1] rfl (o_X10_tellGusts_185 x1 M15)
      · refine G_aload_n 0 dX10_tellGusts_174 rfl rfl ?_
        refine G_iconst (v := 5) dX10_tellGusts_175 (by decide) ?_
        refine G_aload_n 0 dX10_tellGusts_176 rfl rfl ?_
        refine G_get 8 clX10 (y2_0) fl_X10_289 dX10_tellGusts_177 (by decide) rfl rfl ?_
        refine G_iconst (v := 1) dX10_tellGusts_180 (by decide) ?_
        refine G_isub dX10_tellGusts_181 ?_
        refine G_cVv (As := [.int 5, .int ((M15.1 0 8) - (1 : Int32))]) (rest := []) (ok_X10_tells (5 : Int32) ((M15.1 0 8) - (1 : Int32)) M15) rfl (y2_0) rfl mv_X10_311 dX10_tellGusts_182 rfl rfl (Nat.le_of_ble_eq_true rfl) (g_fitN (by decide) (by decide)) (fun r22 M21 => ?_)
        exact G_sub [0, 1] rfl (o_X10_tellGusts_185 x1 M21)
    · refine G_iconst (v := 0) dX10_tellGusts_147 (by decide) ?_
      exact G_zret (b := false) rfl dX10_tellGusts_148
  · refine G_iconst (v := 0) dX10_tellGusts_126 (by decide) ?_
    exact G_zret (b := false) rfl dX10_tellGusts_127
def f_X10_tellGusts (M : gM) : Option (Bool × gM) := (g_ck (M.1 0 14) 2 (if (M.1 17 (tn (M.1 0 14))) = (8 : Int32) then (g_b (f_X10_wrong (2 : Int32) M) (fun r26 M25 => (some (r26, M25)))) else (g_b (f_X10_pass M) (fun r2 M1 => (if r2 then (g_ck (M1.1 0 14) 2 (g_v (((8 : Int32) * (M1.1 0 14)) + (M1.1 17 (tn (M1.1 0 14)))) (fun y3 => (g_b (f_X10_takesInt (0 : Int32) (8 : Int32) M1) (fun r5 M4 => (if r5 then (g_ck y3 16 (g_m (sI M4 18 (tn y3) (M4.1 0 59)) (fun M6 => (g_b (f_X10_takesInt (0 : Int32) (8 : Int32) M6) (fun r8 M7 => (if r8 then (g_ck y3 16 (g_m (sI M7 19 (tn y3) (M7.1 0 59)) (fun M9 => (g_ck y3 16 (g_ck y3 16 (if (M9.1 18 (tn y3)) ≤ (M9.1 19 (tn y3)) then (f_X10_tellGusts_117 y3 M9) else (g_b (f_X10_tells (5 : Int32) ((M9.1 0 8) - (1 : Int32)) M9) (fun r24 M23 => (f_X10_tellGusts_117 y3 M23))))))))) else (some (false, M7)))))))) else (some (false, M4)))))))) else (some (false, M1)))))))
set_option maxRecDepth 100000 in
set_option maxHeartbeats 4000000 in
theorem ok_X10_tellGusts (M : gM) : g_met Y2 yX10_tellGusts jX10_tellGusts g_eb (fun Z => [.ref (Z.2.1 0)]) M (f_X10_tellGusts M) := by
  refine g_enter (fun Z => [(0, .ref (Z.2.1 0))]) (by decide) rfl (fun Z => Nat.le_of_ble_eq_true rfl) (fun Z => rfl) (fun X => ?_)
  rw [f_X10_tellGusts]
  refine G_aload_n 0 dX10_tellGusts_0 rfl rfl ?_
  refine G_get 26 clX10 (y2_0) fl_X10_63 dX10_tellGusts_1 (by decide) rfl rfl ?_
  refine G_aload_n 0 dX10_tellGusts_4 rfl rfl ?_
  refine G_get 14 clX10 (y2_0) fl_X10_318 dX10_tellGusts_5 (by decide) rfl rfl ?_
  refine G_iald (y2_17) dX10_tellGusts_8 ?_
  refine G_bipush (v := 8) dX10_tellGusts_9 (by decide) ?_
  refine G_icmp_ne (tgt := 20) dX10_tellGusts_11 (by decide) ?_ ?_
  · refine G_aload_n 0 dX10_tellGusts_20 rfl rfl ?_
    refine G_cVb (As := []) (rest := []) (ok_X10_pass M) rfl (y2_0) rfl mv_X10_301 dX10_tellGusts_21 rfl rfl (Nat.le_of_ble_eq_true rfl) (g_fitN (by decide) (by decide)) (fun r2 M1 => ?_)
    refine G_ifB_ne (tgt := 29) dX10_tellGusts_24 (by decide) ?_ ?_
    · refine G_bipush (v := 8) dX10_tellGusts_29 (by decide) ?_
      refine G_aload_n 0 dX10_tellGusts_31 rfl rfl ?_
      refine G_get 14 clX10 (y2_0) fl_X10_318 dX10_tellGusts_32 (by decide) rfl rfl ?_
      refine G_imul dX10_tellGusts_35 ?_
      refine G_aload_n 0 dX10_tellGusts_36 rfl rfl ?_
      refine G_get 26 clX10 (y2_0) fl_X10_63 dX10_tellGusts_37 (by decide) rfl rfl ?_
      refine G_aload_n 0 dX10_tellGusts_40 rfl rfl ?_
      refine G_get 14 clX10 (y2_0) fl_X10_318 dX10_tellGusts_41 (by decide) rfl rfl ?_
      refine G_iald (y2_17) dX10_tellGusts_44 ?_
      refine G_iadd dX10_tellGusts_45 ?_
      refine G_vi (fun y3 => ?_)
      refine G_istore_n (lv' := [(1, .int y3), (0, .ref (ad X 0))]) dX10_tellGusts_46 rfl (by decide) rfl ?_
      refine G_aload_n 1 dX10_tellGusts_47 rfl rfl ?_
      refine G_iconst (v := 0) dX10_tellGusts_48 (by decide) ?_
      refine G_bipush (v := 8) dX10_tellGusts_49 (by decide) ?_
      refine G_cVb (As := [.int 0, .int 8]) (rest := []) (ok_X10_takesInt (0 : Int32) (8 : Int32) M1) rfl (y2_0) rfl mv_X10_363 dX10_tellGusts_51 rfl rfl (Nat.le_of_ble_eq_true rfl) (g_fitN (by decide) (by decide)) (fun r5 M4 => ?_)
      refine G_ifB_ne (tgt := 59) dX10_tellGusts_54 (by decide) ?_ ?_
      · refine G_aload_n 1 dX10_tellGusts_59 rfl rfl ?_
        refine G_get 27 clX10 (y2_0) fl_X10_66 dX10_tellGusts_60 (by decide) rfl rfl ?_
        refine G_iload_n 0 dX10_tellGusts_63 rfl rfl ?_
        refine G_aload_n 1 dX10_tellGusts_64 rfl rfl ?_
        refine G_get 59 clX10 (y2_0) fl_X10_315 dX10_tellGusts_65 (by decide) rfl rfl ?_
        refine G_iast (y2_18) dX10_tellGusts_68 ?_
        refine G_m (fun M6 => ?_)
        refine G_aload_n 1 dX10_tellGusts_69 rfl rfl ?_
        refine G_iconst (v := 0) dX10_tellGusts_70 (by decide) ?_
        refine G_bipush (v := 8) dX10_tellGusts_71 (by decide) ?_
        refine G_cVb (As := [.int 0, .int 8]) (rest := []) (ok_X10_takesInt (0 : Int32) (8 : Int32) M6) rfl (y2_0) rfl mv_X10_363 dX10_tellGusts_73 rfl rfl (Nat.le_of_ble_eq_true rfl) (g_fitN (by decide) (by decide)) (fun r8 M7 => ?_)
        refine G_ifB_ne (tgt := 81) dX10_tellGusts_76 (by decide) ?_ ?_
        · refine G_aload_n 1 dX10_tellGusts_81 rfl rfl ?_
          refine G_get 28 clX10 (y2_0) fl_X10_69 dX10_tellGusts_82 (by decide) rfl rfl ?_
          refine G_iload_n 0 dX10_tellGusts_85 rfl rfl ?_
          refine G_aload_n 1 dX10_tellGusts_86 rfl rfl ?_
          refine G_get 59 clX10 (y2_0) fl_X10_315 dX10_tellGusts_87 (by decide) rfl rfl ?_
          refine G_iast (y2_19) dX10_tellGusts_90 ?_
          refine G_m (fun M9 => ?_)
          refine G_aload_n 1 dX10_tellGusts_91 rfl rfl ?_
          refine G_get 28 clX10 (y2_0) fl_X10_69 dX10_tellGusts_92 (by decide) rfl rfl ?_
          refine G_iload_n 0 dX10_tellGusts_95 rfl rfl ?_
          refine G_iald (y2_19) dX10_tellGusts_96 ?_
          refine G_aload_n 1 dX10_tellGusts_97 rfl rfl ?_
          refine G_get 27 clX10 (y2_0) fl_X10_66 dX10_tellGusts_98 (by decide) rfl rfl ?_
          refine G_iload_n 0 dX10_tellGusts_101 rfl rfl ?_
          refine G_iald (y2_18) dX10_tellGusts_102 ?_
          refine G_icmp_ge (tgt := 117) dX10_tellGusts_103 (by decide) ?_ ?_
          · exact G_sub [1, 0] rfl (o_X10_tellGusts_117 y3 M9)
          · refine G_aload_n 1 dX10_tellGusts_106 rfl rfl ?_
            refine G_iconst (v := 5) dX10_tellGusts_107 (by decide) ?_
            refine G_aload_n 1 dX10_tellGusts_108 rfl rfl ?_
            refine G_get 8 clX10 (y2_0) fl_X10_289 dX10_tellGusts_109 (by decide) rfl rfl ?_
            refine G_iconst (v := 1) dX10_tellGusts_112 (by decide) ?_
            refine G_isub dX10_tellGusts_113 ?_
            refine G_cVv (As := [.int 5, .int ((M9.1 0 8) - (1 : Int32))]) (rest := []) (ok_X10_tells (5 : Int32) ((M9.1 0 8) - (1 : Int32)) M9) rfl (y2_0) rfl mv_X10_311 dX10_tellGusts_114 rfl rfl (Nat.le_of_ble_eq_true rfl) (g_fitN (by decide) (by decide)) (fun r24 M23 => ?_)
            exact G_sub [1, 0] rfl (o_X10_tellGusts_117 y3 M23)
        · refine G_iconst (v := 0) dX10_tellGusts_79 (by decide) ?_
          exact G_zret (b := false) rfl dX10_tellGusts_80
      · refine G_iconst (v := 0) dX10_tellGusts_57 (by decide) ?_
        exact G_zret (b := false) rfl dX10_tellGusts_58
    · refine G_iconst (v := 0) dX10_tellGusts_27 (by decide) ?_
      exact G_zret (b := false) rfl dX10_tellGusts_28
  · refine G_aload_n 0 dX10_tellGusts_14 rfl rfl ?_
    refine G_iconst (v := 2) dX10_tellGusts_15 (by decide) ?_
    refine G_cVb (As := [.int 2]) (rest := []) (ok_X10_wrong (2 : Int32) M) rfl (y2_0) rfl mv_X10_298 dX10_tellGusts_16 rfl rfl (Nat.le_of_ble_eq_true rfl) (g_fitN (by decide) (by decide)) (fun r26 M25 => ?_)
    exact G_zret rfl dX10_tellGusts_19
-- X10_tellReflex
def f_X10_tellReflex_149 (M : gM) : Option (Bool × gM) := (g_ck (M.1 0 14) 2 (g_ck (M.1 0 14) 2 (g_m (sI M 24 (tn (M.1 0 14)) ((M.1 24 (tn (M.1 0 14))) + (1 : Int32))) (fun M18 => (some (true, M18))))))
set_option maxRecDepth 100000 in
set_option maxHeartbeats 4000000 in
theorem o_X10_tellReflex_149 {X : gX} (M : gM) : G Y2 jX10_tellReflex X (g_fin g_eb) 149 [(0, .ref (ad X 0))] [] M (f_X10_tellReflex_149 M) := by
  rw [f_X10_tellReflex_149]
  refine G_aload_n 0 dX10_tellReflex_149 rfl rfl ?_
  refine G_get 33 clX10 (y2_0) fl_X10_84 dX10_tellReflex_150 (by decide) rfl rfl ?_
  refine G_aload_n 0 dX10_tellReflex_153 rfl rfl ?_
  refine G_get 14 clX10 (y2_0) fl_X10_318 dX10_tellReflex_154 (by decide) rfl rfl ?_
  refine G_dup2 dX10_tellReflex_157 rfl rfl ?_
  refine G_iald (y2_24) dX10_tellReflex_158 ?_
  refine G_iconst (v := 1) dX10_tellReflex_159 (by decide) ?_
  refine G_iadd dX10_tellReflex_160 ?_
  refine G_iast (y2_24) dX10_tellReflex_161 ?_
  refine G_m (fun M18 => ?_)
  refine G_iconst (v := 1) dX10_tellReflex_162 (by decide) ?_
  exact G_zret (b := true) rfl dX10_tellReflex_163
def f_X10_tellReflex (M : gM) : Option (Bool × gM) := (g_ck (M.1 0 14) 2 (if (M.1 24 (tn (M.1 0 14))) = (12 : Int32) then (g_b (f_X10_wrong (2 : Int32) M) (fun r24 M23 => (some (r24, M23)))) else (g_b (f_X10_pass M) (fun r2 M1 => (if r2 then (g_b (f_X10_cond M1) (fun r4 M3 => (if r4 then (g_ck (M3.1 0 14) 2 (g_v (((12 : Int32) * (M3.1 0 14)) + (M3.1 24 (tn (M3.1 0 14)))) (fun y5 => (g_ck y5 24 (g_m (sI M3 26 (tn y5) (M3.1 0 63)) (fun M6 => (g_ck (M6.1 0 14) 2 (g_ck y5 24 (g_m (sI M6 27 (tn y5) (M6.1 31 (tn (M6.1 0 14)))) (fun M7 => (g_b (f_X10_isWord (9 : Int32) M7) (fun r9 M8 => (if r9 then (g_b (f_X10_pass M8) (fun r11 M10 => (if r11 then (g_v (M10.1 0 8) (fun y12 => (g_b (f_X10_takes (0 : Int32) M10) (fun r14 M13 => (if r14 then (g_ck y12 2001 (g_b (f_X10_actOf (M13.2.1 5 (tn y12)) M13) (fun r16 M15 => (g_ck y5 24 (g_m (sI M15 25 (tn y5) r16) (fun M17 => (g_ck y5 24 (if 0 ≤ (M17.1 25 (tn y5)) then (f_X10_tellReflex_149 M17) else (g_b (f_X10_tells (4 : Int32) y12 M17) (fun r20 M19 => (f_X10_tellReflex_149 M19))))))))))) else (some (false, M13))))))) else (some (false, M10))))) else (g_b (f_X10_wrong (1 : Int32) M8) (fun r22 M21 => (some (r22, M21))))))))))))))))) else (some (false, M3))))) else (some (false, M1)))))))
set_option maxRecDepth 100000 in
set_option maxHeartbeats 4000000 in
theorem ok_X10_tellReflex (M : gM) : g_met Y2 yX10_tellReflex jX10_tellReflex g_eb (fun Z => [.ref (Z.2.1 0)]) M (f_X10_tellReflex M) := by
  refine g_enter (fun Z => [(0, .ref (Z.2.1 0))]) (by decide) rfl (fun Z => Nat.le_of_ble_eq_true rfl) (fun Z => rfl) (fun X => ?_)
  rw [f_X10_tellReflex]
  refine G_aload_n 0 dX10_tellReflex_0 rfl rfl ?_
  refine G_get 33 clX10 (y2_0) fl_X10_84 dX10_tellReflex_1 (by decide) rfl rfl ?_
  refine G_aload_n 0 dX10_tellReflex_4 rfl rfl ?_
  refine G_get 14 clX10 (y2_0) fl_X10_318 dX10_tellReflex_5 (by decide) rfl rfl ?_
  refine G_iald (y2_24) dX10_tellReflex_8 ?_
  refine G_bipush (v := 12) dX10_tellReflex_9 (by decide) ?_
  refine G_icmp_ne (tgt := 20) dX10_tellReflex_11 (by decide) ?_ ?_
  · refine G_aload_n 0 dX10_tellReflex_20 rfl rfl ?_
    refine G_cVb (As := []) (rest := []) (ok_X10_pass M) rfl (y2_0) rfl mv_X10_301 dX10_tellReflex_21 rfl rfl (Nat.le_of_ble_eq_true rfl) (g_fitN (by decide) (by decide)) (fun r2 M1 => ?_)
    refine G_ifB_eq (tgt := 34) dX10_tellReflex_24 (by decide) ?_ ?_
    · refine G_iconst (v := 0) dX10_tellReflex_34 (by decide) ?_
      exact G_zret (b := false) rfl dX10_tellReflex_35
    · refine G_aload_n 0 dX10_tellReflex_27 rfl rfl ?_
      refine G_cVb (As := []) (rest := []) (ok_X10_cond M1) rfl (y2_0) rfl mv_X10_351 dX10_tellReflex_28 rfl rfl (Nat.le_of_ble_eq_true rfl) (g_fitN (by decide) (by decide)) (fun r4 M3 => ?_)
      refine G_ifB_ne (tgt := 36) dX10_tellReflex_31 (by decide) ?_ ?_
      · refine G_bipush (v := 12) dX10_tellReflex_36 (by decide) ?_
        refine G_aload_n 0 dX10_tellReflex_38 rfl rfl ?_
        refine G_get 14 clX10 (y2_0) fl_X10_318 dX10_tellReflex_39 (by decide) rfl rfl ?_
        refine G_imul dX10_tellReflex_42 ?_
        refine G_aload_n 0 dX10_tellReflex_43 rfl rfl ?_
        refine G_get 33 clX10 (y2_0) fl_X10_84 dX10_tellReflex_44 (by decide) rfl rfl ?_
        refine G_aload_n 0 dX10_tellReflex_47 rfl rfl ?_
        refine G_get 14 clX10 (y2_0) fl_X10_318 dX10_tellReflex_48 (by decide) rfl rfl ?_
        refine G_iald (y2_24) dX10_tellReflex_51 ?_
        refine G_iadd dX10_tellReflex_52 ?_
        refine G_vi (fun y5 => ?_)
        refine G_istore_n (lv' := [(1, .int y5), (0, .ref (ad X 0))]) dX10_tellReflex_53 rfl (by decide) rfl ?_
        refine G_aload_n 1 dX10_tellReflex_54 rfl rfl ?_
        refine G_get 35 clX10 (y2_0) fl_X10_90 dX10_tellReflex_55 (by decide) rfl rfl ?_
        refine G_iload_n 0 dX10_tellReflex_58 rfl rfl ?_
        refine G_aload_n 1 dX10_tellReflex_59 rfl rfl ?_
        refine G_get 63 clX10 (y2_0) fl_X10_342 dX10_tellReflex_60 (by decide) rfl rfl ?_
        refine G_iast (y2_26) dX10_tellReflex_63 ?_
        refine G_m (fun M6 => ?_)
        refine G_aload_n 1 dX10_tellReflex_64 rfl rfl ?_
        refine G_get 36 clX10 (y2_0) fl_X10_93 dX10_tellReflex_65 (by decide) rfl rfl ?_
        refine G_iload_n 0 dX10_tellReflex_68 rfl rfl ?_
        refine G_aload_n 1 dX10_tellReflex_69 rfl rfl ?_
        refine G_get 40 clX10 (y2_0) fl_X10_105 dX10_tellReflex_70 (by decide) rfl rfl ?_
        refine G_aload_n 1 dX10_tellReflex_73 rfl rfl ?_
        refine G_get 14 clX10 (y2_0) fl_X10_318 dX10_tellReflex_74 (by decide) rfl rfl ?_
        refine G_iald (y2_31) dX10_tellReflex_77 ?_
        refine G_iast (y2_27) dX10_tellReflex_78 ?_
        refine G_m (fun M7 => ?_)
        refine G_aload_n 1 dX10_tellReflex_79 rfl rfl ?_
        refine G_bipush (v := 9) dX10_tellReflex_80 (by decide) ?_
        refine G_cVb (As := [.int 9]) (rest := []) (ok_X10_isWord (9 : Int32) M7) rfl (y2_0) rfl mv_X10_345 dX10_tellReflex_82 rfl rfl (Nat.le_of_ble_eq_true rfl) (g_fitN (by decide) (by decide)) (fun r9 M8 => ?_)
        refine G_ifB_ne (tgt := 94) dX10_tellReflex_85 (by decide) ?_ ?_
        · refine G_aload_n 1 dX10_tellReflex_94 rfl rfl ?_
          refine G_cVb (As := []) (rest := []) (ok_X10_pass M8) rfl (y2_0) rfl mv_X10_301 dX10_tellReflex_95 rfl rfl (Nat.le_of_ble_eq_true rfl) (g_fitN (by decide) (by decide)) (fun r11 M10 => ?_)
          refine G_ifB_ne (tgt := 103) dX10_tellReflex_98 (by decide) ?_ ?_
          · refine G_aload_n 1 dX10_tellReflex_103 rfl rfl ?_
            refine G_get 8 clX10 (y2_0) fl_X10_289 dX10_tellReflex_104 (by decide) rfl rfl ?_
            refine G_vi (fun y12 => ?_)
            refine G_istore_n (lv' := [(2, .int y12), (1, .int y5), (0, .ref (ad X 0))]) dX10_tellReflex_107 rfl (by decide) rfl ?_
            refine G_aload_n 2 dX10_tellReflex_108 rfl rfl ?_
            refine G_iconst (v := 0) dX10_tellReflex_109 (by decide) ?_
            refine G_cVb (As := [.int 0]) (rest := []) (ok_X10_takes (0 : Int32) M10) rfl (y2_0) rfl mv_X10_308 dX10_tellReflex_110 rfl rfl (Nat.le_of_ble_eq_true rfl) (g_fitN (by decide) (by decide)) (fun r14 M13 => ?_)
            refine G_ifB_ne (tgt := 118) dX10_tellReflex_113 (by decide) ?_ ?_
            · refine G_aload_n 2 dX10_tellReflex_118 rfl rfl ?_
              refine G_get 34 clX10 (y2_0) fl_X10_87 dX10_tellReflex_119 (by decide) rfl rfl ?_
              refine G_iload_n 1 dX10_tellReflex_122 rfl rfl ?_
              refine G_aload_n 2 dX10_tellReflex_123 rfl rfl ?_
              refine G_aload_n 2 dX10_tellReflex_124 rfl rfl ?_
              refine G_get 7 clX10 (y2_0) fl_X10_22 dX10_tellReflex_125 (by decide) rfl rfl ?_
              refine G_iload_n 0 dX10_tellReflex_128 rfl rfl ?_
              refine G_lald (y2_5) dX10_tellReflex_129 ?_
              refine G_cVi (As := [.long (M13.2.1 5 (tn y12))]) (rest := [.int y5, .ref (ad X 25)]) (ok_X10_actOf (M13.2.1 5 (tn y12)) M13) rfl (y2_0) rfl mv_X10_354 dX10_tellReflex_130 rfl rfl (Nat.le_of_ble_eq_true rfl) (g_fitN (by decide) (by decide)) (fun r16 M15 => ?_)
              refine G_iast (y2_25) dX10_tellReflex_133 ?_
              refine G_m (fun M17 => ?_)
              refine G_aload_n 2 dX10_tellReflex_134 rfl rfl ?_
              refine G_get 34 clX10 (y2_0) fl_X10_87 dX10_tellReflex_135 (by decide) rfl rfl ?_
              refine G_iload_n 1 dX10_tellReflex_138 rfl rfl ?_
              refine G_iald (y2_25) dX10_tellReflex_139 ?_
              refine G_if_ge (tgt := 149) dX10_tellReflex_140 (by decide) ?_ ?_
              · exact G_sub [2] rfl (o_X10_tellReflex_149 M17)
              · refine G_aload_n 2 dX10_tellReflex_143 rfl rfl ?_
                refine G_iconst (v := 4) dX10_tellReflex_144 (by decide) ?_
                refine G_iload_n 0 dX10_tellReflex_145 rfl rfl ?_
                refine G_cVv (As := [.int 4, .int y12]) (rest := []) (ok_X10_tells (4 : Int32) y12 M17) rfl (y2_0) rfl mv_X10_311 dX10_tellReflex_146 rfl rfl (Nat.le_of_ble_eq_true rfl) (g_fitN (by decide) (by decide)) (fun r20 M19 => ?_)
                exact G_sub [2] rfl (o_X10_tellReflex_149 M19)
            · refine G_iconst (v := 0) dX10_tellReflex_116 (by decide) ?_
              exact G_zret (b := false) rfl dX10_tellReflex_117
          · refine G_iconst (v := 0) dX10_tellReflex_101 (by decide) ?_
            exact G_zret (b := false) rfl dX10_tellReflex_102
        · refine G_aload_n 1 dX10_tellReflex_88 rfl rfl ?_
          refine G_iconst (v := 1) dX10_tellReflex_89 (by decide) ?_
          refine G_cVb (As := [.int 1]) (rest := []) (ok_X10_wrong (1 : Int32) M8) rfl (y2_0) rfl mv_X10_298 dX10_tellReflex_90 rfl rfl (Nat.le_of_ble_eq_true rfl) (g_fitN (by decide) (by decide)) (fun r22 M21 => ?_)
          exact G_zret rfl dX10_tellReflex_93
      · refine G_iconst (v := 0) dX10_tellReflex_34 (by decide) ?_
        exact G_zret (b := false) rfl dX10_tellReflex_35
  · refine G_aload_n 0 dX10_tellReflex_14 rfl rfl ?_
    refine G_iconst (v := 2) dX10_tellReflex_15 (by decide) ?_
    refine G_cVb (As := [.int 2]) (rest := []) (ok_X10_wrong (2 : Int32) M) rfl (y2_0) rfl mv_X10_298 dX10_tellReflex_16 rfl rfl (Nat.le_of_ble_eq_true rfl) (g_fitN (by decide) (by decide)) (fun r24 M23 => ?_)
    exact G_zret rfl dX10_tellReflex_19
-- X10_tellLaw
def f_X10_tellLaw (a1 : Int32) (M : gM) : Option (Bool × gM) := (g_b (f_X10_pass M) (fun r2 M1 => (if r2 then (g_b (f_X10_expr M1) (fun r4 M3 => (if r4 then (g_ck (((2 : Int32) * (M3.1 0 14)) + a1) 4 (g_m (sI M3 9 (tn (((2 : Int32) * (M3.1 0 14)) + a1)) (M3.1 0 62)) (fun M5 => (g_ck (M5.1 0 14) 2 (g_ck (((2 : Int32) * (M5.1 0 14)) + a1) 4 (g_m (sI M5 10 (tn (((2 : Int32) * (M5.1 0 14)) + a1)) (M5.1 28 (tn (M5.1 0 14)))) (fun M6 => (some (true, M6))))))))) else (some (false, M3))))) else (some (false, M1)))))
set_option maxRecDepth 100000 in
set_option maxHeartbeats 4000000 in
theorem ok_X10_tellLaw (a1 : Int32) (M : gM) : g_met Y2 yX10_tellLaw jX10_tellLaw g_eb (fun Z => [.ref (Z.2.1 0), .int a1]) M (f_X10_tellLaw a1 M) := by
  refine g_enter (fun Z => [(0, .ref (Z.2.1 0)), (1, .int a1)]) (by decide) rfl (fun Z => Nat.le_of_ble_eq_true rfl) (fun Z => rfl) (fun X => ?_)
  rw [f_X10_tellLaw]
  refine G_aload_n 0 dX10_tellLaw_0 rfl rfl ?_
  refine G_cVb (As := []) (rest := []) (ok_X10_pass M) rfl (y2_0) rfl mv_X10_301 dX10_tellLaw_1 rfl rfl (Nat.le_of_ble_eq_true rfl) (g_fitN (by decide) (by decide)) (fun r2 M1 => ?_)
  refine G_ifB_eq (tgt := 14) dX10_tellLaw_4 (by decide) ?_ ?_
  · refine G_iconst (v := 0) dX10_tellLaw_14 (by decide) ?_
    exact G_zret (b := false) rfl dX10_tellLaw_15
  · refine G_aload_n 0 dX10_tellLaw_7 rfl rfl ?_
    refine G_cVb (As := []) (rest := []) (ok_X10_expr M1) rfl (y2_0) rfl mv_X10_348 dX10_tellLaw_8 rfl rfl (Nat.le_of_ble_eq_true rfl) (g_fitN (by decide) (by decide)) (fun r4 M3 => ?_)
    refine G_ifB_ne (tgt := 16) dX10_tellLaw_11 (by decide) ?_ ?_
    · refine G_aload_n 0 dX10_tellLaw_16 rfl rfl ?_
      refine G_get 18 clX10 (y2_0) fl_X10_39 dX10_tellLaw_17 (by decide) rfl rfl ?_
      refine G_iconst (v := 2) dX10_tellLaw_20 (by decide) ?_
      refine G_aload_n 0 dX10_tellLaw_21 rfl rfl ?_
      refine G_get 14 clX10 (y2_0) fl_X10_318 dX10_tellLaw_22 (by decide) rfl rfl ?_
      refine G_imul dX10_tellLaw_25 ?_
      refine G_iload_n 1 dX10_tellLaw_26 rfl rfl ?_
      refine G_iadd dX10_tellLaw_27 ?_
      refine G_aload_n 0 dX10_tellLaw_28 rfl rfl ?_
      refine G_get 62 clX10 (y2_0) fl_X10_330 dX10_tellLaw_29 (by decide) rfl rfl ?_
      refine G_iast (y2_9) dX10_tellLaw_32 ?_
      refine G_m (fun M5 => ?_)
      refine G_aload_n 0 dX10_tellLaw_33 rfl rfl ?_
      refine G_get 19 clX10 (y2_0) fl_X10_42 dX10_tellLaw_34 (by decide) rfl rfl ?_
      refine G_iconst (v := 2) dX10_tellLaw_37 (by decide) ?_
      refine G_aload_n 0 dX10_tellLaw_38 rfl rfl ?_
      refine G_get 14 clX10 (y2_0) fl_X10_318 dX10_tellLaw_39 (by decide) rfl rfl ?_
      refine G_imul dX10_tellLaw_42 ?_
      refine G_iload_n 1 dX10_tellLaw_43 rfl rfl ?_
      refine G_iadd dX10_tellLaw_44 ?_
      refine G_aload_n 0 dX10_tellLaw_45 rfl rfl ?_
      refine G_get 37 clX10 (y2_0) fl_X10_96 dX10_tellLaw_46 (by decide) rfl rfl ?_
      refine G_aload_n 0 dX10_tellLaw_49 rfl rfl ?_
      refine G_get 14 clX10 (y2_0) fl_X10_318 dX10_tellLaw_50 (by decide) rfl rfl ?_
      refine G_iald (y2_28) dX10_tellLaw_53 ?_
      refine G_iast (y2_10) dX10_tellLaw_54 ?_
      refine G_m (fun M6 => ?_)
      refine G_iconst (v := 1) dX10_tellLaw_55 (by decide) ?_
      exact G_zret (b := true) rfl dX10_tellLaw_56
    · refine G_iconst (v := 0) dX10_tellLaw_14 (by decide) ?_
      exact G_zret (b := false) rfl dX10_tellLaw_15
-- X10_tellNumber
def f_X10_tellNumber_72 (x1 : Int32) (M : gM) : Option (Bool × gM) := (if x1 = (2 : Int32) then (g_ck (M.1 0 14) 2 (g_m (sI M 8 (tn (M.1 0 14)) (M.1 0 59)) (fun M5 => (some (true, M5))))) else (some (true, M)))
set_option maxRecDepth 100000 in
set_option maxHeartbeats 4000000 in
theorem o_X10_tellNumber_72 {X : gX} (x1 : Int32) (M : gM) : G Y2 jX10_tellNumber X (g_fin g_eb) 72 [(0, .ref (ad X 0)), (1, .int x1)] [] M (f_X10_tellNumber_72 x1 M) := by
  rw [f_X10_tellNumber_72]
  refine G_iload_n 1 dX10_tellNumber_72 rfl rfl ?_
  refine G_iconst (v := 2) dX10_tellNumber_73 (by decide) ?_
  refine G_icmp_ne (tgt := 90) dX10_tellNumber_74 (by decide) ?_ ?_
  · refine G_iconst (v := 1) dX10_tellNumber_90 (by decide) ?_
    exact G_zret (b := true) rfl dX10_tellNumber_91
  · refine G_aload_n 0 dX10_tellNumber_77 rfl rfl ?_
    refine G_get 17 clX10 (y2_0) fl_X10_36 dX10_tellNumber_78 (by decide) rfl rfl ?_
    refine G_aload_n 0 dX10_tellNumber_81 rfl rfl ?_
    refine G_get 14 clX10 (y2_0) fl_X10_318 dX10_tellNumber_82 (by decide) rfl rfl ?_
    refine G_aload_n 0 dX10_tellNumber_85 rfl rfl ?_
    refine G_get 59 clX10 (y2_0) fl_X10_315 dX10_tellNumber_86 (by decide) rfl rfl ?_
    refine G_iast (y2_8) dX10_tellNumber_89 ?_
    refine G_m (fun M5 => ?_)
    refine G_iconst (v := 1) dX10_tellNumber_90 (by decide) ?_
    exact G_zret (b := true) rfl dX10_tellNumber_91
def f_X10_tellNumber_54 (x1 : Int32) (M : gM) : Option (Bool × gM) := (if x1 = (1 : Int32) then (g_ck (M.1 0 14) 2 (g_m (sI M 7 (tn (M.1 0 14)) (M.1 0 59)) (fun M6 => (f_X10_tellNumber_72 x1 M6)))) else (f_X10_tellNumber_72 x1 M))
set_option maxRecDepth 100000 in
set_option maxHeartbeats 4000000 in
theorem o_X10_tellNumber_54 {X : gX} (x1 : Int32) (M : gM) : G Y2 jX10_tellNumber X (g_fin g_eb) 54 [(0, .ref (ad X 0)), (1, .int x1)] [] M (f_X10_tellNumber_54 x1 M) := by
  rw [f_X10_tellNumber_54]
  refine G_iload_n 1 dX10_tellNumber_54 rfl rfl ?_
  refine G_iconst (v := 1) dX10_tellNumber_55 (by decide) ?_
  refine G_icmp_ne (tgt := 72) dX10_tellNumber_56 (by decide) ?_ ?_
  · exact G_sub [0, 1] rfl (o_X10_tellNumber_72 x1 M)
  · refine G_aload_n 0 dX10_tellNumber_59 rfl rfl ?_
    refine G_get 16 clX10 (y2_0) fl_X10_33 dX10_tellNumber_60 (by decide) rfl rfl ?_
    refine G_aload_n 0 dX10_tellNumber_63 rfl rfl ?_
    refine G_get 14 clX10 (y2_0) fl_X10_318 dX10_tellNumber_64 (by decide) rfl rfl ?_
    refine G_aload_n 0 dX10_tellNumber_67 rfl rfl ?_
    refine G_get 59 clX10 (y2_0) fl_X10_315 dX10_tellNumber_68 (by decide) rfl rfl ?_
    refine G_iast (y2_7) dX10_tellNumber_71 ?_
    refine G_m (fun M6 => ?_)
    exact G_sub [0, 1] rfl (o_X10_tellNumber_72 x1 M6)
def f_X10_tellNumber_29 (x1 : Int32) (s1 : Int32) (s2 : Int32) (M : gM) : Option (Bool × gM) := (g_b (f_X10_takesInt s1 s2 M) (fun r4 M3 => (if r4 then (if x1 = 0 then (g_ck (M3.1 0 14) 2 (g_m (sI M3 6 (tn (M3.1 0 14)) (M3.1 0 59)) (fun M7 => (f_X10_tellNumber_54 x1 M7)))) else (f_X10_tellNumber_54 x1 M3)) else (some (false, M3)))))
set_option maxRecDepth 100000 in
set_option maxHeartbeats 4000000 in
theorem o_X10_tellNumber_29 {X : gX} (x1 : Int32) (s1 : Int32) (s2 : Int32) (M : gM) : G Y2 jX10_tellNumber X (g_fin g_eb) 29 [(0, .ref (ad X 0)), (1, .int x1)] [.int s2, .int s1, .ref (ad X 0)] M (f_X10_tellNumber_29 x1 s1 s2 M) := by
  rw [f_X10_tellNumber_29]
  refine G_cVb (As := [.int s1, .int s2]) (rest := []) (ok_X10_takesInt s1 s2 M) rfl (y2_0) rfl mv_X10_363 dX10_tellNumber_29 rfl rfl (Nat.le_of_ble_eq_true rfl) (g_fitN (by decide) (by decide)) (fun r4 M3 => ?_)
  refine G_ifB_ne (tgt := 37) dX10_tellNumber_32 (by decide) ?_ ?_
  · refine G_iload_n 1 dX10_tellNumber_37 rfl rfl ?_
    refine G_if_ne (tgt := 54) dX10_tellNumber_38 (by decide) ?_ ?_
    · exact G_sub [0, 1] rfl (o_X10_tellNumber_54 x1 M3)
    · refine G_aload_n 0 dX10_tellNumber_41 rfl rfl ?_
      refine G_get 15 clX10 (y2_0) fl_X10_30 dX10_tellNumber_42 (by decide) rfl rfl ?_
      refine G_aload_n 0 dX10_tellNumber_45 rfl rfl ?_
      refine G_get 14 clX10 (y2_0) fl_X10_318 dX10_tellNumber_46 (by decide) rfl rfl ?_
      refine G_aload_n 0 dX10_tellNumber_49 rfl rfl ?_
      refine G_get 59 clX10 (y2_0) fl_X10_315 dX10_tellNumber_50 (by decide) rfl rfl ?_
      refine G_iast (y2_6) dX10_tellNumber_53 ?_
      refine G_m (fun M7 => ?_)
      exact G_sub [0, 1] rfl (o_X10_tellNumber_54 x1 M7)
  · refine G_iconst (v := 0) dX10_tellNumber_35 (by decide) ?_
    exact G_zret (b := false) rfl dX10_tellNumber_36
def f_X10_tellNumber (a1 : Int32) (M : gM) : Option (Bool × gM) := (g_b (f_X10_pass M) (fun r2 M1 => (if r2 then (if a1 = 0 then (f_X10_tellNumber_29 a1 (1 : Int32) (8 : Int32) M1) else (if a1 = (1 : Int32) then (f_X10_tellNumber_29 a1 (1 : Int32) (10 : Int32) M1) else (f_X10_tellNumber_29 a1 (1 : Int32) (5 : Int32) M1))) else (some (false, M1)))))
set_option maxRecDepth 100000 in
set_option maxHeartbeats 4000000 in
theorem ok_X10_tellNumber (a1 : Int32) (M : gM) : g_met Y2 yX10_tellNumber jX10_tellNumber g_eb (fun Z => [.ref (Z.2.1 0), .int a1]) M (f_X10_tellNumber a1 M) := by
  refine g_enter (fun Z => [(0, .ref (Z.2.1 0)), (1, .int a1)]) (by decide) rfl (fun Z => Nat.le_of_ble_eq_true rfl) (fun Z => rfl) (fun X => ?_)
  rw [f_X10_tellNumber]
  refine G_aload_n 0 dX10_tellNumber_0 rfl rfl ?_
  refine G_cVb (As := []) (rest := []) (ok_X10_pass M) rfl (y2_0) rfl mv_X10_301 dX10_tellNumber_1 rfl rfl (Nat.le_of_ble_eq_true rfl) (g_fitN (by decide) (by decide)) (fun r2 M1 => ?_)
  refine G_ifB_eq (tgt := 35) dX10_tellNumber_4 (by decide) ?_ ?_
  · refine G_iconst (v := 0) dX10_tellNumber_35 (by decide) ?_
    exact G_zret (b := false) rfl dX10_tellNumber_36
  · refine G_aload_n 0 dX10_tellNumber_7 rfl rfl ?_
    refine G_iconst (v := 1) dX10_tellNumber_8 (by decide) ?_
    refine G_iload_n 1 dX10_tellNumber_9 rfl rfl ?_
    refine G_if_ne (tgt := 18) dX10_tellNumber_10 (by decide) ?_ ?_
    · refine G_iload_n 1 dX10_tellNumber_18 rfl rfl ?_
      refine G_iconst (v := 1) dX10_tellNumber_19 (by decide) ?_
      refine G_icmp_ne (tgt := 28) dX10_tellNumber_20 (by decide) ?_ ?_
      · refine G_iconst (v := 5) dX10_tellNumber_28 (by decide) ?_
        exact G_sub [0, 1] rfl (o_X10_tellNumber_29 a1 (1 : Int32) (5 : Int32) M1)
      · refine G_bipush (v := 10) dX10_tellNumber_23 (by decide) ?_
        refine G_goto (tgt := 29) dX10_tellNumber_25 (by decide) ?_
        exact G_sub [0, 1] rfl (o_X10_tellNumber_29 a1 (1 : Int32) (10 : Int32) M1)
    · refine G_bipush (v := 8) dX10_tellNumber_13 (by decide) ?_
      refine G_goto (tgt := 29) dX10_tellNumber_15 (by decide) ?_
      exact G_sub [0, 1] rfl (o_X10_tellNumber_29 a1 (1 : Int32) (8 : Int32) M1)
-- X10_tell
def f_X10_tell_52 (x1 : Int32) (M : gM) : Option (Bool × gM) := (g_b (f_X10_tellLaw (x1 - (3 : Int32)) M) (fun r2 M1 => (some (r2, M1))))
set_option maxRecDepth 100000 in
set_option maxHeartbeats 4000000 in
theorem o_X10_tell_52 {X : gX} (x1 : Int32) (M : gM) : G Y2 jX10_tell X (g_fin g_eb) 52 [(0, .ref (ad X 0)), (1, .int x1)] [] M (f_X10_tell_52 x1 M) := by
  rw [f_X10_tell_52]
  refine G_aload_n 0 dX10_tell_52 rfl rfl ?_
  refine G_iload_n 1 dX10_tell_53 rfl rfl ?_
  refine G_iconst (v := 3) dX10_tell_54 (by decide) ?_
  refine G_isub dX10_tell_55 ?_
  refine G_cVb (As := [.int (x1 - (3 : Int32))]) (rest := []) (ok_X10_tellLaw (x1 - (3 : Int32)) M) rfl (y2_0) rfl mv_X10_370 dX10_tell_56 rfl rfl (Nat.le_of_ble_eq_true rfl) (g_fitN (by decide) (by decide)) (fun r2 M1 => ?_)
  exact G_zret rfl dX10_tell_59
def f_X10_tell_42 (x1 : Int32) (M : gM) : Option (Bool × gM) := (if x1 = (3 : Int32) then (f_X10_tell_52 x1 M) else (if x1 = (4 : Int32) then (f_X10_tell_52 x1 M) else (if x1 = (5 : Int32) then (g_b (f_X10_tellAct M) (fun r10 M9 => (some (r10, M9)))) else (if x1 = (6 : Int32) then (g_b (f_X10_tellGusts M) (fun r8 M7 => (some (r8, M7)))) else (if x1 = (7 : Int32) then (g_b (f_X10_tellReflex M) (fun r6 M5 => (some (r6, M5)))) else (g_b (f_X10_wrong (1 : Int32) M) (fun r4 M3 => (some (r4, M3)))))))))
set_option maxRecDepth 100000 in
set_option maxHeartbeats 4000000 in
theorem o_X10_tell_42 {X : gX} (x1 : Int32) (M : gM) : G Y2 jX10_tell X (g_fin g_eb) 42 [(0, .ref (ad X 0)), (1, .int x1)] [] M (f_X10_tell_42 x1 M) := by
  rw [f_X10_tell_42]
  refine G_iload_n 1 dX10_tell_42 rfl rfl ?_
  refine G_iconst (v := 3) dX10_tell_43 (by decide) ?_
  refine G_icmp_eq (tgt := 52) dX10_tell_44 (by decide) ?_ ?_
  · exact G_sub [0, 1] rfl (o_X10_tell_52 x1 M)
  · refine G_iload_n 1 dX10_tell_47 rfl rfl ?_
    refine G_iconst (v := 4) dX10_tell_48 (by decide) ?_
    refine G_icmp_ne (tgt := 60) dX10_tell_49 (by decide) ?_ ?_
    · refine G_iload_n 1 dX10_tell_60 rfl rfl ?_
      refine G_iconst (v := 5) dX10_tell_61 (by decide) ?_
      refine G_icmp_ne (tgt := 70) dX10_tell_62 (by decide) ?_ ?_
      · refine G_iload_n 1 dX10_tell_70 rfl rfl ?_
        refine G_bipush (v := 6) dX10_tell_71 (by decide) ?_
        refine G_icmp_ne (tgt := 81) dX10_tell_73 (by decide) ?_ ?_
        · refine G_iload_n 1 dX10_tell_81 rfl rfl ?_
          refine G_bipush (v := 7) dX10_tell_82 (by decide) ?_
          refine G_icmp_ne (tgt := 94) dX10_tell_84 (by decide) ?_ ?_
          · refine G_aload_n 0 dX10_tell_94 rfl rfl ?_
            refine G_iconst (v := 1) dX10_tell_95 (by decide) ?_
            refine G_cVb (As := [.int 1]) (rest := []) (ok_X10_wrong (1 : Int32) M) rfl (y2_0) rfl mv_X10_298 dX10_tell_96 rfl rfl (Nat.le_of_ble_eq_true rfl) (g_fitN (by decide) (by decide)) (fun r4 M3 => ?_)
            exact G_zret rfl dX10_tell_99
          · refine G_aload_n 0 dX10_tell_87 rfl rfl ?_
            refine G_cVb (As := []) (rest := []) (ok_X10_tellReflex M) rfl (y2_0) rfl mv_X10_379 dX10_tell_88 rfl rfl (Nat.le_of_ble_eq_true rfl) (g_fitN (by decide) (by decide)) (fun r6 M5 => ?_)
            refine G_goto (tgt := 99) dX10_tell_91 (by decide) ?_
            exact G_zret rfl dX10_tell_99
        · refine G_aload_n 0 dX10_tell_76 rfl rfl ?_
          refine G_cVb (As := []) (rest := []) (ok_X10_tellGusts M) rfl (y2_0) rfl mv_X10_376 dX10_tell_77 rfl rfl (Nat.le_of_ble_eq_true rfl) (g_fitN (by decide) (by decide)) (fun r8 M7 => ?_)
          exact G_zret rfl dX10_tell_80
      · refine G_aload_n 0 dX10_tell_65 rfl rfl ?_
        refine G_cVb (As := []) (rest := []) (ok_X10_tellAct M) rfl (y2_0) rfl mv_X10_373 dX10_tell_66 rfl rfl (Nat.le_of_ble_eq_true rfl) (g_fitN (by decide) (by decide)) (fun r10 M9 => ?_)
        exact G_zret rfl dX10_tell_69
    · exact G_sub [0, 1] rfl (o_X10_tell_52 x1 M)
def f_X10_tell_26 (s0 : Int32) (M : gM) : Option (Bool × gM) := (if s0 < 0 then (f_X10_tell_42 s0 M) else (if (3 : Int32) ≤ s0 then (f_X10_tell_42 s0 M) else (g_b (f_X10_tellNumber s0 M) (fun r12 M11 => (some (r12, M11))))))
set_option maxRecDepth 100000 in
set_option maxHeartbeats 4000000 in
theorem o_X10_tell_26 {X : gX} (s0 : Int32) (M : gM) : G Y2 jX10_tell X (g_fin g_eb) 26 [(0, .ref (ad X 0))] [.int s0] M (f_X10_tell_26 s0 M) := by
  rw [f_X10_tell_26]
  refine G_istore_n (lv' := [(1, .int s0), (0, .ref (ad X 0))]) dX10_tell_26 rfl (by decide) rfl ?_
  refine G_iload_n 0 dX10_tell_27 rfl rfl ?_
  refine G_if_lt (tgt := 42) dX10_tell_28 (by decide) ?_ ?_
  · exact G_sub [1, 0] rfl (o_X10_tell_42 s0 M)
  · refine G_iload_n 0 dX10_tell_31 rfl rfl ?_
    refine G_iconst (v := 3) dX10_tell_32 (by decide) ?_
    refine G_icmp_ge (tgt := 42) dX10_tell_33 (by decide) ?_ ?_
    · exact G_sub [1, 0] rfl (o_X10_tell_42 s0 M)
    · refine G_aload_n 1 dX10_tell_36 rfl rfl ?_
      refine G_iload_n 0 dX10_tell_37 rfl rfl ?_
      refine G_cVb (As := [.int s0]) (rest := []) (ok_X10_tellNumber s0 M) rfl (y2_0) rfl mv_X10_367 dX10_tell_38 rfl rfl (Nat.le_of_ble_eq_true rfl) (g_fitN (by decide) (by decide)) (fun r12 M11 => ?_)
      exact G_zret rfl dX10_tell_41
def f_X10_tell (M : gM) : Option (Bool × gM) := (g_ck (M.1 0 8) 2001 (if (M.1 2 (tn (M.1 0 8))) = (3 : Int32) then (g_ck (M.1 0 8) 2001 (f_X10_tell_26 (M.1 4 (tn (M.1 0 8))) M)) else (f_X10_tell_26 ((-1) : Int32) M)))
set_option maxRecDepth 100000 in
set_option maxHeartbeats 4000000 in
theorem ok_X10_tell (M : gM) : g_met Y2 yX10_tell jX10_tell g_eb (fun Z => [.ref (Z.2.1 0)]) M (f_X10_tell M) := by
  refine g_enter (fun Z => [(0, .ref (Z.2.1 0))]) (by decide) rfl (fun Z => Nat.le_of_ble_eq_true rfl) (fun Z => rfl) (fun X => ?_)
  rw [f_X10_tell]
  refine G_aload_n 0 dX10_tell_0 rfl rfl ?_
  refine G_get 4 clX10 (y2_0) fl_X10_13 dX10_tell_1 (by decide) rfl rfl ?_
  refine G_aload_n 0 dX10_tell_4 rfl rfl ?_
  refine G_get 8 clX10 (y2_0) fl_X10_289 dX10_tell_5 (by decide) rfl rfl ?_
  refine G_iald (y2_2) dX10_tell_8 ?_
  refine G_iconst (v := 3) dX10_tell_9 (by decide) ?_
  refine G_icmp_ne (tgt := 25) dX10_tell_10 (by decide) ?_ ?_
  · refine G_iconst (v := (-1)) dX10_tell_25 (by decide) ?_
    exact G_sub [0] rfl (o_X10_tell_26 ((-1) : Int32) M)
  · refine G_aload_n 0 dX10_tell_13 rfl rfl ?_
    refine G_get 6 clX10 (y2_0) fl_X10_19 dX10_tell_14 (by decide) rfl rfl ?_
    refine G_aload_n 0 dX10_tell_17 rfl rfl ?_
    refine G_get 8 clX10 (y2_0) fl_X10_289 dX10_tell_18 (by decide) rfl rfl ?_
    refine G_iald (y2_4) dX10_tell_21 ?_
    refine G_goto (tgt := 26) dX10_tell_22 (by decide) ?_
    exact G_sub [0] rfl (o_X10_tell_26 (M.1 4 (tn (M.1 0 8))) M)
-- X10_parses
def f_X10_parses_5 : Nat → gM → Option (Bool × gM)
  | 0, _ => none
  | n + 1, M => (g_ck (M.1 0 8) 2001 (if (M.1 2 (tn (M.1 0 8))) = (4 : Int32) then (some (true, M)) else (g_b (f_X10_tell M) (fun r3 M2 => (if r3 then (g_b (f_X10_isSign (59 : Int32) M2) (fun r5 M4 => (if r5 then (g_b (f_X10_pass M4) (fun r7 M6 => (if r7 then (f_X10_parses_5 n M6) else (some (false, M6))))) else (g_b (f_X10_wrong (1 : Int32) M4) (fun r9 M8 => (some (r9, M8))))))) else (some (false, M2)))))))
set_option maxRecDepth 100000 in
set_option maxHeartbeats 4000000 in
theorem o_X10_parses_5 {X : gX} : ∀ (n : Nat) (M : gM), G Y2 jX10_parses X (g_fin g_eb) 5 [(0, .ref (ad X 0))] [] M (f_X10_parses_5 n M) := by
  intro n
  induction n with
  | zero => intro M; exact G_none
  | succ n ih =>
    intro M
    rw [f_X10_parses_5]
    refine G_aload_n 0 dX10_parses_5 rfl rfl ?_
    refine G_get 4 clX10 (y2_0) fl_X10_13 dX10_parses_6 (by decide) rfl rfl ?_
    refine G_aload_n 0 dX10_parses_9 rfl rfl ?_
    refine G_get 8 clX10 (y2_0) fl_X10_289 dX10_parses_10 (by decide) rfl rfl ?_
    refine G_iald (y2_2) dX10_parses_13 ?_
    refine G_iconst (v := 4) dX10_parses_14 (by decide) ?_
    refine G_icmp_eq (tgt := 51) dX10_parses_15 (by decide) ?_ ?_
    · refine G_iconst (v := 1) dX10_parses_51 (by decide) ?_
      exact G_zret (b := true) rfl dX10_parses_52
    · refine G_aload_n 0 dX10_parses_18 rfl rfl ?_
      refine G_cVb (As := []) (rest := []) (ok_X10_tell M) rfl (y2_0) rfl mv_X10_382 dX10_parses_19 rfl rfl (Nat.le_of_ble_eq_true rfl) (g_fitN (by decide) (by decide)) (fun r3 M2 => ?_)
      refine G_ifB_ne (tgt := 27) dX10_parses_22 (by decide) ?_ ?_
      · refine G_aload_n 0 dX10_parses_27 rfl rfl ?_
        refine G_bipush (v := 59) dX10_parses_28 (by decide) ?_
        refine G_cVb (As := [.int 59]) (rest := []) (ok_X10_isSign (59 : Int32) M2) rfl (y2_0) rfl mv_X10_305 dX10_parses_30 rfl rfl (Nat.le_of_ble_eq_true rfl) (g_fitN (by decide) (by decide)) (fun r5 M4 => ?_)
        refine G_ifB_ne (tgt := 42) dX10_parses_33 (by decide) ?_ ?_
        · refine G_aload_n 0 dX10_parses_42 rfl rfl ?_
          refine G_cVb (As := []) (rest := []) (ok_X10_pass M4) rfl (y2_0) rfl mv_X10_301 dX10_parses_43 rfl rfl (Nat.le_of_ble_eq_true rfl) (g_fitN (by decide) (by decide)) (fun r7 M6 => ?_)
          refine G_ifB_ne (tgt := 5) dX10_parses_46 (by decide) ?_ ?_
          · exact G_sub [0] rfl (ih M6)
          · refine G_iconst (v := 0) dX10_parses_49 (by decide) ?_
            exact G_zret (b := false) rfl dX10_parses_50
        · refine G_aload_n 0 dX10_parses_36 rfl rfl ?_
          refine G_iconst (v := 1) dX10_parses_37 (by decide) ?_
          refine G_cVb (As := [.int 1]) (rest := []) (ok_X10_wrong (1 : Int32) M4) rfl (y2_0) rfl mv_X10_298 dX10_parses_38 rfl rfl (Nat.le_of_ble_eq_true rfl) (g_fitN (by decide) (by decide)) (fun r9 M8 => ?_)
          exact G_zret rfl dX10_parses_41
      · refine G_iconst (v := 0) dX10_parses_25 (by decide) ?_
        exact G_zret (b := false) rfl dX10_parses_26
def f_X10_parses (M : gM) : Option (Bool × gM) := (g_m (sI M 0 8 (0 : Int32)) (fun M1 => (f_X10_parses_5 FU M1)))
set_option maxRecDepth 100000 in
set_option maxHeartbeats 4000000 in
theorem ok_X10_parses (M : gM) : g_met Y2 yX10_parses jX10_parses g_eb (fun Z => [.ref (Z.2.1 0)]) M (f_X10_parses M) := by
  refine g_enter (fun Z => [(0, .ref (Z.2.1 0))]) (by decide) rfl (fun Z => Nat.le_of_ble_eq_true rfl) (fun Z => rfl) (fun X => ?_)
  rw [f_X10_parses]
  refine G_aload_n 0 dX10_parses_0 rfl rfl ?_
  refine G_iconst (v := 0) dX10_parses_1 (by decide) ?_
  refine G_putI 8 clX10 (y2_0) fl_X10_289 dX10_parses_2 (by decide) rfl rfl rfl ?_
  refine G_m (fun M1 => ?_)
  exact G_sub [0] rfl (o_X10_parses_5 FU M1)
-- X10_afresh
def f_X10_afresh (M : gM) : Option (Unit × gM) := (g_m (sI M 0 50 (0 : Int32)) (fun M1 => (g_m (sI M1 0 53 (0 : Int32)) (fun M2 => (g_m (sI M2 0 54 (0 : Int32)) (fun M3 => (g_m (sI M3 0 72 (0 : Int32)) (fun M4 => (g_m (sI M4 0 73 (0 : Int32)) (fun M5 => (some ((), M5))))))))))))
set_option maxRecDepth 100000 in
set_option maxHeartbeats 4000000 in
theorem ok_X10_afresh (M : gM) : g_met Y2 yX10_afresh jX10_afresh g_ev (fun Z => [.ref (Z.2.1 0)]) M (f_X10_afresh M) := by
  refine g_enter (fun Z => [(0, .ref (Z.2.1 0))]) (by decide) rfl (fun Z => Nat.le_of_ble_eq_true rfl) (fun Z => rfl) (fun X => ?_)
  rw [f_X10_afresh]
  refine G_aload_n 0 dX10_afresh_0 rfl rfl ?_
  refine G_iconst (v := 0) dX10_afresh_1 (by decide) ?_
  refine G_putI 50 clX10 (y2_0) fl_X10_400 dX10_afresh_2 (by decide) rfl rfl rfl ?_
  refine G_m (fun M1 => ?_)
  refine G_aload_n 0 dX10_afresh_5 rfl rfl ?_
  refine G_iconst (v := 0) dX10_afresh_6 (by decide) ?_
  refine G_putZ 53 clX10 (y2_0) fl_X10_403 dX10_afresh_7 (by decide) rfl rfl rfl ⟨rfl, rfl⟩ ?_
  refine G_m (fun M2 => ?_)
  refine G_aload_n 0 dX10_afresh_10 rfl rfl ?_
  refine G_iconst (v := 0) dX10_afresh_11 (by decide) ?_
  refine G_putI 54 clX10 (y2_0) fl_X10_407 dX10_afresh_12 (by decide) rfl rfl rfl ?_
  refine G_m (fun M3 => ?_)
  refine G_aload_n 0 dX10_afresh_15 rfl rfl ?_
  refine G_iconst (v := 0) dX10_afresh_16 (by decide) ?_
  refine G_putZ 72 clX10 (y2_0) fl_X10_410 dX10_afresh_17 (by decide) rfl rfl rfl ⟨rfl, rfl⟩ ?_
  refine G_m (fun M4 => ?_)
  refine G_aload_n 0 dX10_afresh_20 rfl rfl ?_
  refine G_iconst (v := 0) dX10_afresh_21 (by decide) ?_
  refine G_putZ 73 clX10 (y2_0) fl_X10_413 dX10_afresh_22 (by decide) rfl rfl rfl ⟨rfl, rfl⟩ ?_
  refine G_m (fun M5 => ?_)
  exact G_vret rfl dX10_afresh_25
-- X10_read
def f_X10_read_67 (M : gM) : Option (Int32 × gM) := (g_m (sI M 0 1 (0 : Int32)) (fun M11 => (if (M11.1 0 9) = 0 then (g_m (sI M11 0 13 (M11.1 0 14)) (fun M12 => (g_m (sI M12 0 47 (1 : Int32)) (fun M13 => (g_m (sI M13 0 48 (0 : Int32)) (fun M14 => (g_b (f_X10_afresh M14) (fun r16 M15 => (some ((0 : Int32), M15)))))))))) else (some ((M11.1 0 9), M11)))))
set_option maxRecDepth 100000 in
set_option maxHeartbeats 4000000 in
theorem o_X10_read_67 {X : gX} (M : gM) : G Y2 jX10_read X (g_fin g_ei) 67 [(0, .ref (ad X 0))] [] M (f_X10_read_67 M) := by
  rw [f_X10_read_67]
  refine G_aload_n 0 dX10_read_67 rfl rfl ?_
  refine G_iconst (v := 0) dX10_read_68 (by decide) ?_
  refine G_putI 1 clX10 (y2_0) fl_X10_214 dX10_read_69 (by decide) rfl rfl rfl ?_
  refine G_m (fun M11 => ?_)
  refine G_aload_n 0 dX10_read_72 rfl rfl ?_
  refine G_get 9 clX10 (y2_0) fl_X10_286 dX10_read_73 (by decide) rfl rfl ?_
  refine G_if_eq (tgt := 84) dX10_read_76 (by decide) ?_ ?_
  · refine G_aload_n 0 dX10_read_84 rfl rfl ?_
    refine G_aload_n 0 dX10_read_85 rfl rfl ?_
    refine G_get 14 clX10 (y2_0) fl_X10_318 dX10_read_86 (by decide) rfl rfl ?_
    refine G_putI 13 clX10 (y2_0) fl_X10_388 dX10_read_89 (by decide) rfl rfl rfl ?_
    refine G_m (fun M12 => ?_)
    refine G_aload_n 0 dX10_read_92 rfl rfl ?_
    refine G_iconst (v := 1) dX10_read_93 (by decide) ?_
    refine G_putI 47 clX10 (y2_0) fl_X10_127 dX10_read_94 (by decide) rfl rfl rfl ?_
    refine G_m (fun M13 => ?_)
    refine G_aload_n 0 dX10_read_97 rfl rfl ?_
    refine G_iconst (v := 0) dX10_read_98 (by decide) ?_
    refine G_putI 48 clX10 (y2_0) fl_X10_394 dX10_read_99 (by decide) rfl rfl rfl ?_
    refine G_m (fun M14 => ?_)
    refine G_aload_n 0 dX10_read_102 rfl rfl ?_
    refine G_cVv (As := []) (rest := []) (ok_X10_afresh M14) rfl (y2_0) rfl mv_X10_397 dX10_read_103 rfl rfl (Nat.le_of_ble_eq_true rfl) (g_fitN (by decide) (by decide)) (fun r16 M15 => ?_)
    refine G_iconst (v := 0) dX10_read_106 (by decide) ?_
    exact G_iret rfl dX10_read_107
  · refine G_aload_n 0 dX10_read_79 rfl rfl ?_
    refine G_get 9 clX10 (y2_0) fl_X10_286 dX10_read_80 (by decide) rfl rfl ?_
    exact G_iret rfl dX10_read_83
def f_X10_read (M : gM) : Option (Int32 × gM) := (g_b (f_X10_scanAll M) (fun r2 M1 => (g_m (sI M1 0 9 (0 : Int32)) (fun M3 => (g_m (sI M3 0 10 ((-1) : Int32)) (fun M4 => (g_m (sI M4 0 11 (0 : Int32)) (fun M5 => (g_m (sI M5 0 14 ((1 : Int32) - (M5.1 0 13))) (fun M6 => (g_b (f_X10_begin (M6.1 0 14) M6) (fun r8 M7 => (g_b (f_X10_parses M7) (fun r10 M9 => (if r10 then (if (M9.1 0 11) = 0 then (f_X10_read_67 M9) else (g_m (sI M9 0 9 (M9.1 0 11)) (fun M17 => (g_m (sI M17 0 10 (M17.1 0 12)) (fun M18 => (f_X10_read_67 M18)))))) else (f_X10_read_67 M9))))))))))))))))
set_option maxRecDepth 100000 in
set_option maxHeartbeats 4000000 in
theorem ok_X10_read (M : gM) : g_met Y2 yX10_read jX10_read g_ei (fun Z => [.ref (Z.2.1 0)]) M (f_X10_read M) := by
  refine g_enter (fun Z => [(0, .ref (Z.2.1 0))]) (by decide) rfl (fun Z => Nat.le_of_ble_eq_true rfl) (fun Z => rfl) (fun X => ?_)
  rw [f_X10_read]
  refine G_aload_n 0 dX10_read_0 rfl rfl ?_
  refine G_cVv (As := []) (rest := []) (ok_X10_scanAll M) rfl (y2_0) rfl mv_X10_385 dX10_read_1 rfl rfl (Nat.le_of_ble_eq_true rfl) (g_fitN (by decide) (by decide)) (fun r2 M1 => ?_)
  refine G_aload_n 0 dX10_read_4 rfl rfl ?_
  refine G_iconst (v := 0) dX10_read_5 (by decide) ?_
  refine G_putI 9 clX10 (y2_0) fl_X10_286 dX10_read_6 (by decide) rfl rfl rfl ?_
  refine G_m (fun M3 => ?_)
  refine G_aload_n 0 dX10_read_9 rfl rfl ?_
  refine G_iconst (v := (-1)) dX10_read_10 (by decide) ?_
  refine G_putI 10 clX10 (y2_0) fl_X10_26 dX10_read_11 (by decide) rfl rfl rfl ?_
  refine G_m (fun M4 => ?_)
  refine G_aload_n 0 dX10_read_14 rfl rfl ?_
  refine G_iconst (v := 0) dX10_read_15 (by decide) ?_
  refine G_putI 11 clX10 (y2_0) fl_X10_292 dX10_read_16 (by decide) rfl rfl rfl ?_
  refine G_m (fun M5 => ?_)
  refine G_aload_n 0 dX10_read_19 rfl rfl ?_
  refine G_iconst (v := 1) dX10_read_20 (by decide) ?_
  refine G_aload_n 0 dX10_read_21 rfl rfl ?_
  refine G_get 13 clX10 (y2_0) fl_X10_388 dX10_read_22 (by decide) rfl rfl ?_
  refine G_isub dX10_read_25 ?_
  refine G_putI 14 clX10 (y2_0) fl_X10_318 dX10_read_26 (by decide) rfl rfl rfl ?_
  refine G_m (fun M6 => ?_)
  refine G_aload_n 0 dX10_read_29 rfl rfl ?_
  refine G_aload_n 0 dX10_read_30 rfl rfl ?_
  refine G_get 14 clX10 (y2_0) fl_X10_318 dX10_read_31 (by decide) rfl rfl ?_
  refine G_cVv (As := [.int (M6.1 0 14)]) (rest := []) (ok_X10_begin (M6.1 0 14) M6) rfl (y2_0) rfl mv_X10_207 dX10_read_34 rfl rfl (Nat.le_of_ble_eq_true rfl) (g_fitN (by decide) (by decide)) (fun r8 M7 => ?_)
  refine G_aload_n 0 dX10_read_37 rfl rfl ?_
  refine G_cVb (As := []) (rest := []) (ok_X10_parses M7) rfl (y2_0) rfl mv_X10_391 dX10_read_38 rfl rfl (Nat.le_of_ble_eq_true rfl) (g_fitN (by decide) (by decide)) (fun r10 M9 => ?_)
  refine G_ifB_eq (tgt := 67) dX10_read_41 (by decide) ?_ ?_
  · exact G_sub [0] rfl (o_X10_read_67 M9)
  · refine G_aload_n 0 dX10_read_44 rfl rfl ?_
    refine G_get 11 clX10 (y2_0) fl_X10_292 dX10_read_45 (by decide) rfl rfl ?_
    refine G_if_eq (tgt := 67) dX10_read_48 (by decide) ?_ ?_
    · exact G_sub [0] rfl (o_X10_read_67 M9)
    · refine G_aload_n 0 dX10_read_51 rfl rfl ?_
      refine G_aload_n 0 dX10_read_52 rfl rfl ?_
      refine G_get 11 clX10 (y2_0) fl_X10_292 dX10_read_53 (by decide) rfl rfl ?_
      refine G_putI 9 clX10 (y2_0) fl_X10_286 dX10_read_56 (by decide) rfl rfl rfl ?_
      refine G_m (fun M17 => ?_)
      refine G_aload_n 0 dX10_read_59 rfl rfl ?_
      refine G_aload_n 0 dX10_read_60 rfl rfl ?_
      refine G_get 12 clX10 (y2_0) fl_X10_295 dX10_read_61 (by decide) rfl rfl ?_
      refine G_putI 10 clX10 (y2_0) fl_X10_26 dX10_read_64 (by decide) rfl rfl rfl ?_
      refine G_m (fun M18 => ?_)
      exact G_sub [0] rfl (o_X10_read_67 M18)
-- X10_place
def f_X10_place (M : gM) : Option (Int32 × gM) := (some ((M.1 0 10), M))
set_option maxRecDepth 100000 in
set_option maxHeartbeats 4000000 in
theorem ok_X10_place (M : gM) : g_met Y2 yX10_place jX10_place g_ei (fun Z => [.ref (Z.2.1 0)]) M (f_X10_place M) := by
  refine g_enter (fun Z => [(0, .ref (Z.2.1 0))]) (by decide) rfl (fun Z => Nat.le_of_ble_eq_true rfl) (fun Z => rfl) (fun X => ?_)
  rw [f_X10_place]
  refine G_aload_n 0 dX10_place_0 rfl rfl ?_
  refine G_get 10 clX10 (y2_0) fl_X10_26 dX10_place_1 (by decide) rfl rfl ?_
  exact G_iret rfl dX10_place_4
-- X10_pole
def f_X10_pole (a1 : Int32) (M : gM) : Option (Bool × gM) := (if a1 < (1 : Int32) then (some (false, M)) else (if a1 ≤ (4 : Int32) then (g_m (sI M 0 47 a1) (fun M1 => (g_v (M1.1 0 73) (fun y2 => (g_b (f_X10_afresh M1) (fun r4 M3 => (g_01 y2 (g_m (sI M3 0 73 y2) (fun M5 => (some (true, M5))))))))))) else (some (false, M))))
set_option maxRecDepth 100000 in
set_option maxHeartbeats 4000000 in
theorem ok_X10_pole (a1 : Int32) (M : gM) : g_met Y2 yX10_pole jX10_pole g_eb (fun Z => [.ref (Z.2.1 0), .int a1]) M (f_X10_pole a1 M) := by
  refine g_enter (fun Z => [(0, .ref (Z.2.1 0)), (1, .int a1)]) (by decide) rfl (fun Z => Nat.le_of_ble_eq_true rfl) (fun Z => rfl) (fun X => ?_)
  rw [f_X10_pole]
  refine G_iload_n 1 dX10_pole_0 rfl rfl ?_
  refine G_iconst (v := 1) dX10_pole_1 (by decide) ?_
  refine G_icmp_lt (tgt := 10) dX10_pole_2 (by decide) ?_ ?_
  · refine G_iconst (v := 0) dX10_pole_10 (by decide) ?_
    exact G_zret (b := false) rfl dX10_pole_11
  · refine G_iload_n 1 dX10_pole_5 rfl rfl ?_
    refine G_iconst (v := 4) dX10_pole_6 (by decide) ?_
    refine G_icmp_le (tgt := 12) dX10_pole_7 (by decide) ?_ ?_
    · refine G_aload_n 0 dX10_pole_12 rfl rfl ?_
      refine G_iload_n 1 dX10_pole_13 rfl rfl ?_
      refine G_putI 47 clX10 (y2_0) fl_X10_127 dX10_pole_14 (by decide) rfl rfl rfl ?_
      refine G_m (fun M1 => ?_)
      refine G_aload_n 0 dX10_pole_17 rfl rfl ?_
      refine G_get 73 clX10 (y2_0) fl_X10_413 dX10_pole_18 (by decide) rfl rfl ?_
      refine G_vi (fun y2 => ?_)
      refine G_istore_n (lv' := [(2, .int y2), (0, .ref (ad X 0)), (1, .int a1)]) dX10_pole_21 rfl (by decide) rfl ?_
      refine G_aload_n 1 dX10_pole_22 rfl rfl ?_
      refine G_cVv (As := []) (rest := []) (ok_X10_afresh M1) rfl (y2_0) rfl mv_X10_397 dX10_pole_23 rfl rfl (Nat.le_of_ble_eq_true rfl) (g_fitN (by decide) (by decide)) (fun r4 M3 => ?_)
      refine G_aload_n 1 dX10_pole_26 rfl rfl ?_
      refine G_iload_n 0 dX10_pole_27 rfl rfl ?_
      refine G_putZI 73 clX10 (y2_0) fl_X10_413 dX10_pole_28 (by decide) rfl rfl rfl ?_
      refine G_m (fun M5 => ?_)
      refine G_iconst (v := 1) dX10_pole_31 (by decide) ?_
      exact G_zret (b := true) rfl dX10_pole_32
    · refine G_iconst (v := 0) dX10_pole_10 (by decide) ?_
      exact G_zret (b := false) rfl dX10_pole_11
-- X10_variable
def f_X10_variable (a1 : Int32) (M : gM) : Option (Int32 × gM) := (if a1 = 0 then (some ((M.1 0 64), M)) else (if a1 = (1 : Int32) then (some ((M.1 0 65), M)) else (if a1 = (2 : Int32) then (some ((M.1 0 66), M)) else (if a1 = (3 : Int32) then (some ((M.1 0 67), M)) else (if a1 = (4 : Int32) then (some ((M.1 0 68), M)) else (some ((M.1 0 69), M)))))))
set_option maxRecDepth 100000 in
set_option maxHeartbeats 4000000 in
theorem ok_X10_variable (a1 : Int32) (M : gM) : g_met Y2 yX10_variable jX10_variable g_ei (fun Z => [.ref (Z.2.1 0), .int a1]) M (f_X10_variable a1 M) := by
  refine g_enter (fun Z => [(0, .ref (Z.2.1 0)), (1, .int a1)]) (by decide) rfl (fun Z => Nat.le_of_ble_eq_true rfl) (fun Z => rfl) (fun X => ?_)
  rw [f_X10_variable]
  refine G_iload_n 1 dX10_variable_0 rfl rfl ?_
  refine G_if_ne (tgt := 11) dX10_variable_1 (by decide) ?_ ?_
  · refine G_iload_n 1 dX10_variable_11 rfl rfl ?_
    refine G_iconst (v := 1) dX10_variable_12 (by decide) ?_
    refine G_icmp_ne (tgt := 23) dX10_variable_13 (by decide) ?_ ?_
    · refine G_iload_n 1 dX10_variable_23 rfl rfl ?_
      refine G_iconst (v := 2) dX10_variable_24 (by decide) ?_
      refine G_icmp_ne (tgt := 35) dX10_variable_25 (by decide) ?_ ?_
      · refine G_iload_n 1 dX10_variable_35 rfl rfl ?_
        refine G_iconst (v := 3) dX10_variable_36 (by decide) ?_
        refine G_icmp_ne (tgt := 47) dX10_variable_37 (by decide) ?_ ?_
        · refine G_iload_n 1 dX10_variable_47 rfl rfl ?_
          refine G_iconst (v := 4) dX10_variable_48 (by decide) ?_
          refine G_icmp_ne (tgt := 59) dX10_variable_49 (by decide) ?_ ?_
          · refine G_aload_n 0 dX10_variable_59 rfl rfl ?_
            refine G_get 69 clX10 (y2_0) fl_X10_431 dX10_variable_60 (by decide) rfl rfl ?_
            exact G_iret rfl dX10_variable_63
          · refine G_aload_n 0 dX10_variable_52 rfl rfl ?_
            refine G_get 68 clX10 (y2_0) fl_X10_428 dX10_variable_53 (by decide) rfl rfl ?_
            refine G_goto (tgt := 63) dX10_variable_56 (by decide) ?_
            exact G_iret rfl dX10_variable_63
        · refine G_aload_n 0 dX10_variable_40 rfl rfl ?_
          refine G_get 67 clX10 (y2_0) fl_X10_425 dX10_variable_41 (by decide) rfl rfl ?_
          refine G_goto (tgt := 63) dX10_variable_44 (by decide) ?_
          exact G_iret rfl dX10_variable_63
      · refine G_aload_n 0 dX10_variable_28 rfl rfl ?_
        refine G_get 66 clX10 (y2_0) fl_X10_422 dX10_variable_29 (by decide) rfl rfl ?_
        refine G_goto (tgt := 63) dX10_variable_32 (by decide) ?_
        exact G_iret rfl dX10_variable_63
    · refine G_aload_n 0 dX10_variable_16 rfl rfl ?_
      refine G_get 65 clX10 (y2_0) fl_X10_419 dX10_variable_17 (by decide) rfl rfl ?_
      refine G_goto (tgt := 63) dX10_variable_20 (by decide) ?_
      exact G_iret rfl dX10_variable_63
  · refine G_aload_n 0 dX10_variable_4 rfl rfl ?_
    refine G_get 64 clX10 (y2_0) fl_X10_416 dX10_variable_5 (by decide) rfl rfl ?_
    refine G_goto (tgt := 63) dX10_variable_8 (by decide) ?_
    exact G_iret rfl dX10_variable_63
-- X10_sum
def f_X10_sum_137 (k10 : Int32 → Int32 → Int32 → gM → Option (Int32 × gM)) (x2 : Int32) (x3 : Int32) (x4 : Int32) (x5 : Int32) (x6 : Int32) (x7 : Int32) (M : gM) : Option (Int32 × gM) := (if x5 = (2 : Int32) then (g_ck (x3 - (1 : Int32)) 500 (g_m (sI M 46 (tn (x3 - (1 : Int32))) (x7 + x6)) (fun M8 => (k10 x2 x3 (x4 + 1) M8)))) else (if x5 = (3 : Int32) then (g_ck (x3 - (1 : Int32)) 500 (g_m (sI M 46 (tn (x3 - (1 : Int32))) (x7 - x6)) (fun M7 => (k10 x2 x3 (x4 + 1) M7)))) else (if x5 = (4 : Int32) then (g_ck (x3 - (1 : Int32)) 500 (g_m (sI M 46 (tn (x3 - (1 : Int32))) (x7 * x6)) (fun M6 => (k10 x2 x3 (x4 + 1) M6)))) else (g_nz x6 (g_ck (x3 - (1 : Int32)) 500 (g_m (sI M 46 (tn (x3 - (1 : Int32))) (x7 / x6)) (fun M5 => (k10 x2 x3 (x4 + 1) M5))))))))
set_option maxRecDepth 100000 in
set_option maxHeartbeats 4000000 in
theorem o_X10_sum_137 {X : gX} {k10 : Int32 → Int32 → Int32 → gM → Option (Int32 × gM)} (hk10 : ∀ (x2 : Int32) (x3 : Int32) (x4 : Int32) (M : gM), G Y2 jX10_sum X (g_fin g_ei) 10 [(0, .ref (ad X 0)), (2, .int x2), (3, .int x3), (4, .int x4)] [] M (k10 x2 x3 x4 M)) (x2 : Int32) (x3 : Int32) (x4 : Int32) (x5 : Int32) (x6 : Int32) (x7 : Int32) (M : gM) : G Y2 jX10_sum X (g_fin g_ei) 137 [(0, .ref (ad X 0)), (2, .int x2), (3, .int x3), (4, .int x4), (5, .int x5), (6, .int x6), (7, .int x7)] [] M (f_X10_sum_137 k10 x2 x3 x4 x5 x6 x7 M) := by
  rw [f_X10_sum_137]
  refine G_aload_n 0 dX10_sum_137 rfl rfl ?_
  refine G_get 71 clX10 (y2_0) fl_X10_154 dX10_sum_138 (by decide) rfl rfl ?_
  refine G_iload_n 2 dX10_sum_141 rfl rfl ?_
  refine G_iconst (v := 1) dX10_sum_142 (by decide) ?_
  refine G_isub dX10_sum_143 ?_
  refine G_iload 4 dX10_sum_144 rfl ?_
  refine G_iconst (v := 2) dX10_sum_146 (by decide) ?_
  refine G_icmp_ne (tgt := 158) dX10_sum_147 (by decide) ?_ ?_
  · refine G_iload 4 dX10_sum_158 rfl ?_
    refine G_iconst (v := 3) dX10_sum_160 (by decide) ?_
    refine G_icmp_ne (tgt := 172) dX10_sum_161 (by decide) ?_ ?_
    · refine G_iload 4 dX10_sum_172 rfl ?_
      refine G_iconst (v := 4) dX10_sum_174 (by decide) ?_
      refine G_icmp_ne (tgt := 186) dX10_sum_175 (by decide) ?_ ?_
      · refine G_iload 6 dX10_sum_186 rfl ?_
        refine G_iload 5 dX10_sum_188 rfl ?_
        refine G_idiv dX10_sum_190 ?_
        refine G_iast (y2_46) dX10_sum_191 ?_
        refine G_m (fun M5 => ?_)
        refine G_iinc (v := x4 + 1) (lv' := [(4, .int (x4 + 1)), (0, .ref (ad X 0)), (2, .int x2), (3, .int x3), (5, .int x5), (6, .int x6), (7, .int x7)]) 3 dX10_sum_192 rfl rfl (by decide) rfl ?_
        refine G_goto (tgt := 10) dX10_sum_195 (by decide) ?_
        exact G_sub [1, 2, 3, 0] rfl (hk10 x2 x3 (x4 + 1) M5)
      · refine G_iload 6 dX10_sum_178 rfl ?_
        refine G_iload 5 dX10_sum_180 rfl ?_
        refine G_imul dX10_sum_182 ?_
        refine G_goto (tgt := 191) dX10_sum_183 (by decide) ?_
        refine G_iast (y2_46) dX10_sum_191 ?_
        refine G_m (fun M6 => ?_)
        refine G_iinc (v := x4 + 1) (lv' := [(4, .int (x4 + 1)), (0, .ref (ad X 0)), (2, .int x2), (3, .int x3), (5, .int x5), (6, .int x6), (7, .int x7)]) 3 dX10_sum_192 rfl rfl (by decide) rfl ?_
        refine G_goto (tgt := 10) dX10_sum_195 (by decide) ?_
        exact G_sub [1, 2, 3, 0] rfl (hk10 x2 x3 (x4 + 1) M6)
    · refine G_iload 6 dX10_sum_164 rfl ?_
      refine G_iload 5 dX10_sum_166 rfl ?_
      refine G_isub dX10_sum_168 ?_
      refine G_goto (tgt := 191) dX10_sum_169 (by decide) ?_
      refine G_iast (y2_46) dX10_sum_191 ?_
      refine G_m (fun M7 => ?_)
      refine G_iinc (v := x4 + 1) (lv' := [(4, .int (x4 + 1)), (0, .ref (ad X 0)), (2, .int x2), (3, .int x3), (5, .int x5), (6, .int x6), (7, .int x7)]) 3 dX10_sum_192 rfl rfl (by decide) rfl ?_
      refine G_goto (tgt := 10) dX10_sum_195 (by decide) ?_
      exact G_sub [1, 2, 3, 0] rfl (hk10 x2 x3 (x4 + 1) M7)
  · refine G_iload 6 dX10_sum_150 rfl ?_
    refine G_iload 5 dX10_sum_152 rfl ?_
    refine G_iadd dX10_sum_154 ?_
    refine G_goto (tgt := 191) dX10_sum_155 (by decide) ?_
    refine G_iast (y2_46) dX10_sum_191 ?_
    refine G_m (fun M8 => ?_)
    refine G_iinc (v := x4 + 1) (lv' := [(4, .int (x4 + 1)), (0, .ref (ad X 0)), (2, .int x2), (3, .int x3), (5, .int x5), (6, .int x6), (7, .int x7)]) 3 dX10_sum_192 rfl rfl (by decide) rfl ?_
    refine G_goto (tgt := 10) dX10_sum_195 (by decide) ?_
    exact G_sub [1, 2, 3, 0] rfl (hk10 x2 x3 (x4 + 1) M8)
def f_X10_sum_10 : Nat → Int32 → Int32 → Int32 → gM → Option (Int32 × gM)
  | 0, _, _, _, _ => none
  | n + 1, x2, x3, x4, M => (if x2 ≤ x4 then (g_ck (0 : Int32) 500 (some ((M.1 46 (tn (0 : Int32))), M))) else (g_ck x4 1000 (g_v (M.1 29 (tn x4)) (fun y2 => (if (2 : Int32) ≤ y2 then (if y2 = (6 : Int32) then (g_ck (x3 - (1 : Int32)) 500 (g_ck (x3 - (1 : Int32)) 500 (g_m (sI M 46 (tn (x3 - (1 : Int32))) (-(M.1 46 (tn (x3 - (1 : Int32)))))) (fun M10 => (f_X10_sum_10 n x2 x3 (x4 + 1) M10))))) else (g_ck (x3 - (1 : Int32)) 500 (g_v (M.1 46 (tn (x3 - (1 : Int32)))) (fun y3 => (g_ck (x3 - (2 : Int32)) 500 (g_v (M.1 46 (tn (x3 - (2 : Int32)))) (fun y4 => (if y2 = (5 : Int32) then (if y3 = 0 then (g_m (sI M 0 70 (1 : Int32)) (fun M9 => (some ((0 : Int32), M9)))) else (f_X10_sum_137 (f_X10_sum_10 n) x2 (x3 + (-1)) x4 y2 y3 y4 M)) else (f_X10_sum_137 (f_X10_sum_10 n) x2 (x3 + (-1)) x4 y2 y3 y4 M))))))))) else (if y2 = 0 then (g_ck x4 1000 (g_ck x3 500 (g_m (sI M 46 (tn x3) (M.1 30 (tn x4))) (fun M14 => (f_X10_sum_10 n x2 (x3 + 1) (x4 + 1) M14))))) else (g_ck x4 1000 (g_b (f_X10_variable (M.1 30 (tn x4)) M) (fun r12 M11 => (g_ck x3 500 (g_m (sI M11 46 (tn x3) r12) (fun M13 => (f_X10_sum_10 n x2 (x3 + 1) (x4 + 1) M13)))))))))))))
set_option maxRecDepth 100000 in
set_option maxHeartbeats 4000000 in
theorem o_X10_sum_10 {X : gX} : ∀ (n : Nat) (x2 : Int32) (x3 : Int32) (x4 : Int32) (M : gM), G Y2 jX10_sum X (g_fin g_ei) 10 [(0, .ref (ad X 0)), (2, .int x2), (3, .int x3), (4, .int x4)] [] M (f_X10_sum_10 n x2 x3 x4 M) := by
  intro n
  induction n with
  | zero => intro x2 x3 x4 M; exact G_none
  | succ n ih =>
    intro x2 x3 x4 M
    rw [f_X10_sum_10]
    refine G_iload 3 dX10_sum_10 rfl ?_
    refine G_iload_n 1 dX10_sum_12 rfl rfl ?_
    refine G_icmp_ge (tgt := 198) dX10_sum_13 (by decide) ?_ ?_
    · refine G_aload_n 0 dX10_sum_198 rfl rfl ?_
      refine G_get 71 clX10 (y2_0) fl_X10_154 dX10_sum_199 (by decide) rfl rfl ?_
      refine G_iconst (v := 0) dX10_sum_202 (by decide) ?_
      refine G_iald (y2_46) dX10_sum_203 ?_
      exact G_iret rfl dX10_sum_204
    · refine G_aload_n 0 dX10_sum_16 rfl rfl ?_
      refine G_get 38 clX10 (y2_0) fl_X10_99 dX10_sum_17 (by decide) rfl rfl ?_
      refine G_iload 3 dX10_sum_20 rfl ?_
      refine G_iald (y2_29) dX10_sum_22 ?_
      refine G_vi (fun y2 => ?_)
      refine G_istore (lv' := [(5, .int y2), (0, .ref (ad X 0)), (2, .int x2), (3, .int x3), (4, .int x4)]) dX10_sum_23 (by decide) rfl ?_
      refine G_iload 0 dX10_sum_25 rfl ?_
      refine G_iconst (v := 2) dX10_sum_27 (by decide) ?_
      refine G_icmp_ge (tgt := 69) dX10_sum_28 (by decide) ?_ ?_
      · refine G_iload 0 dX10_sum_69 rfl ?_
        refine G_bipush (v := 6) dX10_sum_71 (by decide) ?_
        refine G_icmp_ne (tgt := 96) dX10_sum_73 (by decide) ?_ ?_
        · refine G_aload_n 1 dX10_sum_96 rfl rfl ?_
          refine G_get 71 clX10 (y2_0) fl_X10_154 dX10_sum_97 (by decide) rfl rfl ?_
          refine G_iload_n 3 dX10_sum_100 rfl rfl ?_
          refine G_iconst (v := 1) dX10_sum_101 (by decide) ?_
          refine G_isub dX10_sum_102 ?_
          refine G_iald (y2_46) dX10_sum_103 ?_
          refine G_vi (fun y3 => ?_)
          refine G_istore (lv' := [(6, .int y3), (5, .int y2), (0, .ref (ad X 0)), (2, .int x2), (3, .int x3), (4, .int x4)]) dX10_sum_104 (by decide) rfl ?_
          refine G_aload_n 2 dX10_sum_106 rfl rfl ?_
          refine G_get 71 clX10 (y2_0) fl_X10_154 dX10_sum_107 (by decide) rfl rfl ?_
          refine G_iload_n 4 dX10_sum_110 rfl rfl ?_
          refine G_iconst (v := 2) dX10_sum_111 (by decide) ?_
          refine G_isub dX10_sum_112 ?_
          refine G_iald (y2_46) dX10_sum_113 ?_
          refine G_vi (fun y4 => ?_)
          refine G_istore (lv' := [(7, .int y4), (6, .int y3), (5, .int y2), (0, .ref (ad X 0)), (2, .int x2), (3, .int x3), (4, .int x4)]) dX10_sum_114 (by decide) rfl ?_
          refine G_iinc (v := x3 + (-1)) (lv' := [(3, .int (x3 + (-1))), (7, .int y4), (6, .int y3), (5, .int y2), (0, .ref (ad X 0)), (2, .int x2), (4, .int x4)]) 5 dX10_sum_116 rfl rfl (by decide) rfl ?_
          refine G_iload 3 dX10_sum_119 rfl ?_
          refine G_iconst (v := 5) dX10_sum_121 (by decide) ?_
          refine G_icmp_ne (tgt := 137) dX10_sum_122 (by decide) ?_ ?_
          · exact G_sub [4, 5, 0, 6, 3, 2, 1] rfl (o_X10_sum_137 ih x2 (x3 + (-1)) x4 y2 y3 y4 M)
          · refine G_iload 2 dX10_sum_125 rfl ?_
            refine G_if_ne (tgt := 137) dX10_sum_127 (by decide) ?_ ?_
            · exact G_sub [4, 5, 0, 6, 3, 2, 1] rfl (o_X10_sum_137 ih x2 (x3 + (-1)) x4 y2 y3 y4 M)
            · refine G_aload_n 4 dX10_sum_130 rfl rfl ?_
              refine G_iconst (v := 1) dX10_sum_131 (by decide) ?_
              refine G_putZ 70 clX10 (y2_0) fl_X10_434 dX10_sum_132 (by decide) rfl rfl rfl ⟨rfl, rfl⟩ ?_
              refine G_m (fun M9 => ?_)
              refine G_iconst (v := 0) dX10_sum_135 (by decide) ?_
              exact G_iret rfl dX10_sum_136
        · refine G_aload_n 1 dX10_sum_76 rfl rfl ?_
          refine G_get 71 clX10 (y2_0) fl_X10_154 dX10_sum_77 (by decide) rfl rfl ?_
          refine G_iload_n 3 dX10_sum_80 rfl rfl ?_
          refine G_iconst (v := 1) dX10_sum_81 (by decide) ?_
          refine G_isub dX10_sum_82 ?_
          refine G_aload_n 1 dX10_sum_83 rfl rfl ?_
          refine G_get 71 clX10 (y2_0) fl_X10_154 dX10_sum_84 (by decide) rfl rfl ?_
          refine G_iload_n 3 dX10_sum_87 rfl rfl ?_
          refine G_iconst (v := 1) dX10_sum_88 (by decide) ?_
          refine G_isub dX10_sum_89 ?_
          refine G_iald (y2_46) dX10_sum_90 ?_
          refine G_ineg dX10_sum_91 ?_
          refine G_iast (y2_46) dX10_sum_92 ?_
          refine G_m (fun M10 => ?_)
          refine G_goto (tgt := 192) dX10_sum_93 (by decide) ?_
          refine G_iinc (v := x4 + 1) (lv' := [(4, .int (x4 + 1)), (5, .int y2), (0, .ref (ad X 0)), (2, .int x2), (3, .int x3)]) 4 dX10_sum_192 rfl rfl (by decide) rfl ?_
          refine G_goto (tgt := 10) dX10_sum_195 (by decide) ?_
          exact G_sub [2, 3, 4, 0] rfl (ih x2 x3 (x4 + 1) M10)
      · refine G_aload_n 1 dX10_sum_31 rfl rfl ?_
        refine G_get 71 clX10 (y2_0) fl_X10_154 dX10_sum_32 (by decide) rfl rfl ?_
        refine G_iload_n 3 dX10_sum_35 rfl rfl ?_
        refine G_iload 0 dX10_sum_36 rfl ?_
        refine G_if_ne (tgt := 51) dX10_sum_38 (by decide) ?_ ?_
        · refine G_aload_n 1 dX10_sum_51 rfl rfl ?_
          refine G_aload_n 1 dX10_sum_52 rfl rfl ?_
          refine G_get 39 clX10 (y2_0) fl_X10_102 dX10_sum_53 (by decide) rfl rfl ?_
          refine G_iload 4 dX10_sum_56 rfl ?_
          refine G_iald (y2_30) dX10_sum_58 ?_
          refine G_cVi (As := [.int (M.1 30 (tn x4))]) (rest := [.int x3, .ref (ad X 46)]) (ok_X10_variable (M.1 30 (tn x4)) M) rfl (y2_0) rfl mv_X10_437 dX10_sum_59 rfl rfl (Nat.le_of_ble_eq_true rfl) (g_fitN (by decide) (by decide)) (fun r12 M11 => ?_)
          refine G_iast (y2_46) dX10_sum_62 ?_
          refine G_m (fun M13 => ?_)
          refine G_iinc (v := x3 + 1) (lv' := [(3, .int (x3 + 1)), (5, .int y2), (0, .ref (ad X 0)), (2, .int x2), (4, .int x4)]) 3 dX10_sum_63 rfl rfl (by decide) rfl ?_
          refine G_goto (tgt := 192) dX10_sum_66 (by decide) ?_
          refine G_iinc (v := x4 + 1) (lv' := [(4, .int (x4 + 1)), (3, .int (x3 + 1)), (5, .int y2), (0, .ref (ad X 0)), (2, .int x2)]) 4 dX10_sum_192 rfl rfl (by decide) rfl ?_
          refine G_goto (tgt := 10) dX10_sum_195 (by decide) ?_
          exact G_sub [3, 4, 1, 0] rfl (ih x2 (x3 + 1) (x4 + 1) M13)
        · refine G_aload_n 1 dX10_sum_41 rfl rfl ?_
          refine G_get 39 clX10 (y2_0) fl_X10_102 dX10_sum_42 (by decide) rfl rfl ?_
          refine G_iload 4 dX10_sum_45 rfl ?_
          refine G_iald (y2_30) dX10_sum_47 ?_
          refine G_goto (tgt := 62) dX10_sum_48 (by decide) ?_
          refine G_iast (y2_46) dX10_sum_62 ?_
          refine G_m (fun M14 => ?_)
          refine G_iinc (v := x3 + 1) (lv' := [(3, .int (x3 + 1)), (5, .int y2), (0, .ref (ad X 0)), (2, .int x2), (4, .int x4)]) 3 dX10_sum_63 rfl rfl (by decide) rfl ?_
          refine G_goto (tgt := 192) dX10_sum_66 (by decide) ?_
          refine G_iinc (v := x4 + 1) (lv' := [(4, .int (x4 + 1)), (3, .int (x3 + 1)), (5, .int y2), (0, .ref (ad X 0)), (2, .int x2)]) 4 dX10_sum_192 rfl rfl (by decide) rfl ?_
          refine G_goto (tgt := 10) dX10_sum_195 (by decide) ?_
          exact G_sub [3, 4, 1, 0] rfl (ih x2 (x3 + 1) (x4 + 1) M14)
def f_X10_sum (a1 : Int32) (a2 : Int32) (M : gM) : Option (Int32 × gM) := (g_m (sI M 0 70 (0 : Int32)) (fun M1 => (f_X10_sum_10 FU a2 (0 : Int32) a1 M1)))
set_option maxRecDepth 100000 in
set_option maxHeartbeats 4000000 in
theorem ok_X10_sum (a1 : Int32) (a2 : Int32) (M : gM) : g_met Y2 yX10_sum jX10_sum g_ei (fun Z => [.ref (Z.2.1 0), .int a1, .int a2]) M (f_X10_sum a1 a2 M) := by
  refine g_enter (fun Z => [(0, .ref (Z.2.1 0)), (1, .int a1), (2, .int a2)]) (by decide) rfl (fun Z => Nat.le_of_ble_eq_true rfl) (fun Z => rfl) (fun X => ?_)
  rw [f_X10_sum]
  refine G_iconst (v := 0) dX10_sum_0 (by decide) ?_
  refine G_istore_n (lv' := [(3, .int 0), (0, .ref (ad X 0)), (1, .int a1), (2, .int a2)]) dX10_sum_1 rfl (by decide) rfl ?_
  refine G_aload_n 1 dX10_sum_2 rfl rfl ?_
  refine G_iconst (v := 0) dX10_sum_3 (by decide) ?_
  refine G_putZ 70 clX10 (y2_0) fl_X10_434 dX10_sum_4 (by decide) rfl rfl rfl ⟨rfl, rfl⟩ ?_
  refine G_m (fun M1 => ?_)
  refine G_iload_n 2 dX10_sum_7 rfl rfl ?_
  refine G_istore (lv' := [(4, .int a1), (3, .int 0), (0, .ref (ad X 0)), (1, .int a1), (2, .int a2)]) dX10_sum_8 (by decide) rfl ?_
  exact G_sub [2, 4, 1, 0] rfl (o_X10_sum_10 FU a2 (0 : Int32) a1 M1)
-- X10_isLit
def f_X10_isLit_147 (x1 : Int32) (s0 : Int32) (M : gM) : Option (Bool × gM) := (g_ck x1 400 (if s0 = (M.1 32 (tn x1)) then (some (false, M)) else (some (true, M))))
set_option maxRecDepth 100000 in
set_option maxHeartbeats 4000000 in
theorem o_X10_isLit_147 {X : gX} (x1 : Int32) (s0 : Int32) (M : gM) : G Y2 jX10_isLit X (g_fin g_eb) 147 [(0, .ref (ad X 0)), (1, .int x1)] [.int s0] M (f_X10_isLit_147 x1 s0 M) := by
  rw [f_X10_isLit_147]
  refine G_istore (lv' := [(4, .int s0), (0, .ref (ad X 0)), (1, .int x1)]) dX10_isLit_147 (by decide) rfl ?_
  refine G_iload 0 dX10_isLit_149 rfl ?_
  refine G_aload_n 1 dX10_isLit_151 rfl rfl ?_
  refine G_get 41 clX10 (y2_0) fl_X10_108 dX10_isLit_152 (by decide) rfl rfl ?_
  refine G_iload_n 2 dX10_isLit_155 rfl rfl ?_
  refine G_zald (y2_32) dX10_isLit_156 ?_
  refine G_icmp_eq (tgt := 164) dX10_isLit_157 (by decide) ?_ ?_
  · refine G_iconst (v := 0) dX10_isLit_164 (by decide) ?_
    exact G_zret (b := false) rfl dX10_isLit_165
  · refine G_iconst (v := 1) dX10_isLit_160 (by decide) ?_
    refine G_goto (tgt := 165) dX10_isLit_161 (by decide) ?_
    exact G_zret (b := true) rfl dX10_isLit_165
def f_X10_isLit (a1 : Int32) (M : gM) : Option (Bool × gM) := (g_ck a1 400 (g_ck a1 400 (g_b (f_X10_sum (M.1 34 (tn a1)) (M.1 35 (tn a1)) M) (fun r2 M1 => (if (M1.1 0 70) = 0 then (g_ck a1 400 (g_ck a1 400 (g_b (f_X10_sum (M1.1 35 (tn a1)) (M1.1 36 (tn a1)) M1) (fun r4 M3 => (if (M3.1 0 70) = 0 then (g_ck a1 400 (if (M3.1 33 (tn a1)) = (300 : Int32) then (if r2 = r4 then (f_X10_isLit_147 a1 (1 : Int32) M3) else (f_X10_isLit_147 a1 (0 : Int32) M3)) else (g_ck a1 400 (if (M3.1 33 (tn a1)) = (301 : Int32) then (if r2 = r4 then (f_X10_isLit_147 a1 (0 : Int32) M3) else (f_X10_isLit_147 a1 (1 : Int32) M3)) else (g_ck a1 400 (if (M3.1 33 (tn a1)) = (302 : Int32) then (if r4 < r2 then (f_X10_isLit_147 a1 (0 : Int32) M3) else (f_X10_isLit_147 a1 (1 : Int32) M3)) else (if r4 ≤ r2 then (f_X10_isLit_147 a1 (0 : Int32) M3) else (f_X10_isLit_147 a1 (1 : Int32) M3)))))))) else (g_ck a1 400 (g_tb (M3.1 32 (tn a1)) (fun b => some (b, M3))))))))) else (g_ck a1 400 (g_tb (M1.1 32 (tn a1)) (fun b => some (b, M1)))))))))
set_option maxRecDepth 100000 in
set_option maxHeartbeats 4000000 in
theorem ok_X10_isLit (a1 : Int32) (M : gM) : g_met Y2 yX10_isLit jX10_isLit g_eb (fun Z => [.ref (Z.2.1 0), .int a1]) M (f_X10_isLit a1 M) := by
  refine g_enter (fun Z => [(0, .ref (Z.2.1 0)), (1, .int a1)]) (by decide) rfl (fun Z => Nat.le_of_ble_eq_true rfl) (fun Z => rfl) (fun X => ?_)
  rw [f_X10_isLit]
  refine G_aload_n 0 dX10_isLit_0 rfl rfl ?_
  refine G_aload_n 0 dX10_isLit_1 rfl rfl ?_
  refine G_get 43 clX10 (y2_0) fl_X10_115 dX10_isLit_2 (by decide) rfl rfl ?_
  refine G_iload_n 1 dX10_isLit_5 rfl rfl ?_
  refine G_iald (y2_34) dX10_isLit_6 ?_
  refine G_aload_n 0 dX10_isLit_7 rfl rfl ?_
  refine G_get 44 clX10 (y2_0) fl_X10_118 dX10_isLit_8 (by decide) rfl rfl ?_
  refine G_iload_n 1 dX10_isLit_11 rfl rfl ?_
  refine G_iald (y2_35) dX10_isLit_12 ?_
  refine G_cVi (As := [.int (M.1 34 (tn a1)), .int (M.1 35 (tn a1))]) (rest := []) (ok_X10_sum (M.1 34 (tn a1)) (M.1 35 (tn a1)) M) rfl (y2_0) rfl mv_X10_440 dX10_isLit_13 rfl rfl (Nat.le_of_ble_eq_true rfl) (g_fitN (by decide) (by decide)) (fun r2 M1 => ?_)
  refine G_istore_n (lv' := [(2, .int r2), (0, .ref (ad X 0)), (1, .int a1)]) dX10_isLit_16 rfl (by decide) rfl ?_
  refine G_aload_n 1 dX10_isLit_17 rfl rfl ?_
  refine G_get 70 clX10 (y2_0) fl_X10_434 dX10_isLit_18 (by decide) rfl rfl ?_
  refine G_if_eq (tgt := 31) dX10_isLit_21 (by decide) ?_ ?_
  · refine G_aload_n 1 dX10_isLit_31 rfl rfl ?_
    refine G_aload_n 1 dX10_isLit_32 rfl rfl ?_
    refine G_get 44 clX10 (y2_0) fl_X10_118 dX10_isLit_33 (by decide) rfl rfl ?_
    refine G_iload_n 2 dX10_isLit_36 rfl rfl ?_
    refine G_iald (y2_35) dX10_isLit_37 ?_
    refine G_aload_n 1 dX10_isLit_38 rfl rfl ?_
    refine G_get 45 clX10 (y2_0) fl_X10_121 dX10_isLit_39 (by decide) rfl rfl ?_
    refine G_iload_n 2 dX10_isLit_42 rfl rfl ?_
    refine G_iald (y2_36) dX10_isLit_43 ?_
    refine G_cVi (As := [.int (M1.1 35 (tn a1)), .int (M1.1 36 (tn a1))]) (rest := []) (ok_X10_sum (M1.1 35 (tn a1)) (M1.1 36 (tn a1)) M1) rfl (y2_0) rfl mv_X10_440 dX10_isLit_44 rfl rfl (Nat.le_of_ble_eq_true rfl) (g_fitN (by decide) (by decide)) (fun r4 M3 => ?_)
    refine G_istore_n (lv' := [(3, .int r4), (2, .int r2), (0, .ref (ad X 0)), (1, .int a1)]) dX10_isLit_47 rfl (by decide) rfl ?_
    refine G_aload_n 2 dX10_isLit_48 rfl rfl ?_
    refine G_get 70 clX10 (y2_0) fl_X10_434 dX10_isLit_49 (by decide) rfl rfl ?_
    refine G_if_eq (tgt := 62) dX10_isLit_52 (by decide) ?_ ?_
    · refine G_aload_n 2 dX10_isLit_62 rfl rfl ?_
      refine G_get 42 clX10 (y2_0) fl_X10_112 dX10_isLit_63 (by decide) rfl rfl ?_
      refine G_iload_n 3 dX10_isLit_66 rfl rfl ?_
      refine G_iald (y2_33) dX10_isLit_67 ?_
      refine G_sipush (v := 300) dX10_isLit_68 (by decide) ?_
      refine G_icmp_ne (tgt := 87) dX10_isLit_71 (by decide) ?_ ?_
      · refine G_aload_n 2 dX10_isLit_87 rfl rfl ?_
        refine G_get 42 clX10 (y2_0) fl_X10_112 dX10_isLit_88 (by decide) rfl rfl ?_
        refine G_iload_n 3 dX10_isLit_91 rfl rfl ?_
        refine G_iald (y2_33) dX10_isLit_92 ?_
        refine G_sipush (v := 301) dX10_isLit_93 (by decide) ?_
        refine G_icmp_ne (tgt := 112) dX10_isLit_96 (by decide) ?_ ?_
        · refine G_aload_n 2 dX10_isLit_112 rfl rfl ?_
          refine G_get 42 clX10 (y2_0) fl_X10_112 dX10_isLit_113 (by decide) rfl rfl ?_
          refine G_iload_n 3 dX10_isLit_116 rfl rfl ?_
          refine G_iald (y2_33) dX10_isLit_117 ?_
          refine G_sipush (v := 302) dX10_isLit_118 (by decide) ?_
          refine G_icmp_ne (tgt := 137) dX10_isLit_121 (by decide) ?_ ?_
          · refine G_iload_n 1 dX10_isLit_137 rfl rfl ?_
            refine G_iload_n 0 dX10_isLit_138 rfl rfl ?_
            refine G_icmp_ge (tgt := 146) dX10_isLit_139 (by decide) ?_ ?_
            · refine G_iconst (v := 0) dX10_isLit_146 (by decide) ?_
              exact G_sub [2, 3] rfl (o_X10_isLit_147 a1 (0 : Int32) M3)
            · refine G_iconst (v := 1) dX10_isLit_142 (by decide) ?_
              refine G_goto (tgt := 147) dX10_isLit_143 (by decide) ?_
              exact G_sub [2, 3] rfl (o_X10_isLit_147 a1 (1 : Int32) M3)
          · refine G_iload_n 1 dX10_isLit_124 rfl rfl ?_
            refine G_iload_n 0 dX10_isLit_125 rfl rfl ?_
            refine G_icmp_gt (tgt := 133) dX10_isLit_126 (by decide) ?_ ?_
            · refine G_iconst (v := 0) dX10_isLit_133 (by decide) ?_
              refine G_goto (tgt := 147) dX10_isLit_134 (by decide) ?_
              exact G_sub [2, 3] rfl (o_X10_isLit_147 a1 (0 : Int32) M3)
            · refine G_iconst (v := 1) dX10_isLit_129 (by decide) ?_
              refine G_goto (tgt := 147) dX10_isLit_130 (by decide) ?_
              exact G_sub [2, 3] rfl (o_X10_isLit_147 a1 (1 : Int32) M3)
        · refine G_iload_n 1 dX10_isLit_99 rfl rfl ?_
          refine G_iload_n 0 dX10_isLit_100 rfl rfl ?_
          refine G_icmp_eq (tgt := 108) dX10_isLit_101 (by decide) ?_ ?_
          · refine G_iconst (v := 0) dX10_isLit_108 (by decide) ?_
            refine G_goto (tgt := 147) dX10_isLit_109 (by decide) ?_
            exact G_sub [2, 3] rfl (o_X10_isLit_147 a1 (0 : Int32) M3)
          · refine G_iconst (v := 1) dX10_isLit_104 (by decide) ?_
            refine G_goto (tgt := 147) dX10_isLit_105 (by decide) ?_
            exact G_sub [2, 3] rfl (o_X10_isLit_147 a1 (1 : Int32) M3)
      · refine G_iload_n 1 dX10_isLit_74 rfl rfl ?_
        refine G_iload_n 0 dX10_isLit_75 rfl rfl ?_
        refine G_icmp_ne (tgt := 83) dX10_isLit_76 (by decide) ?_ ?_
        · refine G_iconst (v := 0) dX10_isLit_83 (by decide) ?_
          refine G_goto (tgt := 147) dX10_isLit_84 (by decide) ?_
          exact G_sub [2, 3] rfl (o_X10_isLit_147 a1 (0 : Int32) M3)
        · refine G_iconst (v := 1) dX10_isLit_79 (by decide) ?_
          refine G_goto (tgt := 147) dX10_isLit_80 (by decide) ?_
          exact G_sub [2, 3] rfl (o_X10_isLit_147 a1 (1 : Int32) M3)
    · refine G_aload_n 2 dX10_isLit_55 rfl rfl ?_
      refine G_get 41 clX10 (y2_0) fl_X10_108 dX10_isLit_56 (by decide) rfl rfl ?_
      refine G_iload_n 3 dX10_isLit_59 rfl rfl ?_
      refine G_zald (y2_32) dX10_isLit_60 ?_
      exact G_zretI rfl dX10_isLit_61
  · refine G_aload_n 1 dX10_isLit_24 rfl rfl ?_
    refine G_get 41 clX10 (y2_0) fl_X10_108 dX10_isLit_25 (by decide) rfl rfl ?_
    refine G_iload_n 2 dX10_isLit_28 rfl rfl ?_
    refine G_zald (y2_32) dX10_isLit_29 ?_
    exact G_zretI rfl dX10_isLit_30
-- X10_isHeld
def f_X10_isHeld_59 (k9 : Int32 → Int32 → gM → Option (Bool × gM)) (x2 : Int32) (x3 : Int32) (x5 : Int32) (M : gM) : Option (Bool × gM) := (if x5 = 0 then (k9 x2 x3 M) else (some (true, M)))
set_option maxRecDepth 100000 in
set_option maxHeartbeats 4000000 in
theorem o_X10_isHeld_59 {X : gX} {k9 : Int32 → Int32 → gM → Option (Bool × gM)} (hk9 : ∀ (x2 : Int32) (x3 : Int32) (M : gM), G Y2 jX10_isHeld X (g_fin g_eb) 9 [(0, .ref (ad X 0)), (2, .int x2), (3, .int x3)] [] M (k9 x2 x3 M)) (x2 : Int32) (x3 : Int32) (x5 : Int32) (M : gM) : G Y2 jX10_isHeld X (g_fin g_eb) 59 [(0, .ref (ad X 0)), (2, .int x2), (3, .int x3), (5, .int x5)] [] M (f_X10_isHeld_59 k9 x2 x3 x5 M) := by
  rw [f_X10_isHeld_59]
  refine G_iload 3 dX10_isHeld_59 rfl ?_
  refine G_if_eq (tgt := 66) dX10_isHeld_61 (by decide) ?_ ?_
  · refine G_goto (tgt := 9) dX10_isHeld_66 (by decide) ?_
    exact G_sub [0, 1, 2] rfl (hk9 x2 x3 M)
  · refine G_iconst (v := 1) dX10_isHeld_64 (by decide) ?_
    exact G_zret (b := true) rfl dX10_isHeld_65
def f_X10_isHeld_25 (k9 : Int32 → Int32 → gM → Option (Bool × gM)) : Nat → Int32 → Int32 → Int32 → Int32 → gM → Option (Bool × gM)
  | 0, _, _, _, _, _ => none
  | n + 1, x2, x3, x4, x5, M => (if x2 ≤ x3 then (f_X10_isHeld_59 k9 x2 x3 x5 M) else (g_ck x3 400 (if (M.1 37 (tn x3)) = x4 then (if x5 = 0 then (f_X10_isHeld_25 k9 n x2 (x3 + 1) x4 x5 M) else (g_b (f_X10_isLit x3 M) (fun r3 M2 => (g_v (b2i r3) (fun y4 => (f_X10_isHeld_25 k9 n x2 (x3 + 1) x4 y4 M2)))))) else (f_X10_isHeld_59 k9 x2 x3 x5 M))))
set_option maxRecDepth 100000 in
set_option maxHeartbeats 4000000 in
theorem o_X10_isHeld_25 {X : gX} {k9 : Int32 → Int32 → gM → Option (Bool × gM)} (hk9 : ∀ (x2 : Int32) (x3 : Int32) (M : gM), G Y2 jX10_isHeld X (g_fin g_eb) 9 [(0, .ref (ad X 0)), (2, .int x2), (3, .int x3)] [] M (k9 x2 x3 M)) : ∀ (n : Nat) (x2 : Int32) (x3 : Int32) (x4 : Int32) (x5 : Int32) (M : gM), G Y2 jX10_isHeld X (g_fin g_eb) 25 [(0, .ref (ad X 0)), (2, .int x2), (3, .int x3), (4, .int x4), (5, .int x5)] [] M (f_X10_isHeld_25 k9 n x2 x3 x4 x5 M) := by
  intro n
  induction n with
  | zero => intro x2 x3 x4 x5 M; exact G_none
  | succ n ih =>
    intro x2 x3 x4 x5 M
    rw [f_X10_isHeld_25]
    refine G_iload_n 2 dX10_isHeld_25 rfl rfl ?_
    refine G_iload_n 1 dX10_isHeld_26 rfl rfl ?_
    refine G_icmp_ge (tgt := 59) dX10_isHeld_27 (by decide) ?_ ?_
    · exact G_sub [0, 1, 2, 4] rfl (o_X10_isHeld_59 hk9 x2 x3 x5 M)
    · refine G_aload_n 0 dX10_isHeld_30 rfl rfl ?_
      refine G_get 46 clX10 (y2_0) fl_X10_124 dX10_isHeld_31 (by decide) rfl rfl ?_
      refine G_iload_n 2 dX10_isHeld_34 rfl rfl ?_
      refine G_iald (y2_37) dX10_isHeld_35 ?_
      refine G_iload 3 dX10_isHeld_36 rfl ?_
      refine G_icmp_ne (tgt := 59) dX10_isHeld_38 (by decide) ?_ ?_
      · exact G_sub [0, 1, 2, 4] rfl (o_X10_isHeld_59 hk9 x2 x3 x5 M)
      · refine G_iload 4 dX10_isHeld_41 rfl ?_
        refine G_if_eq (tgt := 53) dX10_isHeld_43 (by decide) ?_ ?_
        · refine G_iinc (v := x3 + 1) (lv' := [(3, .int (x3 + 1)), (0, .ref (ad X 0)), (2, .int x2), (4, .int x4), (5, .int x5)]) 2 dX10_isHeld_53 rfl rfl (by decide) rfl ?_
          refine G_goto (tgt := 25) dX10_isHeld_56 (by decide) ?_
          exact G_sub [1, 2, 0, 3, 4] rfl (ih x2 (x3 + 1) x4 x5 M)
        · refine G_aload_n 0 dX10_isHeld_46 rfl rfl ?_
          refine G_iload_n 2 dX10_isHeld_47 rfl rfl ?_
          refine G_cVb (As := [.int x3]) (rest := []) (ok_X10_isLit x3 M) rfl (y2_0) rfl mv_X10_444 dX10_isHeld_48 rfl rfl (Nat.le_of_ble_eq_true rfl) (g_fitN (by decide) (by decide)) (fun r3 M2 => ?_)
          refine G_vi (fun y4 => ?_)
          refine G_istore (lv' := [(5, .int y4), (0, .ref (ad X 0)), (2, .int x2), (3, .int x3), (4, .int x4)]) dX10_isHeld_51 (by decide) rfl ?_
          refine G_iinc (v := x3 + 1) (lv' := [(3, .int (x3 + 1)), (5, .int y4), (0, .ref (ad X 0)), (2, .int x2), (4, .int x4)]) 3 dX10_isHeld_53 rfl rfl (by decide) rfl ?_
          refine G_goto (tgt := 25) dX10_isHeld_56 (by decide) ?_
          exact G_sub [2, 3, 0, 4, 1] rfl (ih x2 (x3 + 1) x4 y4 M2)
def f_X10_isHeld_9 : Nat → Int32 → Int32 → gM → Option (Bool × gM)
  | 0, _, _, _ => none
  | n + 1, x2, x3, M => (if x2 ≤ x3 then (some (false, M)) else (g_ck x3 400 (g_v (M.1 37 (tn x3)) (fun y1 => (f_X10_isHeld_25 (f_X10_isHeld_9 n) FU x2 x3 y1 (1 : Int32) M)))))
set_option maxRecDepth 100000 in
set_option maxHeartbeats 4000000 in
theorem o_X10_isHeld_9 {X : gX} : ∀ (n : Nat) (x2 : Int32) (x3 : Int32) (M : gM), G Y2 jX10_isHeld X (g_fin g_eb) 9 [(0, .ref (ad X 0)), (2, .int x2), (3, .int x3)] [] M (f_X10_isHeld_9 n x2 x3 M) := by
  intro n
  induction n with
  | zero => intro x2 x3 M; exact G_none
  | succ n ih =>
    intro x2 x3 M
    rw [f_X10_isHeld_9]
    refine G_iload_n 2 dX10_isHeld_9 rfl rfl ?_
    refine G_iload_n 1 dX10_isHeld_10 rfl rfl ?_
    refine G_icmp_ge (tgt := 69) dX10_isHeld_11 (by decide) ?_ ?_
    · refine G_iconst (v := 0) dX10_isHeld_69 (by decide) ?_
      exact G_zret (b := false) rfl dX10_isHeld_70
    · refine G_aload_n 0 dX10_isHeld_14 rfl rfl ?_
      refine G_get 46 clX10 (y2_0) fl_X10_124 dX10_isHeld_15 (by decide) rfl rfl ?_
      refine G_iload_n 2 dX10_isHeld_18 rfl rfl ?_
      refine G_iald (y2_37) dX10_isHeld_19 ?_
      refine G_vi (fun y1 => ?_)
      refine G_istore (lv' := [(4, .int y1), (0, .ref (ad X 0)), (2, .int x2), (3, .int x3)]) dX10_isHeld_20 (by decide) rfl ?_
      refine G_iconst (v := 1) dX10_isHeld_22 (by decide) ?_
      refine G_istore (lv' := [(5, .int 1), (4, .int y1), (0, .ref (ad X 0)), (2, .int x2), (3, .int x3)]) dX10_isHeld_23 (by decide) rfl ?_
      exact G_sub [2, 3, 4, 1, 0] rfl (o_X10_isHeld_25 ih FU x2 x3 y1 (1 : Int32) M)
def f_X10_isHeld (a1 : Int32) (a2 : Int32) (M : gM) : Option (Bool × gM) := (if a1 = a2 then (some (true, M)) else (f_X10_isHeld_9 FU a2 a1 M))
set_option maxRecDepth 100000 in
set_option maxHeartbeats 4000000 in
theorem ok_X10_isHeld (a1 : Int32) (a2 : Int32) (M : gM) : g_met Y2 yX10_isHeld jX10_isHeld g_eb (fun Z => [.ref (Z.2.1 0), .int a1, .int a2]) M (f_X10_isHeld a1 a2 M) := by
  refine g_enter (fun Z => [(0, .ref (Z.2.1 0)), (1, .int a1), (2, .int a2)]) (by decide) rfl (fun Z => Nat.le_of_ble_eq_true rfl) (fun Z => rfl) (fun X => ?_)
  rw [f_X10_isHeld]
  refine G_iload_n 1 dX10_isHeld_0 rfl rfl ?_
  refine G_iload_n 2 dX10_isHeld_1 rfl rfl ?_
  refine G_icmp_ne (tgt := 7) dX10_isHeld_2 (by decide) ?_ ?_
  · refine G_iload_n 1 dX10_isHeld_7 rfl rfl ?_
    refine G_istore_n (lv' := [(3, .int a1), (0, .ref (ad X 0)), (1, .int a1), (2, .int a2)]) dX10_isHeld_8 rfl (by decide) rfl ?_
    exact G_sub [1, 3, 0] rfl (o_X10_isHeld_9 FU a2 a1 M)
  · refine G_iconst (v := 1) dX10_isHeld_5 (by decide) ?_
    exact G_zret (b := true) rfl dX10_isHeld_6
-- X10_numberOf
def f_X10_numberOf (a0 : Int32) (a1 : Int32) (a2 : Int32) (M : gM) : Option (Int32 × gM) := (some (((((((a0 * (21 : Int32)) + a1) + (10 : Int32)) * (11 : Int32)) + a2) + (5 : Int32)), M))
set_option maxRecDepth 100000 in
set_option maxHeartbeats 4000000 in
theorem ok_X10_numberOf (a0 : Int32) (a1 : Int32) (a2 : Int32) (M : gM) : g_met Y2 yX10_numberOf jX10_numberOf g_ei (fun Z => [.int a0, .int a1, .int a2]) M (f_X10_numberOf a0 a1 a2 M) := by
  refine g_enter (fun Z => [(0, .int a0), (1, .int a1), (2, .int a2)]) (by decide) rfl (fun Z => Nat.le_of_ble_eq_true rfl) (fun Z => rfl) (fun X => ?_)
  rw [f_X10_numberOf]
  refine G_iload_n 0 dX10_numberOf_0 rfl rfl ?_
  refine G_bipush (v := 21) dX10_numberOf_1 (by decide) ?_
  refine G_imul dX10_numberOf_3 ?_
  refine G_iload_n 1 dX10_numberOf_4 rfl rfl ?_
  refine G_iadd dX10_numberOf_5 ?_
  refine G_bipush (v := 10) dX10_numberOf_6 (by decide) ?_
  refine G_iadd dX10_numberOf_8 ?_
  refine G_bipush (v := 11) dX10_numberOf_9 (by decide) ?_
  refine G_imul dX10_numberOf_11 ?_
  refine G_iload_n 2 dX10_numberOf_12 rfl rfl ?_
  refine G_iadd dX10_numberOf_13 ?_
  refine G_iconst (v := 5) dX10_numberOf_14 (by decide) ?_
  refine G_iadd dX10_numberOf_15 ?_
  exact G_iret rfl dX10_numberOf_16
-- X10_atOf
def f_X10_atOf (a0 : Int32) (M : gM) : Option (Int32 × gM) := (some ((a0 / (231 : Int32)), M))
set_option maxRecDepth 100000 in
set_option maxHeartbeats 4000000 in
theorem ok_X10_atOf (a0 : Int32) (M : gM) : g_met Y2 yX10_atOf jX10_atOf g_ei (fun Z => [.int a0]) M (f_X10_atOf a0 M) := by
  refine g_enter (fun Z => [(0, .int a0)]) (by decide) rfl (fun Z => Nat.le_of_ble_eq_true rfl) (fun Z => rfl) (fun X => ?_)
  rw [f_X10_atOf]
  refine G_iload_n 0 dX10_atOf_0 rfl rfl ?_
  refine G_sipush (v := 231) dX10_atOf_1 (by decide) ?_
  refine G_idivK dX10_atOf_4 (by decide) ?_
  exact G_iret rfl dX10_atOf_5
-- X10_leanOf
def f_X10_leanOf (a0 : Int32) (M : gM) : Option (Int32 × gM) := (some ((((a0 / (11 : Int32)) - (a0 / (11 : Int32)) / (21 : Int32) * (21 : Int32)) - (10 : Int32)), M))
set_option maxRecDepth 100000 in
set_option maxHeartbeats 4000000 in
theorem ok_X10_leanOf (a0 : Int32) (M : gM) : g_met Y2 yX10_leanOf jX10_leanOf g_ei (fun Z => [.int a0]) M (f_X10_leanOf a0 M) := by
  refine g_enter (fun Z => [(0, .int a0)]) (by decide) rfl (fun Z => Nat.le_of_ble_eq_true rfl) (fun Z => rfl) (fun X => ?_)
  rw [f_X10_leanOf]
  refine G_iload_n 0 dX10_leanOf_0 rfl rfl ?_
  refine G_bipush (v := 11) dX10_leanOf_1 (by decide) ?_
  refine G_idivK dX10_leanOf_3 (by decide) ?_
  refine G_bipush (v := 21) dX10_leanOf_4 (by decide) ?_
  refine G_iremK dX10_leanOf_6 (by decide) ?_
  refine G_bipush (v := 10) dX10_leanOf_7 (by decide) ?_
  refine G_isub dX10_leanOf_9 ?_
  exact G_iret rfl dX10_leanOf_10
-- X10_swingOf
def f_X10_swingOf (a0 : Int32) (M : gM) : Option (Int32 × gM) := (some (((a0 - a0 / (11 : Int32) * (11 : Int32)) - (5 : Int32)), M))
set_option maxRecDepth 100000 in
set_option maxHeartbeats 4000000 in
theorem ok_X10_swingOf (a0 : Int32) (M : gM) : g_met Y2 yX10_swingOf jX10_swingOf g_ei (fun Z => [.int a0]) M (f_X10_swingOf a0 M) := by
  refine g_enter (fun Z => [(0, .int a0)]) (by decide) rfl (fun Z => Nat.le_of_ble_eq_true rfl) (fun Z => rfl) (fun X => ?_)
  rw [f_X10_swingOf]
  refine G_iload_n 0 dX10_swingOf_0 rfl rfl ?_
  refine G_bipush (v := 11) dX10_swingOf_1 (by decide) ?_
  refine G_iremK dX10_swingOf_3 (by decide) ?_
  refine G_iconst (v := 5) dX10_swingOf_4 (by decide) ?_
  refine G_isub dX10_swingOf_5 ?_
  exact G_iret rfl dX10_swingOf_6
-- X10_isPlace
def f_X10_isPlace (a1 : Int32) (a2 : Int32) (a3 : Int32) (M : gM) : Option (Bool × gM) := (if a1 < 0 then (some (false, M)) else (g_ck (M.1 0 13) 2 (if (M.1 6 (tn (M.1 0 13))) < a1 then (some (false, M)) else (g_ck (M.1 0 13) 2 (if a2 < (-(M.1 7 (tn (M.1 0 13)))) then (some (false, M)) else (g_ck (M.1 0 13) 2 (if (M.1 7 (tn (M.1 0 13))) < a2 then (some (false, M)) else (g_ck (M.1 0 13) 2 (if a3 < (-(M.1 8 (tn (M.1 0 13)))) then (some (false, M)) else (g_ck (M.1 0 13) 2 (if (M.1 8 (tn (M.1 0 13))) < a3 then (some (false, M)) else (some (true, M)))))))))))))
set_option maxRecDepth 100000 in
set_option maxHeartbeats 4000000 in
theorem ok_X10_isPlace (a1 : Int32) (a2 : Int32) (a3 : Int32) (M : gM) : g_met Y2 yX10_isPlace jX10_isPlace g_eb (fun Z => [.ref (Z.2.1 0), .int a1, .int a2, .int a3]) M (f_X10_isPlace a1 a2 a3 M) := by
  refine g_enter (fun Z => [(0, .ref (Z.2.1 0)), (1, .int a1), (2, .int a2), (3, .int a3)]) (by decide) rfl (fun Z => Nat.le_of_ble_eq_true rfl) (fun Z => rfl) (fun X => ?_)
  rw [f_X10_isPlace]
  refine G_iload_n 1 dX10_isPlace_0 rfl rfl ?_
  refine G_if_lt (tgt := 75) dX10_isPlace_1 (by decide) ?_ ?_
  · refine G_iconst (v := 0) dX10_isPlace_75 (by decide) ?_
    exact G_zret (b := false) rfl dX10_isPlace_76
  · refine G_iload_n 1 dX10_isPlace_4 rfl rfl ?_
    refine G_aload_n 0 dX10_isPlace_5 rfl rfl ?_
    refine G_get 15 clX10 (y2_0) fl_X10_30 dX10_isPlace_6 (by decide) rfl rfl ?_
    refine G_aload_n 0 dX10_isPlace_9 rfl rfl ?_
    refine G_get 13 clX10 (y2_0) fl_X10_388 dX10_isPlace_10 (by decide) rfl rfl ?_
    refine G_iald (y2_6) dX10_isPlace_13 ?_
    refine G_icmp_gt (tgt := 75) dX10_isPlace_14 (by decide) ?_ ?_
    · refine G_iconst (v := 0) dX10_isPlace_75 (by decide) ?_
      exact G_zret (b := false) rfl dX10_isPlace_76
    · refine G_iload_n 2 dX10_isPlace_17 rfl rfl ?_
      refine G_aload_n 0 dX10_isPlace_18 rfl rfl ?_
      refine G_get 16 clX10 (y2_0) fl_X10_33 dX10_isPlace_19 (by decide) rfl rfl ?_
      refine G_aload_n 0 dX10_isPlace_22 rfl rfl ?_
      refine G_get 13 clX10 (y2_0) fl_X10_388 dX10_isPlace_23 (by decide) rfl rfl ?_
      refine G_iald (y2_7) dX10_isPlace_26 ?_
      refine G_ineg dX10_isPlace_27 ?_
      refine G_icmp_lt (tgt := 75) dX10_isPlace_28 (by decide) ?_ ?_
      · refine G_iconst (v := 0) dX10_isPlace_75 (by decide) ?_
        exact G_zret (b := false) rfl dX10_isPlace_76
      · refine G_iload_n 2 dX10_isPlace_31 rfl rfl ?_
        refine G_aload_n 0 dX10_isPlace_32 rfl rfl ?_
        refine G_get 16 clX10 (y2_0) fl_X10_33 dX10_isPlace_33 (by decide) rfl rfl ?_
        refine G_aload_n 0 dX10_isPlace_36 rfl rfl ?_
        refine G_get 13 clX10 (y2_0) fl_X10_388 dX10_isPlace_37 (by decide) rfl rfl ?_
        refine G_iald (y2_7) dX10_isPlace_40 ?_
        refine G_icmp_gt (tgt := 75) dX10_isPlace_41 (by decide) ?_ ?_
        · refine G_iconst (v := 0) dX10_isPlace_75 (by decide) ?_
          exact G_zret (b := false) rfl dX10_isPlace_76
        · refine G_iload_n 3 dX10_isPlace_44 rfl rfl ?_
          refine G_aload_n 0 dX10_isPlace_45 rfl rfl ?_
          refine G_get 17 clX10 (y2_0) fl_X10_36 dX10_isPlace_46 (by decide) rfl rfl ?_
          refine G_aload_n 0 dX10_isPlace_49 rfl rfl ?_
          refine G_get 13 clX10 (y2_0) fl_X10_388 dX10_isPlace_50 (by decide) rfl rfl ?_
          refine G_iald (y2_8) dX10_isPlace_53 ?_
          refine G_ineg dX10_isPlace_54 ?_
          refine G_icmp_lt (tgt := 75) dX10_isPlace_55 (by decide) ?_ ?_
          · refine G_iconst (v := 0) dX10_isPlace_75 (by decide) ?_
            exact G_zret (b := false) rfl dX10_isPlace_76
          · refine G_iload_n 3 dX10_isPlace_58 rfl rfl ?_
            refine G_aload_n 0 dX10_isPlace_59 rfl rfl ?_
            refine G_get 17 clX10 (y2_0) fl_X10_36 dX10_isPlace_60 (by decide) rfl rfl ?_
            refine G_aload_n 0 dX10_isPlace_63 rfl rfl ?_
            refine G_get 13 clX10 (y2_0) fl_X10_388 dX10_isPlace_64 (by decide) rfl rfl ?_
            refine G_iald (y2_8) dX10_isPlace_67 ?_
            refine G_icmp_gt (tgt := 75) dX10_isPlace_68 (by decide) ?_ ?_
            · refine G_iconst (v := 0) dX10_isPlace_75 (by decide) ?_
              exact G_zret (b := false) rfl dX10_isPlace_76
            · refine G_iconst (v := 1) dX10_isPlace_71 (by decide) ?_
              refine G_goto (tgt := 76) dX10_isPlace_72 (by decide) ?_
              exact G_zret (b := true) rfl dX10_isPlace_76
-- X10_isState
def f_X10_isState (a1 : Int32) (M : gM) : Option (Bool × gM) := (if a1 < 0 then (some (false, M)) else (if (2079 : Int32) ≤ a1 then (some (false, M)) else (g_b (f_X10_atOf a1 M) (fun r2 M1 => (g_b (f_X10_leanOf a1 M1) (fun r4 M3 => (g_b (f_X10_swingOf a1 M3) (fun r6 M5 => (g_b (f_X10_isPlace r2 r4 r6 M5) (fun r8 M7 => (if r8 then (some (true, M7)) else (some (false, M7)))))))))))))
set_option maxRecDepth 100000 in
set_option maxHeartbeats 4000000 in
theorem ok_X10_isState (a1 : Int32) (M : gM) : g_met Y2 yX10_isState jX10_isState g_eb (fun Z => [.ref (Z.2.1 0), .int a1]) M (f_X10_isState a1 M) := by
  refine g_enter (fun Z => [(0, .ref (Z.2.1 0)), (1, .int a1)]) (by decide) rfl (fun Z => Nat.le_of_ble_eq_true rfl) (fun Z => rfl) (fun X => ?_)
  rw [f_X10_isState]
  refine G_iload_n 1 dX10_isState_0 rfl rfl ?_
  refine G_if_lt (tgt := 34) dX10_isState_1 (by decide) ?_ ?_
  · refine G_iconst (v := 0) dX10_isState_34 (by decide) ?_
    exact G_zret (b := false) rfl dX10_isState_35
  · refine G_iload_n 1 dX10_isState_4 rfl rfl ?_
    refine G_sipush (v := 2079) dX10_isState_5 (by decide) ?_
    refine G_icmp_ge (tgt := 34) dX10_isState_8 (by decide) ?_ ?_
    · refine G_iconst (v := 0) dX10_isState_34 (by decide) ?_
      exact G_zret (b := false) rfl dX10_isState_35
    · refine G_aload_n 0 dX10_isState_11 rfl rfl ?_
      refine G_iload_n 1 dX10_isState_12 rfl rfl ?_
      refine G_cSi (As := [.int a1]) (rest := [.ref (ad X 0)]) (ok_X10_atOf a1 M) rfl ms_X10_447 dX10_isState_13 rfl rfl (Nat.le_of_ble_eq_true rfl) (g_fitN (by decide) (by decide)) (fun r2 M1 => ?_)
      refine G_iload_n 1 dX10_isState_16 rfl rfl ?_
      refine G_cSi (As := [.int a1]) (rest := [.int r2, .ref (ad X 0)]) (ok_X10_leanOf a1 M1) rfl ms_X10_450 dX10_isState_17 rfl rfl (Nat.le_of_ble_eq_true rfl) (g_fitN (by decide) (by decide)) (fun r4 M3 => ?_)
      refine G_iload_n 1 dX10_isState_20 rfl rfl ?_
      refine G_cSi (As := [.int a1]) (rest := [.int r4, .int r2, .ref (ad X 0)]) (ok_X10_swingOf a1 M3) rfl ms_X10_453 dX10_isState_21 rfl rfl (Nat.le_of_ble_eq_true rfl) (g_fitN (by decide) (by decide)) (fun r6 M5 => ?_)
      refine G_cVb (As := [.int r2, .int r4, .int r6]) (rest := []) (ok_X10_isPlace r2 r4 r6 M5) rfl (y2_0) rfl mv_X10_456 dX10_isState_24 rfl rfl (Nat.le_of_ble_eq_true rfl) (g_fitN (by decide) (by decide)) (fun r8 M7 => ?_)
      refine G_ifB_eq (tgt := 34) dX10_isState_27 (by decide) ?_ ?_
      · refine G_iconst (v := 0) dX10_isState_34 (by decide) ?_
        exact G_zret (b := false) rfl dX10_isState_35
      · refine G_iconst (v := 1) dX10_isState_30 (by decide) ?_
        refine G_goto (tgt := 35) dX10_isState_31 (by decide) ?_
        exact G_zret (b := true) rfl dX10_isState_35
-- X10_isOver
def f_X10_isOver (a1 : Int32) (M : gM) : Option (Bool × gM) := (g_b (f_X10_atOf a1 M) (fun r2 M1 => (g_ck (M1.1 0 13) 2 (if r2 = (M1.1 6 (tn (M1.1 0 13))) then (some (true, M1)) else (some (false, M1))))))
set_option maxRecDepth 100000 in
set_option maxHeartbeats 4000000 in
theorem ok_X10_isOver (a1 : Int32) (M : gM) : g_met Y2 yX10_isOver jX10_isOver g_eb (fun Z => [.ref (Z.2.1 0), .int a1]) M (f_X10_isOver a1 M) := by
  refine g_enter (fun Z => [(0, .ref (Z.2.1 0)), (1, .int a1)]) (by decide) rfl (fun Z => Nat.le_of_ble_eq_true rfl) (fun Z => rfl) (fun X => ?_)
  rw [f_X10_isOver]
  refine G_iload_n 1 dX10_isOver_0 rfl rfl ?_
  refine G_cSi (As := [.int a1]) (rest := []) (ok_X10_atOf a1 M) rfl ms_X10_447 dX10_isOver_1 rfl rfl (Nat.le_of_ble_eq_true rfl) (g_fitN (by decide) (by decide)) (fun r2 M1 => ?_)
  refine G_aload_n 0 dX10_isOver_4 rfl rfl ?_
  refine G_get 15 clX10 (y2_0) fl_X10_30 dX10_isOver_5 (by decide) rfl rfl ?_
  refine G_aload_n 0 dX10_isOver_8 rfl rfl ?_
  refine G_get 13 clX10 (y2_0) fl_X10_388 dX10_isOver_9 (by decide) rfl rfl ?_
  refine G_iald (y2_6) dX10_isOver_12 ?_
  refine G_icmp_ne (tgt := 20) dX10_isOver_13 (by decide) ?_ ?_
  · refine G_iconst (v := 0) dX10_isOver_20 (by decide) ?_
    exact G_zret (b := false) rfl dX10_isOver_21
  · refine G_iconst (v := 1) dX10_isOver_16 (by decide) ?_
    refine G_goto (tgt := 21) dX10_isOver_17 (by decide) ?_
    exact G_zret (b := true) rfl dX10_isOver_21
-- X10_actsOf
def f_X10_actsOf (M : gM) : Option (Int32 × gM) := (g_ck (M.1 0 13) 2 (if (M.1 11 (tn (M.1 0 13))) = 0 then (some ((1 : Int32), M)) else (g_ck (M.1 0 13) 2 (some ((M.1 11 (tn (M.1 0 13))), M)))))
set_option maxRecDepth 100000 in
set_option maxHeartbeats 4000000 in
theorem ok_X10_actsOf (M : gM) : g_met Y2 yX10_actsOf jX10_actsOf g_ei (fun Z => [.ref (Z.2.1 0)]) M (f_X10_actsOf M) := by
  refine g_enter (fun Z => [(0, .ref (Z.2.1 0))]) (by decide) rfl (fun Z => Nat.le_of_ble_eq_true rfl) (fun Z => rfl) (fun X => ?_)
  rw [f_X10_actsOf]
  refine G_aload_n 0 dX10_actsOf_0 rfl rfl ?_
  refine G_get 20 clX10 (y2_0) fl_X10_45 dX10_actsOf_1 (by decide) rfl rfl ?_
  refine G_aload_n 0 dX10_actsOf_4 rfl rfl ?_
  refine G_get 13 clX10 (y2_0) fl_X10_388 dX10_actsOf_5 (by decide) rfl rfl ?_
  refine G_iald (y2_11) dX10_actsOf_8 ?_
  refine G_if_ne (tgt := 16) dX10_actsOf_9 (by decide) ?_ ?_
  · refine G_aload_n 0 dX10_actsOf_16 rfl rfl ?_
    refine G_get 20 clX10 (y2_0) fl_X10_45 dX10_actsOf_17 (by decide) rfl rfl ?_
    refine G_aload_n 0 dX10_actsOf_20 rfl rfl ?_
    refine G_get 13 clX10 (y2_0) fl_X10_388 dX10_actsOf_21 (by decide) rfl rfl ?_
    refine G_iald (y2_11) dX10_actsOf_24 ?_
    exact G_iret rfl dX10_actsOf_25
  · refine G_iconst (v := 1) dX10_actsOf_12 (by decide) ?_
    refine G_goto (tgt := 25) dX10_actsOf_13 (by decide) ?_
    exact G_iret rfl dX10_actsOf_25
-- X10_look
def f_X10_look (a1 : Int32) (a2 : Int32) (a3 : Int32) (M : gM) : Option (Unit × gM) := (g_b (f_X10_atOf a1 M) (fun r2 M1 => (g_m (sI M1 0 64 r2) (fun M3 => (g_b (f_X10_leanOf a1 M3) (fun r5 M4 => (g_m (sI M4 0 65 r5) (fun M6 => (g_b (f_X10_swingOf a1 M6) (fun r8 M7 => (g_m (sI M7 0 66 r8) (fun M9 => (g_m (sI M9 0 67 a2) (fun M10 => (g_m (sI M10 0 68 a3) (fun M11 => (g_m (sI M11 0 69 (M11.1 0 47)) (fun M12 => (some ((), M12))))))))))))))))))))
set_option maxRecDepth 100000 in
set_option maxHeartbeats 4000000 in
theorem ok_X10_look (a1 : Int32) (a2 : Int32) (a3 : Int32) (M : gM) : g_met Y2 yX10_look jX10_look g_ev (fun Z => [.ref (Z.2.1 0), .int a1, .int a2, .int a3]) M (f_X10_look a1 a2 a3 M) := by
  refine g_enter (fun Z => [(0, .ref (Z.2.1 0)), (1, .int a1), (2, .int a2), (3, .int a3)]) (by decide) rfl (fun Z => Nat.le_of_ble_eq_true rfl) (fun Z => rfl) (fun X => ?_)
  rw [f_X10_look]
  refine G_aload_n 0 dX10_look_0 rfl rfl ?_
  refine G_iload_n 1 dX10_look_1 rfl rfl ?_
  refine G_cSi (As := [.int a1]) (rest := [.ref (ad X 0)]) (ok_X10_atOf a1 M) rfl ms_X10_447 dX10_look_2 rfl rfl (Nat.le_of_ble_eq_true rfl) (g_fitN (by decide) (by decide)) (fun r2 M1 => ?_)
  refine G_putI 64 clX10 (y2_0) fl_X10_416 dX10_look_5 (by decide) rfl rfl rfl ?_
  refine G_m (fun M3 => ?_)
  refine G_aload_n 0 dX10_look_8 rfl rfl ?_
  refine G_iload_n 1 dX10_look_9 rfl rfl ?_
  refine G_cSi (As := [.int a1]) (rest := [.ref (ad X 0)]) (ok_X10_leanOf a1 M3) rfl ms_X10_450 dX10_look_10 rfl rfl (Nat.le_of_ble_eq_true rfl) (g_fitN (by decide) (by decide)) (fun r5 M4 => ?_)
  refine G_putI 65 clX10 (y2_0) fl_X10_419 dX10_look_13 (by decide) rfl rfl rfl ?_
  refine G_m (fun M6 => ?_)
  refine G_aload_n 0 dX10_look_16 rfl rfl ?_
  refine G_iload_n 1 dX10_look_17 rfl rfl ?_
  refine G_cSi (As := [.int a1]) (rest := [.ref (ad X 0)]) (ok_X10_swingOf a1 M6) rfl ms_X10_453 dX10_look_18 rfl rfl (Nat.le_of_ble_eq_true rfl) (g_fitN (by decide) (by decide)) (fun r8 M7 => ?_)
  refine G_putI 66 clX10 (y2_0) fl_X10_422 dX10_look_21 (by decide) rfl rfl rfl ?_
  refine G_m (fun M9 => ?_)
  refine G_aload_n 0 dX10_look_24 rfl rfl ?_
  refine G_iload_n 2 dX10_look_25 rfl rfl ?_
  refine G_putI 67 clX10 (y2_0) fl_X10_425 dX10_look_26 (by decide) rfl rfl rfl ?_
  refine G_m (fun M10 => ?_)
  refine G_aload_n 0 dX10_look_29 rfl rfl ?_
  refine G_iload_n 3 dX10_look_30 rfl rfl ?_
  refine G_putI 68 clX10 (y2_0) fl_X10_428 dX10_look_31 (by decide) rfl rfl rfl ?_
  refine G_m (fun M11 => ?_)
  refine G_aload_n 0 dX10_look_34 rfl rfl ?_
  refine G_aload_n 0 dX10_look_35 rfl rfl ?_
  refine G_get 47 clX10 (y2_0) fl_X10_127 dX10_look_36 (by decide) rfl rfl ?_
  refine G_putI 69 clX10 (y2_0) fl_X10_431 dX10_look_39 (by decide) rfl rfl rfl ?_
  refine G_m (fun M12 => ?_)
  exact G_vret rfl dX10_look_42
-- X10_pushOf
def f_X10_pushOf (a1 : Int32) (M : gM) : Option (Int32 × gM) := (g_ck (M.1 0 13) 2 (if (M.1 11 (tn (M.1 0 13))) = 0 then (some ((0 : Int32), M)) else (g_ck (((6 : Int32) * (M.1 0 13)) + a1) 12 (some ((M.1 13 (tn (((6 : Int32) * (M.1 0 13)) + a1))), M)))))
set_option maxRecDepth 100000 in
set_option maxHeartbeats 4000000 in
theorem ok_X10_pushOf (a1 : Int32) (M : gM) : g_met Y2 yX10_pushOf jX10_pushOf g_ei (fun Z => [.ref (Z.2.1 0), .int a1]) M (f_X10_pushOf a1 M) := by
  refine g_enter (fun Z => [(0, .ref (Z.2.1 0)), (1, .int a1)]) (by decide) rfl (fun Z => Nat.le_of_ble_eq_true rfl) (fun Z => rfl) (fun X => ?_)
  rw [f_X10_pushOf]
  refine G_aload_n 0 dX10_pushOf_0 rfl rfl ?_
  refine G_get 20 clX10 (y2_0) fl_X10_45 dX10_pushOf_1 (by decide) rfl rfl ?_
  refine G_aload_n 0 dX10_pushOf_4 rfl rfl ?_
  refine G_get 13 clX10 (y2_0) fl_X10_388 dX10_pushOf_5 (by decide) rfl rfl ?_
  refine G_iald (y2_11) dX10_pushOf_8 ?_
  refine G_if_ne (tgt := 16) dX10_pushOf_9 (by decide) ?_ ?_
  · refine G_aload_n 0 dX10_pushOf_16 rfl rfl ?_
    refine G_get 22 clX10 (y2_0) fl_X10_51 dX10_pushOf_17 (by decide) rfl rfl ?_
    refine G_bipush (v := 6) dX10_pushOf_20 (by decide) ?_
    refine G_aload_n 0 dX10_pushOf_22 rfl rfl ?_
    refine G_get 13 clX10 (y2_0) fl_X10_388 dX10_pushOf_23 (by decide) rfl rfl ?_
    refine G_imul dX10_pushOf_26 ?_
    refine G_iload_n 1 dX10_pushOf_27 rfl rfl ?_
    refine G_iadd dX10_pushOf_28 ?_
    refine G_iald (y2_13) dX10_pushOf_29 ?_
    exact G_iret rfl dX10_pushOf_30
  · refine G_iconst (v := 0) dX10_pushOf_12 (by decide) ?_
    refine G_goto (tgt := 30) dX10_pushOf_13 (by decide) ?_
    exact G_iret rfl dX10_pushOf_30
-- X10_mayDo
def f_X10_mayDo (a1 : Int32) (a2 : Int32) (M : gM) : Option (Bool × gM) := (g_b (f_X10_isOver a1 M) (fun r2 M1 => (if r2 then (some (false, M1)) else (g_ck (M1.1 0 13) 2 (if (M1.1 11 (tn (M1.1 0 13))) = 0 then (some (true, M1)) else (g_b (f_X10_pushOf a2 M1) (fun r4 M3 => (g_b (f_X10_look a1 r4 (0 : Int32) M3) (fun r6 M5 => (g_ck (((6 : Int32) * (M5.1 0 13)) + a2) 12 (g_ck (((6 : Int32) * (M5.1 0 13)) + a2) 12 (g_b (f_X10_isHeld (M5.1 15 (tn (((6 : Int32) * (M5.1 0 13)) + a2))) (M5.1 16 (tn (((6 : Int32) * (M5.1 0 13)) + a2))) M5) (fun r8 M7 => (some (r8, M7)))))))))))))))
set_option maxRecDepth 100000 in
set_option maxHeartbeats 4000000 in
theorem ok_X10_mayDo (a1 : Int32) (a2 : Int32) (M : gM) : g_met Y2 yX10_mayDo jX10_mayDo g_eb (fun Z => [.ref (Z.2.1 0), .int a1, .int a2]) M (f_X10_mayDo a1 a2 M) := by
  refine g_enter (fun Z => [(0, .ref (Z.2.1 0)), (1, .int a1), (2, .int a2)]) (by decide) rfl (fun Z => Nat.le_of_ble_eq_true rfl) (fun Z => rfl) (fun X => ?_)
  rw [f_X10_mayDo]
  refine G_aload_n 0 dX10_mayDo_0 rfl rfl ?_
  refine G_iload_n 1 dX10_mayDo_1 rfl rfl ?_
  refine G_cVb (As := [.int a1]) (rest := []) (ok_X10_isOver a1 M) rfl (y2_0) rfl mv_X10_460 dX10_mayDo_2 rfl rfl (Nat.le_of_ble_eq_true rfl) (g_fitN (by decide) (by decide)) (fun r2 M1 => ?_)
  refine G_ifB_eq (tgt := 10) dX10_mayDo_5 (by decide) ?_ ?_
  · refine G_aload_n 0 dX10_mayDo_10 rfl rfl ?_
    refine G_get 20 clX10 (y2_0) fl_X10_45 dX10_mayDo_11 (by decide) rfl rfl ?_
    refine G_aload_n 0 dX10_mayDo_14 rfl rfl ?_
    refine G_get 13 clX10 (y2_0) fl_X10_388 dX10_mayDo_15 (by decide) rfl rfl ?_
    refine G_iald (y2_11) dX10_mayDo_18 ?_
    refine G_if_ne (tgt := 24) dX10_mayDo_19 (by decide) ?_ ?_
    · refine G_aload_n 0 dX10_mayDo_24 rfl rfl ?_
      refine G_iload_n 1 dX10_mayDo_25 rfl rfl ?_
      refine G_aload_n 0 dX10_mayDo_26 rfl rfl ?_
      refine G_iload_n 2 dX10_mayDo_27 rfl rfl ?_
      refine G_cVi (As := [.int a2]) (rest := [.int a1, .ref (ad X 0)]) (ok_X10_pushOf a2 M1) rfl (y2_0) rfl mv_X10_463 dX10_mayDo_28 rfl rfl (Nat.le_of_ble_eq_true rfl) (g_fitN (by decide) (by decide)) (fun r4 M3 => ?_)
      refine G_iconst (v := 0) dX10_mayDo_31 (by decide) ?_
      refine G_cVv (As := [.int a1, .int r4, .int 0]) (rest := []) (ok_X10_look a1 r4 (0 : Int32) M3) rfl (y2_0) rfl mv_X10_466 dX10_mayDo_32 rfl rfl (Nat.le_of_ble_eq_true rfl) (g_fitN (by decide) (by decide)) (fun r6 M5 => ?_)
      refine G_aload_n 0 dX10_mayDo_35 rfl rfl ?_
      refine G_aload_n 0 dX10_mayDo_36 rfl rfl ?_
      refine G_get 24 clX10 (y2_0) fl_X10_57 dX10_mayDo_37 (by decide) rfl rfl ?_
      refine G_bipush (v := 6) dX10_mayDo_40 (by decide) ?_
      refine G_aload_n 0 dX10_mayDo_42 rfl rfl ?_
      refine G_get 13 clX10 (y2_0) fl_X10_388 dX10_mayDo_43 (by decide) rfl rfl ?_
      refine G_imul dX10_mayDo_46 ?_
      refine G_iload_n 2 dX10_mayDo_47 rfl rfl ?_
      refine G_iadd dX10_mayDo_48 ?_
      refine G_iald (y2_15) dX10_mayDo_49 ?_
      refine G_aload_n 0 dX10_mayDo_50 rfl rfl ?_
      refine G_get 25 clX10 (y2_0) fl_X10_60 dX10_mayDo_51 (by decide) rfl rfl ?_
      refine G_bipush (v := 6) dX10_mayDo_54 (by decide) ?_
      refine G_aload_n 0 dX10_mayDo_56 rfl rfl ?_
      refine G_get 13 clX10 (y2_0) fl_X10_388 dX10_mayDo_57 (by decide) rfl rfl ?_
      refine G_imul dX10_mayDo_60 ?_
      refine G_iload_n 2 dX10_mayDo_61 rfl rfl ?_
      refine G_iadd dX10_mayDo_62 ?_
      refine G_iald (y2_16) dX10_mayDo_63 ?_
      refine G_cVb (As := [.int (M5.1 15 (tn (((6 : Int32) * (M5.1 0 13)) + a2))), .int (M5.1 16 (tn (((6 : Int32) * (M5.1 0 13)) + a2)))]) (rest := []) (ok_X10_isHeld (M5.1 15 (tn (((6 : Int32) * (M5.1 0 13)) + a2))) (M5.1 16 (tn (((6 : Int32) * (M5.1 0 13)) + a2))) M5) rfl (y2_0) rfl mv_X10_469 dX10_mayDo_64 rfl rfl (Nat.le_of_ble_eq_true rfl) (g_fitN (by decide) (by decide)) (fun r8 M7 => ?_)
      exact G_zret rfl dX10_mayDo_67
    · refine G_iconst (v := 1) dX10_mayDo_22 (by decide) ?_
      exact G_zret (b := true) rfl dX10_mayDo_23
  · refine G_iconst (v := 0) dX10_mayDo_8 (by decide) ?_
    exact G_zret (b := false) rfl dX10_mayDo_9
-- X10_beaten
def f_X10_beaten_235 (x4 : Int32) (x5 : Int32) (s0 : Int32) (M : gM) : Option (Int32 × gM) := (g_b (f_X10_isPlace s0 x5 x4 M) (fun r10 M9 => (if r10 then (g_b (f_X10_numberOf s0 x5 x4 M9) (fun r12 M11 => (some (r12, M11)))) else (some (((-2) : Int32), M9)))))
set_option maxRecDepth 100000 in
set_option maxHeartbeats 4000000 in
theorem o_X10_beaten_235 {X : gX} (x4 : Int32) (x5 : Int32) (s0 : Int32) (M : gM) : G Y2 jX10_beaten X (g_fin g_ei) 235 [(0, .ref (ad X 0)), (4, .int x4), (5, .int x5)] [.int s0] M (f_X10_beaten_235 x4 x5 s0 M) := by
  rw [f_X10_beaten_235]
  refine G_istore (lv' := [(6, .int s0), (0, .ref (ad X 0)), (4, .int x4), (5, .int x5)]) dX10_beaten_235 (by decide) rfl ?_
  refine G_aload_n 1 dX10_beaten_237 rfl rfl ?_
  refine G_iload 0 dX10_beaten_238 rfl ?_
  refine G_iload 3 dX10_beaten_240 rfl ?_
  refine G_iload 2 dX10_beaten_242 rfl ?_
  refine G_cVb (As := [.int s0, .int x5, .int x4]) (rest := []) (ok_X10_isPlace s0 x5 x4 M) rfl (y2_0) rfl mv_X10_456 dX10_beaten_244 rfl rfl (Nat.le_of_ble_eq_true rfl) (g_fitN (by decide) (by decide)) (fun r10 M9 => ?_)
  refine G_ifB_eq (tgt := 262) dX10_beaten_247 (by decide) ?_ ?_
  · refine G_bipush (v := (-2)) dX10_beaten_262 (by decide) ?_
    exact G_iret rfl dX10_beaten_264
  · refine G_iload 0 dX10_beaten_250 rfl ?_
    refine G_iload 3 dX10_beaten_252 rfl ?_
    refine G_iload 2 dX10_beaten_254 rfl ?_
    refine G_cSi (As := [.int s0, .int x5, .int x4]) (rest := []) (ok_X10_numberOf s0 x5 x4 M9) rfl ms_X10_472 dX10_beaten_256 rfl rfl (Nat.le_of_ble_eq_true rfl) (g_fitN (by decide) (by decide)) (fun r12 M11 => ?_)
    refine G_goto (tgt := 264) dX10_beaten_259 (by decide) ?_
    exact G_iret rfl dX10_beaten_264
def f_X10_beaten_195 (x4 : Int32) (x5 : Int32) (s0 : Int32) (s1 : Int32) (M : gM) : Option (Int32 × gM) := (g_v (s0 + s1) (fun y8 => (if 0 ≤ y8 then (g_ck (M.1 0 13) 2 (if y8 ≤ (M.1 6 (tn (M.1 0 13))) then (f_X10_beaten_235 x4 x5 y8 M) else (g_ck (M.1 0 13) 2 (f_X10_beaten_235 x4 x5 (M.1 6 (tn (M.1 0 13))) M)))) else (f_X10_beaten_235 x4 x5 (0 : Int32) M))))
set_option maxRecDepth 100000 in
set_option maxHeartbeats 4000000 in
theorem o_X10_beaten_195 {X : gX} (x4 : Int32) (x5 : Int32) (s0 : Int32) (s1 : Int32) (M : gM) : G Y2 jX10_beaten X (g_fin g_ei) 195 [(0, .ref (ad X 0)), (4, .int x4), (5, .int x5)] [.int s1, .int s0] M (f_X10_beaten_195 x4 x5 s0 s1 M) := by
  rw [f_X10_beaten_195]
  refine G_iadd dX10_beaten_195 ?_
  refine G_vi (fun y8 => ?_)
  refine G_istore (lv' := [(6, .int y8), (0, .ref (ad X 0)), (4, .int x4), (5, .int x5)]) dX10_beaten_196 (by decide) rfl ?_
  refine G_iload 0 dX10_beaten_198 rfl ?_
  refine G_if_ge (tgt := 207) dX10_beaten_200 (by decide) ?_ ?_
  · refine G_iload 0 dX10_beaten_207 rfl ?_
    refine G_aload_n 1 dX10_beaten_209 rfl rfl ?_
    refine G_get 15 clX10 (y2_0) fl_X10_30 dX10_beaten_210 (by decide) rfl rfl ?_
    refine G_aload_n 1 dX10_beaten_213 rfl rfl ?_
    refine G_get 13 clX10 (y2_0) fl_X10_388 dX10_beaten_214 (by decide) rfl rfl ?_
    refine G_iald (y2_6) dX10_beaten_217 ?_
    refine G_icmp_le (tgt := 233) dX10_beaten_218 (by decide) ?_ ?_
    · refine G_iload 0 dX10_beaten_233 rfl ?_
      exact G_sub [1, 2, 3] rfl (o_X10_beaten_235 x4 x5 y8 M)
    · refine G_aload_n 1 dX10_beaten_221 rfl rfl ?_
      refine G_get 15 clX10 (y2_0) fl_X10_30 dX10_beaten_222 (by decide) rfl rfl ?_
      refine G_aload_n 1 dX10_beaten_225 rfl rfl ?_
      refine G_get 13 clX10 (y2_0) fl_X10_388 dX10_beaten_226 (by decide) rfl rfl ?_
      refine G_iald (y2_6) dX10_beaten_229 ?_
      refine G_goto (tgt := 235) dX10_beaten_230 (by decide) ?_
      exact G_sub [1, 2, 3] rfl (o_X10_beaten_235 x4 x5 (M.1 6 (tn (M.1 0 13))) M)
  · refine G_iconst (v := 0) dX10_beaten_203 (by decide) ?_
    refine G_goto (tgt := 235) dX10_beaten_204 (by decide) ?_
    exact G_sub [1, 2, 3] rfl (o_X10_beaten_235 x4 x5 (0 : Int32) M)
def f_X10_beaten_161 (x2 : Int32) (x4 : Int32) (x5 : Int32) (M : gM) : Option (Int32 × gM) := (g_ck (M.1 0 13) 2 (if (M.1 11 (tn (M.1 0 13))) = 0 then (f_X10_beaten_195 x4 x5 (M.1 0 64) (1 : Int32) M) else (g_ck (((6 : Int32) * (M.1 0 13)) + x2) 12 (f_X10_beaten_195 x4 x5 (M.1 0 64) (M.1 14 (tn (((6 : Int32) * (M.1 0 13)) + x2))) M))))
set_option maxRecDepth 100000 in
set_option maxHeartbeats 4000000 in
theorem o_X10_beaten_161 {X : gX} (x2 : Int32) (x4 : Int32) (x5 : Int32) (M : gM) : G Y2 jX10_beaten X (g_fin g_ei) 161 [(0, .ref (ad X 0)), (2, .int x2), (4, .int x4), (5, .int x5)] [] M (f_X10_beaten_161 x2 x4 x5 M) := by
  rw [f_X10_beaten_161]
  refine G_aload_n 0 dX10_beaten_161 rfl rfl ?_
  refine G_get 64 clX10 (y2_0) fl_X10_416 dX10_beaten_162 (by decide) rfl rfl ?_
  refine G_aload_n 0 dX10_beaten_165 rfl rfl ?_
  refine G_get 20 clX10 (y2_0) fl_X10_45 dX10_beaten_166 (by decide) rfl rfl ?_
  refine G_aload_n 0 dX10_beaten_169 rfl rfl ?_
  refine G_get 13 clX10 (y2_0) fl_X10_388 dX10_beaten_170 (by decide) rfl rfl ?_
  refine G_iald (y2_11) dX10_beaten_173 ?_
  refine G_if_ne (tgt := 181) dX10_beaten_174 (by decide) ?_ ?_
  · refine G_aload_n 0 dX10_beaten_181 rfl rfl ?_
    refine G_get 23 clX10 (y2_0) fl_X10_54 dX10_beaten_182 (by decide) rfl rfl ?_
    refine G_bipush (v := 6) dX10_beaten_185 (by decide) ?_
    refine G_aload_n 0 dX10_beaten_187 rfl rfl ?_
    refine G_get 13 clX10 (y2_0) fl_X10_388 dX10_beaten_188 (by decide) rfl rfl ?_
    refine G_imul dX10_beaten_191 ?_
    refine G_iload_n 1 dX10_beaten_192 rfl rfl ?_
    refine G_iadd dX10_beaten_193 ?_
    refine G_iald (y2_14) dX10_beaten_194 ?_
    exact G_sub [0, 2, 3] rfl (o_X10_beaten_195 x4 x5 (M.1 0 64) (M.1 14 (tn (((6 : Int32) * (M.1 0 13)) + x2))) M)
  · refine G_iconst (v := 1) dX10_beaten_177 (by decide) ?_
    refine G_goto (tgt := 195) dX10_beaten_178 (by decide) ?_
    exact G_sub [0, 2, 3] rfl (o_X10_beaten_195 x4 x5 (M.1 0 64) (1 : Int32) M)
def f_X10_beaten_88 (x2 : Int32) (x4 : Int32) (M : gM) : Option (Int32 × gM) := (g_m (sI M 0 66 x4) (fun M6 => (g_v ((M6.1 0 65) + x4) (fun y7 => (g_ck (((2 : Int32) * (M6.1 0 13)) + (1 : Int32)) 4 (if (M6.1 9 (tn (((2 : Int32) * (M6.1 0 13)) + (1 : Int32)))) < 0 then (f_X10_beaten_161 x2 x4 y7 M6) else (g_ck (((2 : Int32) * (M6.1 0 13)) + (1 : Int32)) 4 (g_ck (((2 : Int32) * (M6.1 0 13)) + (1 : Int32)) 4 (g_b (f_X10_sum (M6.1 9 (tn (((2 : Int32) * (M6.1 0 13)) + (1 : Int32)))) (M6.1 10 (tn (((2 : Int32) * (M6.1 0 13)) + (1 : Int32)))) M6) (fun r14 M13 => (if (M13.1 0 70) = 0 then (f_X10_beaten_161 x2 x4 r14 M13) else (some (((-2) : Int32), M13)))))))))))))
set_option maxRecDepth 100000 in
set_option maxHeartbeats 4000000 in
theorem o_X10_beaten_88 {X : gX} (x2 : Int32) (x4 : Int32) (M : gM) : G Y2 jX10_beaten X (g_fin g_ei) 88 [(0, .ref (ad X 0)), (2, .int x2), (4, .int x4)] [] M (f_X10_beaten_88 x2 x4 M) := by
  rw [f_X10_beaten_88]
  refine G_aload_n 0 dX10_beaten_88 rfl rfl ?_
  refine G_iload 2 dX10_beaten_89 rfl ?_
  refine G_putI 66 clX10 (y2_0) fl_X10_422 dX10_beaten_91 (by decide) rfl rfl rfl ?_
  refine G_m (fun M6 => ?_)
  refine G_aload_n 0 dX10_beaten_94 rfl rfl ?_
  refine G_get 65 clX10 (y2_0) fl_X10_419 dX10_beaten_95 (by decide) rfl rfl ?_
  refine G_iload 2 dX10_beaten_98 rfl ?_
  refine G_iadd dX10_beaten_100 ?_
  refine G_vi (fun y7 => ?_)
  refine G_istore (lv' := [(5, .int y7), (0, .ref (ad X 0)), (2, .int x2), (4, .int x4)]) dX10_beaten_101 (by decide) rfl ?_
  refine G_aload_n 1 dX10_beaten_103 rfl rfl ?_
  refine G_get 18 clX10 (y2_0) fl_X10_39 dX10_beaten_104 (by decide) rfl rfl ?_
  refine G_iconst (v := 2) dX10_beaten_107 (by decide) ?_
  refine G_aload_n 1 dX10_beaten_108 rfl rfl ?_
  refine G_get 13 clX10 (y2_0) fl_X10_388 dX10_beaten_109 (by decide) rfl rfl ?_
  refine G_imul dX10_beaten_112 ?_
  refine G_iconst (v := 1) dX10_beaten_113 (by decide) ?_
  refine G_iadd dX10_beaten_114 ?_
  refine G_iald (y2_9) dX10_beaten_115 ?_
  refine G_if_lt (tgt := 161) dX10_beaten_116 (by decide) ?_ ?_
  · exact G_sub [1, 2, 3, 0] rfl (o_X10_beaten_161 x2 x4 y7 M6)
  · refine G_aload_n 1 dX10_beaten_119 rfl rfl ?_
    refine G_aload_n 1 dX10_beaten_120 rfl rfl ?_
    refine G_get 18 clX10 (y2_0) fl_X10_39 dX10_beaten_121 (by decide) rfl rfl ?_
    refine G_iconst (v := 2) dX10_beaten_124 (by decide) ?_
    refine G_aload_n 1 dX10_beaten_125 rfl rfl ?_
    refine G_get 13 clX10 (y2_0) fl_X10_388 dX10_beaten_126 (by decide) rfl rfl ?_
    refine G_imul dX10_beaten_129 ?_
    refine G_iconst (v := 1) dX10_beaten_130 (by decide) ?_
    refine G_iadd dX10_beaten_131 ?_
    refine G_iald (y2_9) dX10_beaten_132 ?_
    refine G_aload_n 1 dX10_beaten_133 rfl rfl ?_
    refine G_get 19 clX10 (y2_0) fl_X10_42 dX10_beaten_134 (by decide) rfl rfl ?_
    refine G_iconst (v := 2) dX10_beaten_137 (by decide) ?_
    refine G_aload_n 1 dX10_beaten_138 rfl rfl ?_
    refine G_get 13 clX10 (y2_0) fl_X10_388 dX10_beaten_139 (by decide) rfl rfl ?_
    refine G_imul dX10_beaten_142 ?_
    refine G_iconst (v := 1) dX10_beaten_143 (by decide) ?_
    refine G_iadd dX10_beaten_144 ?_
    refine G_iald (y2_10) dX10_beaten_145 ?_
    refine G_cVi (As := [.int (M6.1 9 (tn (((2 : Int32) * (M6.1 0 13)) + (1 : Int32)))), .int (M6.1 10 (tn (((2 : Int32) * (M6.1 0 13)) + (1 : Int32))))]) (rest := []) (ok_X10_sum (M6.1 9 (tn (((2 : Int32) * (M6.1 0 13)) + (1 : Int32)))) (M6.1 10 (tn (((2 : Int32) * (M6.1 0 13)) + (1 : Int32)))) M6) rfl (y2_0) rfl mv_X10_440 dX10_beaten_146 rfl rfl (Nat.le_of_ble_eq_true rfl) (g_fitN (by decide) (by decide)) (fun r14 M13 => ?_)
    refine G_istore (lv' := [(5, .int r14), (0, .ref (ad X 0)), (2, .int x2), (4, .int x4)]) dX10_beaten_149 (by decide) rfl ?_
    refine G_aload_n 1 dX10_beaten_151 rfl rfl ?_
    refine G_get 70 clX10 (y2_0) fl_X10_434 dX10_beaten_152 (by decide) rfl rfl ?_
    refine G_if_eq (tgt := 161) dX10_beaten_155 (by decide) ?_ ?_
    · exact G_sub [1, 2, 3, 0] rfl (o_X10_beaten_161 x2 x4 r14 M13)
    · refine G_bipush (v := (-2)) dX10_beaten_158 (by decide) ?_
      exact G_iret rfl dX10_beaten_160
def f_X10_beaten (a1 : Int32) (a2 : Int32) (a3 : Int32) (M : gM) : Option (Int32 × gM) := (g_b (f_X10_pushOf a2 M) (fun r2 M1 => (g_b (f_X10_look a1 r2 a3 M1) (fun r4 M3 => (g_v ((((M3.1 0 66) + ((M3.1 0 65) / (4 : Int32))) + a3) - ((M3.1 0 67) * (M3.1 0 47))) (fun y5 => (g_ck ((2 : Int32) * (M3.1 0 13)) 4 (if (M3.1 9 (tn ((2 : Int32) * (M3.1 0 13)))) < 0 then (f_X10_beaten_88 a2 y5 M3) else (g_ck ((2 : Int32) * (M3.1 0 13)) 4 (g_ck ((2 : Int32) * (M3.1 0 13)) 4 (g_b (f_X10_sum (M3.1 9 (tn ((2 : Int32) * (M3.1 0 13)))) (M3.1 10 (tn ((2 : Int32) * (M3.1 0 13)))) M3) (fun r16 M15 => (if (M15.1 0 70) = 0 then (f_X10_beaten_88 a2 r16 M15) else (some (((-2) : Int32), M15)))))))))))))))
set_option maxRecDepth 100000 in
set_option maxHeartbeats 4000000 in
theorem ok_X10_beaten (a1 : Int32) (a2 : Int32) (a3 : Int32) (M : gM) : g_met Y2 yX10_beaten jX10_beaten g_ei (fun Z => [.ref (Z.2.1 0), .int a1, .int a2, .int a3]) M (f_X10_beaten a1 a2 a3 M) := by
  refine g_enter (fun Z => [(0, .ref (Z.2.1 0)), (1, .int a1), (2, .int a2), (3, .int a3)]) (by decide) rfl (fun Z => Nat.le_of_ble_eq_true rfl) (fun Z => rfl) (fun X => ?_)
  rw [f_X10_beaten]
  refine G_aload_n 0 dX10_beaten_0 rfl rfl ?_
  refine G_iload_n 1 dX10_beaten_1 rfl rfl ?_
  refine G_aload_n 0 dX10_beaten_2 rfl rfl ?_
  refine G_iload_n 2 dX10_beaten_3 rfl rfl ?_
  refine G_cVi (As := [.int a2]) (rest := [.int a1, .ref (ad X 0)]) (ok_X10_pushOf a2 M) rfl (y2_0) rfl mv_X10_463 dX10_beaten_4 rfl rfl (Nat.le_of_ble_eq_true rfl) (g_fitN (by decide) (by decide)) (fun r2 M1 => ?_)
  refine G_iload_n 3 dX10_beaten_7 rfl rfl ?_
  refine G_cVv (As := [.int a1, .int r2, .int a3]) (rest := []) (ok_X10_look a1 r2 a3 M1) rfl (y2_0) rfl mv_X10_466 dX10_beaten_8 rfl rfl (Nat.le_of_ble_eq_true rfl) (g_fitN (by decide) (by decide)) (fun r4 M3 => ?_)
  refine G_aload_n 0 dX10_beaten_11 rfl rfl ?_
  refine G_get 66 clX10 (y2_0) fl_X10_422 dX10_beaten_12 (by decide) rfl rfl ?_
  refine G_aload_n 0 dX10_beaten_15 rfl rfl ?_
  refine G_get 65 clX10 (y2_0) fl_X10_419 dX10_beaten_16 (by decide) rfl rfl ?_
  refine G_iconst (v := 4) dX10_beaten_19 (by decide) ?_
  refine G_idivK dX10_beaten_20 (by decide) ?_
  refine G_iadd dX10_beaten_21 ?_
  refine G_iload_n 3 dX10_beaten_22 rfl rfl ?_
  refine G_iadd dX10_beaten_23 ?_
  refine G_aload_n 0 dX10_beaten_24 rfl rfl ?_
  refine G_get 67 clX10 (y2_0) fl_X10_425 dX10_beaten_25 (by decide) rfl rfl ?_
  refine G_aload_n 0 dX10_beaten_28 rfl rfl ?_
  refine G_get 47 clX10 (y2_0) fl_X10_127 dX10_beaten_29 (by decide) rfl rfl ?_
  refine G_imul dX10_beaten_32 ?_
  refine G_isub dX10_beaten_33 ?_
  refine G_vi (fun y5 => ?_)
  refine G_istore (lv' := [(4, .int y5), (0, .ref (ad X 0)), (1, .int a1), (2, .int a2), (3, .int a3)]) dX10_beaten_34 (by decide) rfl ?_
  refine G_aload_n 1 dX10_beaten_36 rfl rfl ?_
  refine G_get 18 clX10 (y2_0) fl_X10_39 dX10_beaten_37 (by decide) rfl rfl ?_
  refine G_iconst (v := 2) dX10_beaten_40 (by decide) ?_
  refine G_aload_n 1 dX10_beaten_41 rfl rfl ?_
  refine G_get 13 clX10 (y2_0) fl_X10_388 dX10_beaten_42 (by decide) rfl rfl ?_
  refine G_imul dX10_beaten_45 ?_
  refine G_iald (y2_9) dX10_beaten_46 ?_
  refine G_if_lt (tgt := 88) dX10_beaten_47 (by decide) ?_ ?_
  · exact G_sub [1, 3, 0] rfl (o_X10_beaten_88 a2 y5 M3)
  · refine G_aload_n 1 dX10_beaten_50 rfl rfl ?_
    refine G_aload_n 1 dX10_beaten_51 rfl rfl ?_
    refine G_get 18 clX10 (y2_0) fl_X10_39 dX10_beaten_52 (by decide) rfl rfl ?_
    refine G_iconst (v := 2) dX10_beaten_55 (by decide) ?_
    refine G_aload_n 1 dX10_beaten_56 rfl rfl ?_
    refine G_get 13 clX10 (y2_0) fl_X10_388 dX10_beaten_57 (by decide) rfl rfl ?_
    refine G_imul dX10_beaten_60 ?_
    refine G_iald (y2_9) dX10_beaten_61 ?_
    refine G_aload_n 1 dX10_beaten_62 rfl rfl ?_
    refine G_get 19 clX10 (y2_0) fl_X10_42 dX10_beaten_63 (by decide) rfl rfl ?_
    refine G_iconst (v := 2) dX10_beaten_66 (by decide) ?_
    refine G_aload_n 1 dX10_beaten_67 rfl rfl ?_
    refine G_get 13 clX10 (y2_0) fl_X10_388 dX10_beaten_68 (by decide) rfl rfl ?_
    refine G_imul dX10_beaten_71 ?_
    refine G_iald (y2_10) dX10_beaten_72 ?_
    refine G_cVi (As := [.int (M3.1 9 (tn ((2 : Int32) * (M3.1 0 13)))), .int (M3.1 10 (tn ((2 : Int32) * (M3.1 0 13))))]) (rest := []) (ok_X10_sum (M3.1 9 (tn ((2 : Int32) * (M3.1 0 13)))) (M3.1 10 (tn ((2 : Int32) * (M3.1 0 13)))) M3) rfl (y2_0) rfl mv_X10_440 dX10_beaten_73 rfl rfl (Nat.le_of_ble_eq_true rfl) (g_fitN (by decide) (by decide)) (fun r16 M15 => ?_)
    refine G_istore (lv' := [(4, .int r16), (0, .ref (ad X 0)), (1, .int a1), (2, .int a2), (3, .int a3)]) dX10_beaten_76 (by decide) rfl ?_
    refine G_aload_n 1 dX10_beaten_78 rfl rfl ?_
    refine G_get 70 clX10 (y2_0) fl_X10_434 dX10_beaten_79 (by decide) rfl rfl ?_
    refine G_if_eq (tgt := 88) dX10_beaten_82 (by decide) ?_ ?_
    · exact G_sub [1, 3, 0] rfl (o_X10_beaten_88 a2 r16 M15)
    · refine G_bipush (v := (-2)) dX10_beaten_85 (by decide) ?_
      exact G_iret rfl dX10_beaten_87
-- X10_blow
def f_X10_blow_33 : Nat → Int32 → Int32 → gM → Option (Unit × gM)
  | 0, _, _, _ => none
  | n + 1, x1, x2, M => (if x2 < 0 then (some ((), M)) else (g_v (((8 : Int32) * (M.1 0 13)) + x2) (fun y6 => (g_ck y6 16 (if (M.1 0 64) < (M.1 18 (tn y6)) then (f_X10_blow_33 n x1 (x2 + (-1)) M) else (g_ck y6 16 (if (M.1 19 (tn y6)) < (M.1 0 64) then (f_X10_blow_33 n x1 (x2 + (-1)) M) else (g_ck y6 16 (g_ck y6 16 (g_b (f_X10_isHeld (M.1 22 (tn y6)) (M.1 23 (tn y6)) M) (fun r8 M7 => (if r8 then (g_ck y6 16 (g_ck x1 2079 (g_m (sI M7 47 (tn x1) (M7.1 20 (tn y6))) (fun M9 => (g_ck y6 16 (g_ck x1 2079 (g_m (sI M9 48 (tn x1) (M9.1 21 (tn y6))) (fun M10 => (some ((), M10)))))))))) else (f_X10_blow_33 n x1 (x2 + (-1)) M7)))))))))))))
set_option maxRecDepth 100000 in
set_option maxHeartbeats 4000000 in
theorem o_X10_blow_33 {X : gX} : ∀ (n : Nat) (x1 : Int32) (x2 : Int32) (M : gM), G Y2 jX10_blow X (g_fin g_ev) 33 [(0, .ref (ad X 0)), (1, .int x1), (2, .int x2)] [] M (f_X10_blow_33 n x1 x2 M) := by
  intro n
  induction n with
  | zero => intro x1 x2 M; exact G_none
  | succ n ih =>
    intro x1 x2 M
    rw [f_X10_blow_33]
    refine G_iload_n 2 dX10_blow_33 rfl rfl ?_
    refine G_if_lt (tgt := 126) dX10_blow_34 (by decide) ?_ ?_
    · exact G_vret rfl dX10_blow_126
    · refine G_bipush (v := 8) dX10_blow_37 (by decide) ?_
      refine G_aload_n 0 dX10_blow_39 rfl rfl ?_
      refine G_get 13 clX10 (y2_0) fl_X10_388 dX10_blow_40 (by decide) rfl rfl ?_
      refine G_imul dX10_blow_43 ?_
      refine G_iload_n 2 dX10_blow_44 rfl rfl ?_
      refine G_iadd dX10_blow_45 ?_
      refine G_vi (fun y6 => ?_)
      refine G_istore_n (lv' := [(3, .int y6), (0, .ref (ad X 0)), (1, .int x1), (2, .int x2)]) dX10_blow_46 rfl (by decide) rfl ?_
      refine G_aload_n 1 dX10_blow_47 rfl rfl ?_
      refine G_get 64 clX10 (y2_0) fl_X10_416 dX10_blow_48 (by decide) rfl rfl ?_
      refine G_aload_n 1 dX10_blow_51 rfl rfl ?_
      refine G_get 27 clX10 (y2_0) fl_X10_66 dX10_blow_52 (by decide) rfl rfl ?_
      refine G_iload_n 0 dX10_blow_55 rfl rfl ?_
      refine G_iald (y2_18) dX10_blow_56 ?_
      refine G_icmp_lt (tgt := 120) dX10_blow_57 (by decide) ?_ ?_
      · refine G_iinc (v := x2 + (-1)) (lv' := [(2, .int (x2 + (-1))), (3, .int y6), (0, .ref (ad X 0)), (1, .int x1)]) 3 dX10_blow_120 rfl rfl (by decide) rfl ?_
        refine G_goto (tgt := 33) dX10_blow_123 (by decide) ?_
        exact G_sub [2, 3, 0] rfl (ih x1 (x2 + (-1)) M)
      · refine G_aload_n 1 dX10_blow_60 rfl rfl ?_
        refine G_get 64 clX10 (y2_0) fl_X10_416 dX10_blow_61 (by decide) rfl rfl ?_
        refine G_aload_n 1 dX10_blow_64 rfl rfl ?_
        refine G_get 28 clX10 (y2_0) fl_X10_69 dX10_blow_65 (by decide) rfl rfl ?_
        refine G_iload_n 0 dX10_blow_68 rfl rfl ?_
        refine G_iald (y2_19) dX10_blow_69 ?_
        refine G_icmp_gt (tgt := 120) dX10_blow_70 (by decide) ?_ ?_
        · refine G_iinc (v := x2 + (-1)) (lv' := [(2, .int (x2 + (-1))), (3, .int y6), (0, .ref (ad X 0)), (1, .int x1)]) 3 dX10_blow_120 rfl rfl (by decide) rfl ?_
          refine G_goto (tgt := 33) dX10_blow_123 (by decide) ?_
          exact G_sub [2, 3, 0] rfl (ih x1 (x2 + (-1)) M)
        · refine G_aload_n 1 dX10_blow_73 rfl rfl ?_
          refine G_aload_n 1 dX10_blow_74 rfl rfl ?_
          refine G_get 31 clX10 (y2_0) fl_X10_78 dX10_blow_75 (by decide) rfl rfl ?_
          refine G_iload_n 0 dX10_blow_78 rfl rfl ?_
          refine G_iald (y2_22) dX10_blow_79 ?_
          refine G_aload_n 1 dX10_blow_80 rfl rfl ?_
          refine G_get 32 clX10 (y2_0) fl_X10_81 dX10_blow_81 (by decide) rfl rfl ?_
          refine G_iload_n 0 dX10_blow_84 rfl rfl ?_
          refine G_iald (y2_23) dX10_blow_85 ?_
          refine G_cVb (As := [.int (M.1 22 (tn y6)), .int (M.1 23 (tn y6))]) (rest := []) (ok_X10_isHeld (M.1 22 (tn y6)) (M.1 23 (tn y6)) M) rfl (y2_0) rfl mv_X10_469 dX10_blow_86 rfl rfl (Nat.le_of_ble_eq_true rfl) (g_fitN (by decide) (by decide)) (fun r8 M7 => ?_)
          refine G_ifB_ne (tgt := 95) dX10_blow_89 (by decide) ?_ ?_
          · refine G_aload_n 1 dX10_blow_95 rfl rfl ?_
            refine G_get 77 clX10 (y2_0) fl_X10_157 dX10_blow_96 (by decide) rfl rfl ?_
            refine G_iload_n 2 dX10_blow_99 rfl rfl ?_
            refine G_aload_n 1 dX10_blow_100 rfl rfl ?_
            refine G_get 29 clX10 (y2_0) fl_X10_72 dX10_blow_101 (by decide) rfl rfl ?_
            refine G_iload_n 0 dX10_blow_104 rfl rfl ?_
            refine G_iald (y2_20) dX10_blow_105 ?_
            refine G_iast (y2_47) dX10_blow_106 ?_
            refine G_m (fun M9 => ?_)
            refine G_aload_n 1 dX10_blow_107 rfl rfl ?_
            refine G_get 78 clX10 (y2_0) fl_X10_160 dX10_blow_108 (by decide) rfl rfl ?_
            refine G_iload_n 2 dX10_blow_111 rfl rfl ?_
            refine G_aload_n 1 dX10_blow_112 rfl rfl ?_
            refine G_get 30 clX10 (y2_0) fl_X10_75 dX10_blow_113 (by decide) rfl rfl ?_
            refine G_iload_n 0 dX10_blow_116 rfl rfl ?_
            refine G_iald (y2_21) dX10_blow_117 ?_
            refine G_iast (y2_48) dX10_blow_118 ?_
            refine G_m (fun M10 => ?_)
            exact G_vret rfl dX10_blow_119
          · refine G_goto (tgt := 120) dX10_blow_92 (by decide) ?_
            refine G_iinc (v := x2 + (-1)) (lv' := [(2, .int (x2 + (-1))), (3, .int y6), (0, .ref (ad X 0)), (1, .int x1)]) 3 dX10_blow_120 rfl rfl (by decide) rfl ?_
            refine G_goto (tgt := 33) dX10_blow_123 (by decide) ?_
            exact G_sub [2, 3, 0] rfl (ih x1 (x2 + (-1)) M7)
def f_X10_blow (a1 : Int32) (M : gM) : Option (Unit × gM) := (g_ck a1 2079 (g_m (sI M 47 (tn a1) (0 : Int32)) (fun M1 => (g_ck a1 2079 (g_m (sI M1 48 (tn a1) (0 : Int32)) (fun M2 => (g_b (f_X10_look a1 (0 : Int32) (0 : Int32) M2) (fun r4 M3 => (g_ck (M3.1 0 13) 2 (g_v ((M3.1 17 (tn (M3.1 0 13))) - (1 : Int32)) (fun y5 => (f_X10_blow_33 FU a1 y5 M3))))))))))))
set_option maxRecDepth 100000 in
set_option maxHeartbeats 4000000 in
theorem ok_X10_blow (a1 : Int32) (M : gM) : g_met Y2 yX10_blow jX10_blow g_ev (fun Z => [.ref (Z.2.1 0), .int a1]) M (f_X10_blow a1 M) := by
  refine g_enter (fun Z => [(0, .ref (Z.2.1 0)), (1, .int a1)]) (by decide) rfl (fun Z => Nat.le_of_ble_eq_true rfl) (fun Z => rfl) (fun X => ?_)
  rw [f_X10_blow]
  refine G_aload_n 0 dX10_blow_0 rfl rfl ?_
  refine G_get 77 clX10 (y2_0) fl_X10_157 dX10_blow_1 (by decide) rfl rfl ?_
  refine G_iload_n 1 dX10_blow_4 rfl rfl ?_
  refine G_iconst (v := 0) dX10_blow_5 (by decide) ?_
  refine G_iast (y2_47) dX10_blow_6 ?_
  refine G_m (fun M1 => ?_)
  refine G_aload_n 0 dX10_blow_7 rfl rfl ?_
  refine G_get 78 clX10 (y2_0) fl_X10_160 dX10_blow_8 (by decide) rfl rfl ?_
  refine G_iload_n 1 dX10_blow_11 rfl rfl ?_
  refine G_iconst (v := 0) dX10_blow_12 (by decide) ?_
  refine G_iast (y2_48) dX10_blow_13 ?_
  refine G_m (fun M2 => ?_)
  refine G_aload_n 0 dX10_blow_14 rfl rfl ?_
  refine G_iload_n 1 dX10_blow_15 rfl rfl ?_
  refine G_iconst (v := 0) dX10_blow_16 (by decide) ?_
  refine G_iconst (v := 0) dX10_blow_17 (by decide) ?_
  refine G_cVv (As := [.int a1, .int 0, .int 0]) (rest := []) (ok_X10_look a1 (0 : Int32) (0 : Int32) M2) rfl (y2_0) rfl mv_X10_466 dX10_blow_18 rfl rfl (Nat.le_of_ble_eq_true rfl) (g_fitN (by decide) (by decide)) (fun r4 M3 => ?_)
  refine G_aload_n 0 dX10_blow_21 rfl rfl ?_
  refine G_get 26 clX10 (y2_0) fl_X10_63 dX10_blow_22 (by decide) rfl rfl ?_
  refine G_aload_n 0 dX10_blow_25 rfl rfl ?_
  refine G_get 13 clX10 (y2_0) fl_X10_388 dX10_blow_26 (by decide) rfl rfl ?_
  refine G_iald (y2_17) dX10_blow_29 ?_
  refine G_iconst (v := 1) dX10_blow_30 (by decide) ?_
  refine G_isub dX10_blow_31 ?_
  refine G_vi (fun y5 => ?_)
  refine G_istore_n (lv' := [(2, .int y5), (0, .ref (ad X 0)), (1, .int a1)]) dX10_blow_32 rfl (by decide) rfl ?_
  exact G_sub [1, 2, 0] rfl (o_X10_blow_33 FU a1 y5 M3)
