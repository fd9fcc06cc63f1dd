def f_law_0 (L : Nat) (xs : Nat → Int32) (kn : Int32 → gM → gM → Int64 → Option Bool) (x4 : Int32) (M1 M2 : gM) (ov : Int64) : Option Bool := (g_ck (x4 + (1 : Int32)) L (g_ck (x4 + (2 : Int32)) L (g_ck (x4 + (3 : Int32)) L (g_ck (x4 + (4 : Int32)) L (g_ck (x4 + (5 : Int32)) L (g_b (f_X9_feed (xs (tn (x4 + (1 : Int32)))) (xs (tn (x4 + (2 : Int32)))) (xs (tn (x4 + (3 : Int32)))) (xs (tn (x4 + (4 : Int32)))) (xs (tn (x4 + (5 : Int32)))) M1) (fun r1 N2 => (g_ck (x4 + (1 : Int32)) L (g_ck (x4 + (2 : Int32)) L (g_ck (x4 + (3 : Int32)) L (g_ck (x4 + (4 : Int32)) L (g_ck (x4 + (5 : Int32)) L (g_b (f_X10_feed (xs (tn (x4 + (1 : Int32)))) (xs (tn (x4 + (2 : Int32)))) (xs (tn (x4 + (3 : Int32)))) (xs (tn (x4 + (4 : Int32)))) (xs (tn (x4 + (5 : Int32)))) M2) (fun r3 N4 => (if r1 = r3 then (kn (x4 + 6) N2 N4 ov) else (some false))))))))))))))))
set_option maxRecDepth 100000 in
set_option maxHeartbeats 4000000 in
theorem o_law_0 {X : gXL} {k : Nat} {kn : Int32 → gM → gM → Int64 → Option Bool} (hk : k ≤ 512) (ih : ∀ (x4 : Int32) (M1 M2 : gM) (ov : Int64), GL X (k + 1) 23 [(0, .ref (lb X)), (1, .ref (lad X 0)), (2, .ref (lad2 X 0)), (3, .ref (lo X)), (4, .int x4)] [] M1 M2 ov (kn x4 M1 M2 ov)) (x4 : Int32) (M1 M2 : gM) (ov : Int64) : GL X k 220 [(0, .ref (lb X)), (1, .ref (lad X 0)), (2, .ref (lad2 X 0)), (3, .ref (lo X)), (4, .int x4)] [] M1 M2 ov (f_law_0 (lL X) (lxs X) kn x4 M1 M2 ov) := by
  rw [f_law_0]
  refine L_aload_n 1 dL_law_220 rfl rfl ?_
  refine L_aload_n 0 dL_law_221 rfl rfl ?_
  refine L_iload 4 dL_law_222 rfl ?_
  refine L_iconst (v := 1) dL_law_224 (by decide) ?_
  refine L_iadd dL_law_225 ?_
  refine L_sld dL_law_226 ?_
  refine L_aload_n 0 dL_law_227 rfl rfl ?_
  refine L_iload 4 dL_law_228 rfl ?_
  refine L_iconst (v := 2) dL_law_230 (by decide) ?_
  refine L_iadd dL_law_231 ?_
  refine L_sld dL_law_232 ?_
  refine L_aload_n 0 dL_law_233 rfl rfl ?_
  refine L_iload 4 dL_law_234 rfl ?_
  refine L_iconst (v := 3) dL_law_236 (by decide) ?_
  refine L_iadd dL_law_237 ?_
  refine L_sld dL_law_238 ?_
  refine L_aload_n 0 dL_law_239 rfl rfl ?_
  refine L_iload 4 dL_law_240 rfl ?_
  refine L_iconst (v := 4) dL_law_242 (by decide) ?_
  refine L_iadd dL_law_243 ?_
  refine L_sld dL_law_244 ?_
  refine L_aload_n 0 dL_law_245 rfl rfl ?_
  refine L_iload 4 dL_law_246 rfl ?_
  refine L_iconst (v := 5) dL_law_248 (by decide) ?_
  refine L_iadd dL_law_249 ?_
  refine L_sld dL_law_250 ?_
  refine L_c1i (As := [.int (lxs X (tn (x4 + (1 : Int32)))), .int (lxs X (tn (x4 + (2 : Int32)))), .int (lxs X (tn (x4 + (3 : Int32)))), .int (lxs X (tn (x4 + (4 : Int32)))), .int (lxs X (tn (x4 + (5 : Int32))))]) (rest := []) (ok_X9_feed (lxs X (tn (x4 + (1 : Int32)))) (lxs X (tn (x4 + (2 : Int32)))) (lxs X (tn (x4 + (3 : Int32)))) (lxs X (tn (x4 + (4 : Int32)))) (lxs X (tn (x4 + (5 : Int32)))) M1) rfl y1_0 rfl mv_L_21 dL_law_251 rfl rfl (Nat.le_of_ble_eq_true rfl) (by decide) (fun r1 N2 => ?_)
  refine L_aload_n 2 dL_law_254 rfl rfl ?_
  refine L_aload_n 0 dL_law_255 rfl rfl ?_
  refine L_iload 4 dL_law_256 rfl ?_
  refine L_iconst (v := 1) dL_law_258 (by decide) ?_
  refine L_iadd dL_law_259 ?_
  refine L_sld dL_law_260 ?_
  refine L_aload_n 0 dL_law_261 rfl rfl ?_
  refine L_iload 4 dL_law_262 rfl ?_
  refine L_iconst (v := 2) dL_law_264 (by decide) ?_
  refine L_iadd dL_law_265 ?_
  refine L_sld dL_law_266 ?_
  refine L_aload_n 0 dL_law_267 rfl rfl ?_
  refine L_iload 4 dL_law_268 rfl ?_
  refine L_iconst (v := 3) dL_law_270 (by decide) ?_
  refine L_iadd dL_law_271 ?_
  refine L_sld dL_law_272 ?_
  refine L_aload_n 0 dL_law_273 rfl rfl ?_
  refine L_iload 4 dL_law_274 rfl ?_
  refine L_iconst (v := 4) dL_law_276 (by decide) ?_
  refine L_iadd dL_law_277 ?_
  refine L_sld dL_law_278 ?_
  refine L_aload_n 0 dL_law_279 rfl rfl ?_
  refine L_iload 4 dL_law_280 rfl ?_
  refine L_iconst (v := 5) dL_law_282 (by decide) ?_
  refine L_iadd dL_law_283 ?_
  refine L_sld dL_law_284 ?_
  refine L_c2i (As := [.int (lxs X (tn (x4 + (1 : Int32)))), .int (lxs X (tn (x4 + (2 : Int32)))), .int (lxs X (tn (x4 + (3 : Int32)))), .int (lxs X (tn (x4 + (4 : Int32)))), .int (lxs X (tn (x4 + (5 : Int32))))]) (rest := [.int r1]) (ok_X10_feed (lxs X (tn (x4 + (1 : Int32)))) (lxs X (tn (x4 + (2 : Int32)))) (lxs X (tn (x4 + (3 : Int32)))) (lxs X (tn (x4 + (4 : Int32)))) (lxs X (tn (x4 + (5 : Int32)))) M2) rfl y2_0 rfl mv_L_25 dL_law_285 rfl rfl (Nat.le_of_ble_eq_true rfl) (by decide) (fun r3 N4 => ?_)
  refine L_icmp_eq (tgt := 1535) dL_law_288 (by decide) ?_ ?_
  · refine L_iinc (v := x4 + 6) (lv' := [(4, .int (x4 + 6)), (0, .ref (lb X)), (1, .ref (lad X 0)), (2, .ref (lad2 X 0)), (3, .ref (lo X))]) 4 dL_law_1535 rfl rfl (by decide) rfl ?_
    refine L_goto (tgt := 23) dL_law_1538 (by decide) ?_
    exact L_up hk (L_sub [1, 2, 3, 4, 0] rfl (ih (x4 + 6) N2 N4 ov))
  · refine L_iconst (v := 0) dL_law_291 (by decide) ?_
    exact L_ret0
def f_law_1 (L : Nat) (xs : Nat → Int32) (kn : Int32 → gM → gM → Int64 → Option Bool) (x4 : Int32) (M1 M2 : gM) (ov : Int64) : Option Bool := (g_ck (x4 + (1 : Int32)) L (g_b (f_X9_back (xs (tn (x4 + (1 : Int32)))) M1) (fun r5 N6 => (g_ck (x4 + (1 : Int32)) L (g_b (f_X10_back (xs (tn (x4 + (1 : Int32)))) M2) (fun r7 N8 => (if r5 = r7 then (kn (x4 + 6) N6 N8 ov) else (some false))))))))
set_option maxRecDepth 100000 in
set_option maxHeartbeats 4000000 in
theorem o_law_1 {X : gXL} {k : Nat} {kn : Int32 → gM → gM → Int64 → Option Bool} (hk : k ≤ 512) (ih : ∀ (x4 : Int32) (M1 M2 : gM) (ov : Int64), GL X (k + 1) 23 [(0, .ref (lb X)), (1, .ref (lad X 0)), (2, .ref (lad2 X 0)), (3, .ref (lo X)), (4, .int x4)] [] M1 M2 ov (kn x4 M1 M2 ov)) (x4 : Int32) (M1 M2 : gM) (ov : Int64) : GL X k 293 [(0, .ref (lb X)), (1, .ref (lad X 0)), (2, .ref (lad2 X 0)), (3, .ref (lo X)), (4, .int x4)] [] M1 M2 ov (f_law_1 (lL X) (lxs X) kn x4 M1 M2 ov) := by
  rw [f_law_1]
  refine L_aload_n 1 dL_law_293 rfl rfl ?_
  refine L_aload_n 0 dL_law_294 rfl rfl ?_
  refine L_iload 4 dL_law_295 rfl ?_
  refine L_iconst (v := 1) dL_law_297 (by decide) ?_
  refine L_iadd dL_law_298 ?_
  refine L_sld dL_law_299 ?_
  refine L_c1i (As := [.int (lxs X (tn (x4 + (1 : Int32))))]) (rest := []) (ok_X9_back (lxs X (tn (x4 + (1 : Int32)))) M1) rfl y1_0 rfl mv_L_26 dL_law_300 rfl rfl (Nat.le_of_ble_eq_true rfl) (by decide) (fun r5 N6 => ?_)
  refine L_aload_n 2 dL_law_303 rfl rfl ?_
  refine L_aload_n 0 dL_law_304 rfl rfl ?_
  refine L_iload 4 dL_law_305 rfl ?_
  refine L_iconst (v := 1) dL_law_307 (by decide) ?_
  refine L_iadd dL_law_308 ?_
  refine L_sld dL_law_309 ?_
  refine L_c2i (As := [.int (lxs X (tn (x4 + (1 : Int32))))]) (rest := [.int r5]) (ok_X10_back (lxs X (tn (x4 + (1 : Int32)))) M2) rfl y2_0 rfl mv_L_30 dL_law_310 rfl rfl (Nat.le_of_ble_eq_true rfl) (by decide) (fun r7 N8 => ?_)
  refine L_icmp_eq (tgt := 1535) dL_law_313 (by decide) ?_ ?_
  · refine L_iinc (v := x4 + 6) (lv' := [(4, .int (x4 + 6)), (0, .ref (lb X)), (1, .ref (lad X 0)), (2, .ref (lad2 X 0)), (3, .ref (lo X))]) 4 dL_law_1535 rfl rfl (by decide) rfl ?_
    refine L_goto (tgt := 23) dL_law_1538 (by decide) ?_
    exact L_up hk (L_sub [1, 2, 3, 4, 0] rfl (ih (x4 + 6) N6 N8 ov))
  · refine L_iconst (v := 0) dL_law_316 (by decide) ?_
    exact L_ret0
def f_law_2 (L : Nat) (xs : Nat → Int32) (kn : Int32 → gM → gM → Int64 → Option Bool) (x4 : Int32) (M1 M2 : gM) (ov : Int64) : Option Bool := (g_b (f_X9_read M1) (fun r9 N10 => (g_b (f_X10_read M2) (fun r11 N12 => (if r9 = r11 then (kn (x4 + 6) N10 N12 ov) else (some false))))))
set_option maxRecDepth 100000 in
set_option maxHeartbeats 4000000 in
theorem o_law_2 {X : gXL} {k : Nat} {kn : Int32 → gM → gM → Int64 → Option Bool} (hk : k ≤ 512) (ih : ∀ (x4 : Int32) (M1 M2 : gM) (ov : Int64), GL X (k + 1) 23 [(0, .ref (lb X)), (1, .ref (lad X 0)), (2, .ref (lad2 X 0)), (3, .ref (lo X)), (4, .int x4)] [] M1 M2 ov (kn x4 M1 M2 ov)) (x4 : Int32) (M1 M2 : gM) (ov : Int64) : GL X k 318 [(0, .ref (lb X)), (1, .ref (lad X 0)), (2, .ref (lad2 X 0)), (3, .ref (lo X)), (4, .int x4)] [] M1 M2 ov (f_law_2 (lL X) (lxs X) kn x4 M1 M2 ov) := by
  rw [f_law_2]
  refine L_aload_n 1 dL_law_318 rfl rfl ?_
  refine L_c1i (As := []) (rest := []) (ok_X9_read M1) rfl y1_0 rfl mv_L_31 dL_law_319 rfl rfl (Nat.le_of_ble_eq_true rfl) (by decide) (fun r9 N10 => ?_)
  refine L_aload_n 2 dL_law_322 rfl rfl ?_
  refine L_c2i (As := []) (rest := [.int r9]) (ok_X10_read M2) rfl y2_0 rfl mv_L_35 dL_law_323 rfl rfl (Nat.le_of_ble_eq_true rfl) (by decide) (fun r11 N12 => ?_)
  refine L_icmp_eq (tgt := 1535) dL_law_326 (by decide) ?_ ?_
  · refine L_iinc (v := x4 + 6) (lv' := [(4, .int (x4 + 6)), (0, .ref (lb X)), (1, .ref (lad X 0)), (2, .ref (lad2 X 0)), (3, .ref (lo X))]) 4 dL_law_1535 rfl rfl (by decide) rfl ?_
    refine L_goto (tgt := 23) dL_law_1538 (by decide) ?_
    exact L_up hk (L_sub [1, 2, 3, 4, 0] rfl (ih (x4 + 6) N10 N12 ov))
  · refine L_iconst (v := 0) dL_law_329 (by decide) ?_
    exact L_ret0
def f_law_3 (L : Nat) (xs : Nat → Int32) (kn : Int32 → gM → gM → Int64 → Option Bool) (x4 : Int32) (M1 M2 : gM) (ov : Int64) : Option Bool := (g_b (f_X9_place M1) (fun r13 N14 => (g_b (f_X10_place M2) (fun r15 N16 => (if r13 = r15 then (kn (x4 + 6) N14 N16 ov) else (some false))))))
set_option maxRecDepth 100000 in
set_option maxHeartbeats 4000000 in
theorem o_law_3 {X : gXL} {k : Nat} {kn : Int32 → gM → gM → Int64 → Option Bool} (hk : k ≤ 512) (ih : ∀ (x4 : Int32) (M1 M2 : gM) (ov : Int64), GL X (k + 1) 23 [(0, .ref (lb X)), (1, .ref (lad X 0)), (2, .ref (lad2 X 0)), (3, .ref (lo X)), (4, .int x4)] [] M1 M2 ov (kn x4 M1 M2 ov)) (x4 : Int32) (M1 M2 : gM) (ov : Int64) : GL X k 331 [(0, .ref (lb X)), (1, .ref (lad X 0)), (2, .ref (lad2 X 0)), (3, .ref (lo X)), (4, .int x4)] [] M1 M2 ov (f_law_3 (lL X) (lxs X) kn x4 M1 M2 ov) := by
  rw [f_law_3]
  refine L_aload_n 1 dL_law_331 rfl rfl ?_
  refine L_c1i (As := []) (rest := []) (ok_X9_place M1) rfl y1_0 rfl mv_L_36 dL_law_332 rfl rfl (Nat.le_of_ble_eq_true rfl) (by decide) (fun r13 N14 => ?_)
  refine L_aload_n 2 dL_law_335 rfl rfl ?_
  refine L_c2i (As := []) (rest := [.int r13]) (ok_X10_place M2) rfl y2_0 rfl mv_L_39 dL_law_336 rfl rfl (Nat.le_of_ble_eq_true rfl) (by decide) (fun r15 N16 => ?_)
  refine L_icmp_eq (tgt := 1535) dL_law_339 (by decide) ?_ ?_
  · refine L_iinc (v := x4 + 6) (lv' := [(4, .int (x4 + 6)), (0, .ref (lb X)), (1, .ref (lad X 0)), (2, .ref (lad2 X 0)), (3, .ref (lo X))]) 4 dL_law_1535 rfl rfl (by decide) rfl ?_
    refine L_goto (tgt := 23) dL_law_1538 (by decide) ?_
    exact L_up hk (L_sub [1, 2, 3, 4, 0] rfl (ih (x4 + 6) N14 N16 ov))
  · refine L_iconst (v := 0) dL_law_342 (by decide) ?_
    exact L_ret0
def f_law_4 (L : Nat) (xs : Nat → Int32) (kn : Int32 → gM → gM → Int64 → Option Bool) (x4 : Int32) (M1 M2 : gM) (ov : Int64) : Option Bool := (g_ck (x4 + (1 : Int32)) L (g_b (f_X9_pole (xs (tn (x4 + (1 : Int32)))) M1) (fun r17 N18 => (g_ck (x4 + (1 : Int32)) L (g_b (f_X10_pole (xs (tn (x4 + (1 : Int32)))) M2) (fun r19 N20 => (if (b2i r17) = (b2i r19) then (kn (x4 + 6) N18 N20 ov) else (some false))))))))
set_option maxRecDepth 100000 in
set_option maxHeartbeats 4000000 in
theorem o_law_4 {X : gXL} {k : Nat} {kn : Int32 → gM → gM → Int64 → Option Bool} (hk : k ≤ 512) (ih : ∀ (x4 : Int32) (M1 M2 : gM) (ov : Int64), GL X (k + 1) 23 [(0, .ref (lb X)), (1, .ref (lad X 0)), (2, .ref (lad2 X 0)), (3, .ref (lo X)), (4, .int x4)] [] M1 M2 ov (kn x4 M1 M2 ov)) (x4 : Int32) (M1 M2 : gM) (ov : Int64) : GL X k 344 [(0, .ref (lb X)), (1, .ref (lad X 0)), (2, .ref (lad2 X 0)), (3, .ref (lo X)), (4, .int x4)] [] M1 M2 ov (f_law_4 (lL X) (lxs X) kn x4 M1 M2 ov) := by
  rw [f_law_4]
  refine L_aload_n 1 dL_law_344 rfl rfl ?_
  refine L_aload_n 0 dL_law_345 rfl rfl ?_
  refine L_iload 4 dL_law_346 rfl ?_
  refine L_iconst (v := 1) dL_law_348 (by decide) ?_
  refine L_iadd dL_law_349 ?_
  refine L_sld dL_law_350 ?_
  refine L_c1b (As := [.int (lxs X (tn (x4 + (1 : Int32))))]) (rest := []) (ok_X9_pole (lxs X (tn (x4 + (1 : Int32)))) M1) rfl y1_0 rfl mv_L_40 dL_law_351 rfl rfl (Nat.le_of_ble_eq_true rfl) (by decide) (fun r17 N18 => ?_)
  refine L_aload_n 2 dL_law_354 rfl rfl ?_
  refine L_aload_n 0 dL_law_355 rfl rfl ?_
  refine L_iload 4 dL_law_356 rfl ?_
  refine L_iconst (v := 1) dL_law_358 (by decide) ?_
  refine L_iadd dL_law_359 ?_
  refine L_sld dL_law_360 ?_
  refine L_c2b (As := [.int (lxs X (tn (x4 + (1 : Int32))))]) (rest := [.int (b2i r17)]) (ok_X10_pole (lxs X (tn (x4 + (1 : Int32)))) M2) rfl y2_0 rfl mv_L_44 dL_law_361 rfl rfl (Nat.le_of_ble_eq_true rfl) (by decide) (fun r19 N20 => ?_)
  refine L_icmp_eq (tgt := 1535) dL_law_364 (by decide) ?_ ?_
  · refine L_iinc (v := x4 + 6) (lv' := [(4, .int (x4 + 6)), (0, .ref (lb X)), (1, .ref (lad X 0)), (2, .ref (lad2 X 0)), (3, .ref (lo X))]) 4 dL_law_1535 rfl rfl (by decide) rfl ?_
    refine L_goto (tgt := 23) dL_law_1538 (by decide) ?_
    exact L_up hk (L_sub [1, 2, 3, 4, 0] rfl (ih (x4 + 6) N18 N20 ov))
  · refine L_iconst (v := 0) dL_law_367 (by decide) ?_
    exact L_ret0
def f_law_5 (L : Nat) (xs : Nat → Int32) (kn : Int32 → gM → gM → Int64 → Option Bool) (x4 : Int32) (M1 M2 : gM) (ov : Int64) : Option Bool := (g_ck (x4 + (1 : Int32)) L (g_ck (x4 + (2 : Int32)) L (g_ck (x4 + (3 : Int32)) L (g_b (f_X9_state (xs (tn (x4 + (1 : Int32)))) (xs (tn (x4 + (2 : Int32)))) (xs (tn (x4 + (3 : Int32)))) M1) (fun r21 N22 => (g_ck (x4 + (1 : Int32)) L (g_ck (x4 + (2 : Int32)) L (g_ck (x4 + (3 : Int32)) L (g_b (f_X10_state (xs (tn (x4 + (1 : Int32)))) (xs (tn (x4 + (2 : Int32)))) (xs (tn (x4 + (3 : Int32)))) M2) (fun r23 N24 => (if r21 = r23 then (kn (x4 + 6) N22 N24 ov) else (some false))))))))))))
set_option maxRecDepth 100000 in
set_option maxHeartbeats 4000000 in
theorem o_law_5 {X : gXL} {k : Nat} {kn : Int32 → gM → gM → Int64 → Option Bool} (hk : k ≤ 512) (ih : ∀ (x4 : Int32) (M1 M2 : gM) (ov : Int64), GL X (k + 1) 23 [(0, .ref (lb X)), (1, .ref (lad X 0)), (2, .ref (lad2 X 0)), (3, .ref (lo X)), (4, .int x4)] [] M1 M2 ov (kn x4 M1 M2 ov)) (x4 : Int32) (M1 M2 : gM) (ov : Int64) : GL X k 369 [(0, .ref (lb X)), (1, .ref (lad X 0)), (2, .ref (lad2 X 0)), (3, .ref (lo X)), (4, .int x4)] [] M1 M2 ov (f_law_5 (lL X) (lxs X) kn x4 M1 M2 ov) := by
  rw [f_law_5]
  refine L_aload_n 1 dL_law_369 rfl rfl ?_
  refine L_aload_n 0 dL_law_370 rfl rfl ?_
  refine L_iload 4 dL_law_371 rfl ?_
  refine L_iconst (v := 1) dL_law_373 (by decide) ?_
  refine L_iadd dL_law_374 ?_
  refine L_sld dL_law_375 ?_
  refine L_aload_n 0 dL_law_376 rfl rfl ?_
  refine L_iload 4 dL_law_377 rfl ?_
  refine L_iconst (v := 2) dL_law_379 (by decide) ?_
  refine L_iadd dL_law_380 ?_
  refine L_sld dL_law_381 ?_
  refine L_aload_n 0 dL_law_382 rfl rfl ?_
  refine L_iload 4 dL_law_383 rfl ?_
  refine L_iconst (v := 3) dL_law_385 (by decide) ?_
  refine L_iadd dL_law_386 ?_
  refine L_sld dL_law_387 ?_
  refine L_c1i (As := [.int (lxs X (tn (x4 + (1 : Int32)))), .int (lxs X (tn (x4 + (2 : Int32)))), .int (lxs X (tn (x4 + (3 : Int32))))]) (rest := []) (ok_X9_state (lxs X (tn (x4 + (1 : Int32)))) (lxs X (tn (x4 + (2 : Int32)))) (lxs X (tn (x4 + (3 : Int32)))) M1) rfl y1_0 rfl mv_L_45 dL_law_388 rfl rfl (Nat.le_of_ble_eq_true rfl) (by decide) (fun r21 N22 => ?_)
  refine L_aload_n 2 dL_law_391 rfl rfl ?_
  refine L_aload_n 0 dL_law_392 rfl rfl ?_
  refine L_iload 4 dL_law_393 rfl ?_
  refine L_iconst (v := 1) dL_law_395 (by decide) ?_
  refine L_iadd dL_law_396 ?_
  refine L_sld dL_law_397 ?_
  refine L_aload_n 0 dL_law_398 rfl rfl ?_
  refine L_iload 4 dL_law_399 rfl ?_
  refine L_iconst (v := 2) dL_law_401 (by decide) ?_
  refine L_iadd dL_law_402 ?_
  refine L_sld dL_law_403 ?_
  refine L_aload_n 0 dL_law_404 rfl rfl ?_
  refine L_iload 4 dL_law_405 rfl ?_
  refine L_iconst (v := 3) dL_law_407 (by decide) ?_
  refine L_iadd dL_law_408 ?_
  refine L_sld dL_law_409 ?_
  refine L_c2i (As := [.int (lxs X (tn (x4 + (1 : Int32)))), .int (lxs X (tn (x4 + (2 : Int32)))), .int (lxs X (tn (x4 + (3 : Int32))))]) (rest := [.int r21]) (ok_X10_state (lxs X (tn (x4 + (1 : Int32)))) (lxs X (tn (x4 + (2 : Int32)))) (lxs X (tn (x4 + (3 : Int32)))) M2) rfl y2_0 rfl mv_L_49 dL_law_410 rfl rfl (Nat.le_of_ble_eq_true rfl) (by decide) (fun r23 N24 => ?_)
  refine L_icmp_eq (tgt := 1535) dL_law_413 (by decide) ?_ ?_
  · refine L_iinc (v := x4 + 6) (lv' := [(4, .int (x4 + 6)), (0, .ref (lb X)), (1, .ref (lad X 0)), (2, .ref (lad2 X 0)), (3, .ref (lo X))]) 4 dL_law_1535 rfl rfl (by decide) rfl ?_
    refine L_goto (tgt := 23) dL_law_1538 (by decide) ?_
    exact L_up hk (L_sub [1, 2, 3, 4, 0] rfl (ih (x4 + 6) N22 N24 ov))
  · refine L_iconst (v := 0) dL_law_416 (by decide) ?_
    exact L_ret0
def f_law_6 (L : Nat) (xs : Nat → Int32) (kn : Int32 → gM → gM → Int64 → Option Bool) (x4 : Int32) (M1 M2 : gM) (ov : Int64) : Option Bool := (g_ck (x4 + (1 : Int32)) L (g_ck (x4 + (2 : Int32)) L (g_b (f_X9_can (xs (tn (x4 + (1 : Int32)))) (xs (tn (x4 + (2 : Int32)))) M1) (fun r25 N26 => (g_ck (x4 + (1 : Int32)) L (g_ck (x4 + (2 : Int32)) L (g_b (f_X10_can (xs (tn (x4 + (1 : Int32)))) (xs (tn (x4 + (2 : Int32)))) M2) (fun r27 N28 => (if r25 = r27 then (kn (x4 + 6) N26 N28 ov) else (some false))))))))))
set_option maxRecDepth 100000 in
set_option maxHeartbeats 4000000 in
theorem o_law_6 {X : gXL} {k : Nat} {kn : Int32 → gM → gM → Int64 → Option Bool} (hk : k ≤ 512) (ih : ∀ (x4 : Int32) (M1 M2 : gM) (ov : Int64), GL X (k + 1) 23 [(0, .ref (lb X)), (1, .ref (lad X 0)), (2, .ref (lad2 X 0)), (3, .ref (lo X)), (4, .int x4)] [] M1 M2 ov (kn x4 M1 M2 ov)) (x4 : Int32) (M1 M2 : gM) (ov : Int64) : GL X k 418 [(0, .ref (lb X)), (1, .ref (lad X 0)), (2, .ref (lad2 X 0)), (3, .ref (lo X)), (4, .int x4)] [] M1 M2 ov (f_law_6 (lL X) (lxs X) kn x4 M1 M2 ov) := by
  rw [f_law_6]
  refine L_aload_n 1 dL_law_418 rfl rfl ?_
  refine L_aload_n 0 dL_law_419 rfl rfl ?_
  refine L_iload 4 dL_law_420 rfl ?_
  refine L_iconst (v := 1) dL_law_422 (by decide) ?_
  refine L_iadd dL_law_423 ?_
  refine L_sld dL_law_424 ?_
  refine L_aload_n 0 dL_law_425 rfl rfl ?_
  refine L_iload 4 dL_law_426 rfl ?_
  refine L_iconst (v := 2) dL_law_428 (by decide) ?_
  refine L_iadd dL_law_429 ?_
  refine L_sld dL_law_430 ?_
  refine L_c1i (As := [.int (lxs X (tn (x4 + (1 : Int32)))), .int (lxs X (tn (x4 + (2 : Int32))))]) (rest := []) (ok_X9_can (lxs X (tn (x4 + (1 : Int32)))) (lxs X (tn (x4 + (2 : Int32)))) M1) rfl y1_0 rfl mv_L_50 dL_law_431 rfl rfl (Nat.le_of_ble_eq_true rfl) (by decide) (fun r25 N26 => ?_)
  refine L_aload_n 2 dL_law_434 rfl rfl ?_
  refine L_aload_n 0 dL_law_435 rfl rfl ?_
  refine L_iload 4 dL_law_436 rfl ?_
  refine L_iconst (v := 1) dL_law_438 (by decide) ?_
  refine L_iadd dL_law_439 ?_
  refine L_sld dL_law_440 ?_
  refine L_aload_n 0 dL_law_441 rfl rfl ?_
  refine L_iload 4 dL_law_442 rfl ?_
  refine L_iconst (v := 2) dL_law_444 (by decide) ?_
  refine L_iadd dL_law_445 ?_
  refine L_sld dL_law_446 ?_
  refine L_c2i (As := [.int (lxs X (tn (x4 + (1 : Int32)))), .int (lxs X (tn (x4 + (2 : Int32))))]) (rest := [.int r25]) (ok_X10_can (lxs X (tn (x4 + (1 : Int32)))) (lxs X (tn (x4 + (2 : Int32)))) M2) rfl y2_0 rfl mv_L_53 dL_law_447 rfl rfl (Nat.le_of_ble_eq_true rfl) (by decide) (fun r27 N28 => ?_)
  refine L_icmp_eq (tgt := 1535) dL_law_450 (by decide) ?_ ?_
  · refine L_iinc (v := x4 + 6) (lv' := [(4, .int (x4 + 6)), (0, .ref (lb X)), (1, .ref (lad X 0)), (2, .ref (lad2 X 0)), (3, .ref (lo X))]) 4 dL_law_1535 rfl rfl (by decide) rfl ?_
    refine L_goto (tgt := 23) dL_law_1538 (by decide) ?_
    exact L_up hk (L_sub [1, 2, 3, 4, 0] rfl (ih (x4 + 6) N26 N28 ov))
  · refine L_iconst (v := 0) dL_law_453 (by decide) ?_
    exact L_ret0
def f_law_7 (L : Nat) (xs : Nat → Int32) (kn : Int32 → gM → gM → Int64 → Option Bool) (x4 : Int32) (M1 M2 : gM) (ov : Int64) : Option Bool := (g_ck (x4 + (1 : Int32)) L (g_ck (x4 + (2 : Int32)) L (if (xs (tn (x4 + (2 : Int32)))) = 0 then (g_b (f_X9_gust (xs (tn (x4 + (1 : Int32)))) false M1) (fun r29 N30 => (g_ck (x4 + (1 : Int32)) L (g_ck (x4 + (2 : Int32)) L (if (xs (tn (x4 + (2 : Int32)))) = 0 then (g_b (f_X10_gust (xs (tn (x4 + (1 : Int32)))) false M2) (fun r31 N32 => (if r29 = r31 then (kn (x4 + 6) N30 N32 ov) else (some false)))) else (g_b (f_X10_gust (xs (tn (x4 + (1 : Int32)))) true M2) (fun r33 N34 => (if r29 = r33 then (kn (x4 + 6) N30 N34 ov) else (some false))))))))) else (g_b (f_X9_gust (xs (tn (x4 + (1 : Int32)))) true M1) (fun r35 N36 => (g_ck (x4 + (1 : Int32)) L (g_ck (x4 + (2 : Int32)) L (if (xs (tn (x4 + (2 : Int32)))) = 0 then (g_b (f_X10_gust (xs (tn (x4 + (1 : Int32)))) false M2) (fun r37 N38 => (if r35 = r37 then (kn (x4 + 6) N36 N38 ov) else (some false)))) else (g_b (f_X10_gust (xs (tn (x4 + (1 : Int32)))) true M2) (fun r39 N40 => (if r35 = r39 then (kn (x4 + 6) N36 N40 ov) else (some false))))))))))))
set_option maxRecDepth 100000 in
set_option maxHeartbeats 4000000 in
theorem o_law_7 {X : gXL} {k : Nat} {kn : Int32 → gM → gM → Int64 → Option Bool} (hk : k ≤ 512) (ih : ∀ (x4 : Int32) (M1 M2 : gM) (ov : Int64), GL X (k + 1) 23 [(0, .ref (lb X)), (1, .ref (lad X 0)), (2, .ref (lad2 X 0)), (3, .ref (lo X)), (4, .int x4)] [] M1 M2 ov (kn x4 M1 M2 ov)) (x4 : Int32) (M1 M2 : gM) (ov : Int64) : GL X k 455 [(0, .ref (lb X)), (1, .ref (lad X 0)), (2, .ref (lad2 X 0)), (3, .ref (lo X)), (4, .int x4)] [] M1 M2 ov (f_law_7 (lL X) (lxs X) kn x4 M1 M2 ov) := by
  rw [f_law_7]
  refine L_aload_n 1 dL_law_455 rfl rfl ?_
  refine L_aload_n 0 dL_law_456 rfl rfl ?_
  refine L_iload 4 dL_law_457 rfl ?_
  refine L_iconst (v := 1) dL_law_459 (by decide) ?_
  refine L_iadd dL_law_460 ?_
  refine L_sld dL_law_461 ?_
  refine L_aload_n 0 dL_law_462 rfl rfl ?_
  refine L_iload 4 dL_law_463 rfl ?_
  refine L_iconst (v := 2) dL_law_465 (by decide) ?_
  refine L_iadd dL_law_466 ?_
  refine L_sld dL_law_467 ?_
  refine L_if_eq (tgt := 475) dL_law_468 (by decide) ?_ ?_
  · refine L_iconst (v := 0) dL_law_475 (by decide) ?_
    refine L_c1i (As := [.int (lxs X (tn (x4 + (1 : Int32)))), .int 0]) (rest := []) (ok_X9_gust (lxs X (tn (x4 + (1 : Int32)))) false M1) rfl y1_0 rfl mv_L_54 dL_law_476 rfl rfl (Nat.le_of_ble_eq_true rfl) (by decide) (fun r29 N30 => ?_)
    refine L_aload_n 2 dL_law_479 rfl rfl ?_
    refine L_aload_n 0 dL_law_480 rfl rfl ?_
    refine L_iload 4 dL_law_481 rfl ?_
    refine L_iconst (v := 1) dL_law_483 (by decide) ?_
    refine L_iadd dL_law_484 ?_
    refine L_sld dL_law_485 ?_
    refine L_aload_n 0 dL_law_486 rfl rfl ?_
    refine L_iload 4 dL_law_487 rfl ?_
    refine L_iconst (v := 2) dL_law_489 (by decide) ?_
    refine L_iadd dL_law_490 ?_
    refine L_sld dL_law_491 ?_
    refine L_if_eq (tgt := 499) dL_law_492 (by decide) ?_ ?_
    · refine L_iconst (v := 0) dL_law_499 (by decide) ?_
      refine L_c2i (As := [.int (lxs X (tn (x4 + (1 : Int32)))), .int 0]) (rest := [.int r29]) (ok_X10_gust (lxs X (tn (x4 + (1 : Int32)))) false M2) rfl y2_0 rfl mv_L_58 dL_law_500 rfl rfl (Nat.le_of_ble_eq_true rfl) (by decide) (fun r31 N32 => ?_)
      refine L_icmp_eq (tgt := 1535) dL_law_503 (by decide) ?_ ?_
      · refine L_iinc (v := x4 + 6) (lv' := [(4, .int (x4 + 6)), (0, .ref (lb X)), (1, .ref (lad X 0)), (2, .ref (lad2 X 0)), (3, .ref (lo X))]) 4 dL_law_1535 rfl rfl (by decide) rfl ?_
        refine L_goto (tgt := 23) dL_law_1538 (by decide) ?_
        exact L_up hk (L_sub [1, 2, 3, 4, 0] rfl (ih (x4 + 6) N30 N32 ov))
      · refine L_iconst (v := 0) dL_law_506 (by decide) ?_
        exact L_ret0
    · refine L_iconst (v := 1) dL_law_495 (by decide) ?_
      refine L_goto (tgt := 500) dL_law_496 (by decide) ?_
      refine L_c2i (As := [.int (lxs X (tn (x4 + (1 : Int32)))), .int 1]) (rest := [.int r29]) (ok_X10_gust (lxs X (tn (x4 + (1 : Int32)))) true M2) rfl y2_0 rfl mv_L_58 dL_law_500 rfl rfl (Nat.le_of_ble_eq_true rfl) (by decide) (fun r33 N34 => ?_)
      refine L_icmp_eq (tgt := 1535) dL_law_503 (by decide) ?_ ?_
      · refine L_iinc (v := x4 + 6) (lv' := [(4, .int (x4 + 6)), (0, .ref (lb X)), (1, .ref (lad X 0)), (2, .ref (lad2 X 0)), (3, .ref (lo X))]) 4 dL_law_1535 rfl rfl (by decide) rfl ?_
        refine L_goto (tgt := 23) dL_law_1538 (by decide) ?_
        exact L_up hk (L_sub [1, 2, 3, 4, 0] rfl (ih (x4 + 6) N30 N34 ov))
      · refine L_iconst (v := 0) dL_law_506 (by decide) ?_
        exact L_ret0
  · refine L_iconst (v := 1) dL_law_471 (by decide) ?_
    refine L_goto (tgt := 476) dL_law_472 (by decide) ?_
    refine L_c1i (As := [.int (lxs X (tn (x4 + (1 : Int32)))), .int 1]) (rest := []) (ok_X9_gust (lxs X (tn (x4 + (1 : Int32)))) true M1) rfl y1_0 rfl mv_L_54 dL_law_476 rfl rfl (Nat.le_of_ble_eq_true rfl) (by decide) (fun r35 N36 => ?_)
    refine L_aload_n 2 dL_law_479 rfl rfl ?_
    refine L_aload_n 0 dL_law_480 rfl rfl ?_
    refine L_iload 4 dL_law_481 rfl ?_
    refine L_iconst (v := 1) dL_law_483 (by decide) ?_
    refine L_iadd dL_law_484 ?_
    refine L_sld dL_law_485 ?_
    refine L_aload_n 0 dL_law_486 rfl rfl ?_
    refine L_iload 4 dL_law_487 rfl ?_
    refine L_iconst (v := 2) dL_law_489 (by decide) ?_
    refine L_iadd dL_law_490 ?_
    refine L_sld dL_law_491 ?_
    refine L_if_eq (tgt := 499) dL_law_492 (by decide) ?_ ?_
    · refine L_iconst (v := 0) dL_law_499 (by decide) ?_
      refine L_c2i (As := [.int (lxs X (tn (x4 + (1 : Int32)))), .int 0]) (rest := [.int r35]) (ok_X10_gust (lxs X (tn (x4 + (1 : Int32)))) false M2) rfl y2_0 rfl mv_L_58 dL_law_500 rfl rfl (Nat.le_of_ble_eq_true rfl) (by decide) (fun r37 N38 => ?_)
      refine L_icmp_eq (tgt := 1535) dL_law_503 (by decide) ?_ ?_
      · refine L_iinc (v := x4 + 6) (lv' := [(4, .int (x4 + 6)), (0, .ref (lb X)), (1, .ref (lad X 0)), (2, .ref (lad2 X 0)), (3, .ref (lo X))]) 4 dL_law_1535 rfl rfl (by decide) rfl ?_
        refine L_goto (tgt := 23) dL_law_1538 (by decide) ?_
        exact L_up hk (L_sub [1, 2, 3, 4, 0] rfl (ih (x4 + 6) N36 N38 ov))
      · refine L_iconst (v := 0) dL_law_506 (by decide) ?_
        exact L_ret0
    · refine L_iconst (v := 1) dL_law_495 (by decide) ?_
      refine L_goto (tgt := 500) dL_law_496 (by decide) ?_
      refine L_c2i (As := [.int (lxs X (tn (x4 + (1 : Int32)))), .int 1]) (rest := [.int r35]) (ok_X10_gust (lxs X (tn (x4 + (1 : Int32)))) true M2) rfl y2_0 rfl mv_L_58 dL_law_500 rfl rfl (Nat.le_of_ble_eq_true rfl) (by decide) (fun r39 N40 => ?_)
      refine L_icmp_eq (tgt := 1535) dL_law_503 (by decide) ?_ ?_
      · refine L_iinc (v := x4 + 6) (lv' := [(4, .int (x4 + 6)), (0, .ref (lb X)), (1, .ref (lad X 0)), (2, .ref (lad2 X 0)), (3, .ref (lo X))]) 4 dL_law_1535 rfl rfl (by decide) rfl ?_
        refine L_goto (tgt := 23) dL_law_1538 (by decide) ?_
        exact L_up hk (L_sub [1, 2, 3, 4, 0] rfl (ih (x4 + 6) N36 N40 ov))
      · refine L_iconst (v := 0) dL_law_506 (by decide) ?_
        exact L_ret0
def f_law_8 (L : Nat) (xs : Nat → Int32) (kn : Int32 → gM → gM → Int64 → Option Bool) (x4 : Int32) (M1 M2 : gM) (ov : Int64) : Option Bool := (g_ck (x4 + (1 : Int32)) L (g_ck (x4 + (2 : Int32)) L (g_ck (x4 + (3 : Int32)) L (g_b (f_X9_next (xs (tn (x4 + (1 : Int32)))) (xs (tn (x4 + (2 : Int32)))) (xs (tn (x4 + (3 : Int32)))) M1) (fun r41 N42 => (g_ck (x4 + (1 : Int32)) L (g_ck (x4 + (2 : Int32)) L (g_ck (x4 + (3 : Int32)) L (g_b (f_X10_next (xs (tn (x4 + (1 : Int32)))) (xs (tn (x4 + (2 : Int32)))) (xs (tn (x4 + (3 : Int32)))) M2) (fun r43 N44 => (if r41 = r43 then (kn (x4 + 6) N42 N44 ov) else (some false))))))))))))
set_option maxRecDepth 100000 in
set_option maxHeartbeats 4000000 in
theorem o_law_8 {X : gXL} {k : Nat} {kn : Int32 → gM → gM → Int64 → Option Bool} (hk : k ≤ 512) (ih : ∀ (x4 : Int32) (M1 M2 : gM) (ov : Int64), GL X (k + 1) 23 [(0, .ref (lb X)), (1, .ref (lad X 0)), (2, .ref (lad2 X 0)), (3, .ref (lo X)), (4, .int x4)] [] M1 M2 ov (kn x4 M1 M2 ov)) (x4 : Int32) (M1 M2 : gM) (ov : Int64) : GL X k 508 [(0, .ref (lb X)), (1, .ref (lad X 0)), (2, .ref (lad2 X 0)), (3, .ref (lo X)), (4, .int x4)] [] M1 M2 ov (f_law_8 (lL X) (lxs X) kn x4 M1 M2 ov) := by
  rw [f_law_8]
  refine L_aload_n 1 dL_law_508 rfl rfl ?_
  refine L_aload_n 0 dL_law_509 rfl rfl ?_
  refine L_iload 4 dL_law_510 rfl ?_
  refine L_iconst (v := 1) dL_law_512 (by decide) ?_
  refine L_iadd dL_law_513 ?_
  refine L_sld dL_law_514 ?_
  refine L_aload_n 0 dL_law_515 rfl rfl ?_
  refine L_iload 4 dL_law_516 rfl ?_
  refine L_iconst (v := 2) dL_law_518 (by decide) ?_
  refine L_iadd dL_law_519 ?_
  refine L_sld dL_law_520 ?_
  refine L_aload_n 0 dL_law_521 rfl rfl ?_
  refine L_iload 4 dL_law_522 rfl ?_
  refine L_iconst (v := 3) dL_law_524 (by decide) ?_
  refine L_iadd dL_law_525 ?_
  refine L_sld dL_law_526 ?_
  refine L_c1i (As := [.int (lxs X (tn (x4 + (1 : Int32)))), .int (lxs X (tn (x4 + (2 : Int32)))), .int (lxs X (tn (x4 + (3 : Int32))))]) (rest := []) (ok_X9_next (lxs X (tn (x4 + (1 : Int32)))) (lxs X (tn (x4 + (2 : Int32)))) (lxs X (tn (x4 + (3 : Int32)))) M1) rfl y1_0 rfl mv_L_59 dL_law_527 rfl rfl (Nat.le_of_ble_eq_true rfl) (by decide) (fun r41 N42 => ?_)
  refine L_aload_n 2 dL_law_530 rfl rfl ?_
  refine L_aload_n 0 dL_law_531 rfl rfl ?_
  refine L_iload 4 dL_law_532 rfl ?_
  refine L_iconst (v := 1) dL_law_534 (by decide) ?_
  refine L_iadd dL_law_535 ?_
  refine L_sld dL_law_536 ?_
  refine L_aload_n 0 dL_law_537 rfl rfl ?_
  refine L_iload 4 dL_law_538 rfl ?_
  refine L_iconst (v := 2) dL_law_540 (by decide) ?_
  refine L_iadd dL_law_541 ?_
  refine L_sld dL_law_542 ?_
  refine L_aload_n 0 dL_law_543 rfl rfl ?_
  refine L_iload 4 dL_law_544 rfl ?_
  refine L_iconst (v := 3) dL_law_546 (by decide) ?_
  refine L_iadd dL_law_547 ?_
  refine L_sld dL_law_548 ?_
  refine L_c2i (As := [.int (lxs X (tn (x4 + (1 : Int32)))), .int (lxs X (tn (x4 + (2 : Int32)))), .int (lxs X (tn (x4 + (3 : Int32))))]) (rest := [.int r41]) (ok_X10_next (lxs X (tn (x4 + (1 : Int32)))) (lxs X (tn (x4 + (2 : Int32)))) (lxs X (tn (x4 + (3 : Int32)))) M2) rfl y2_0 rfl mv_L_62 dL_law_549 rfl rfl (Nat.le_of_ble_eq_true rfl) (by decide) (fun r43 N44 => ?_)
  refine L_icmp_eq (tgt := 1535) dL_law_552 (by decide) ?_ ?_
  · refine L_iinc (v := x4 + 6) (lv' := [(4, .int (x4 + 6)), (0, .ref (lb X)), (1, .ref (lad X 0)), (2, .ref (lad2 X 0)), (3, .ref (lo X))]) 4 dL_law_1535 rfl rfl (by decide) rfl ?_
    refine L_goto (tgt := 23) dL_law_1538 (by decide) ?_
    exact L_up hk (L_sub [1, 2, 3, 4, 0] rfl (ih (x4 + 6) N42 N44 ov))
  · refine L_iconst (v := 0) dL_law_555 (by decide) ?_
    exact L_ret0
def f_law_9 (L : Nat) (xs : Nat → Int32) (kn : Int32 → gM → gM → Int64 → Option Bool) (x4 : Int32) (M1 M2 : gM) (ov : Int64) : Option Bool := (g_ck (x4 + (1 : Int32)) L (g_b (f_X9_fate (xs (tn (x4 + (1 : Int32)))) M1) (fun r45 N46 => (g_ck (x4 + (1 : Int32)) L (g_b (f_X10_fate (xs (tn (x4 + (1 : Int32)))) M2) (fun r47 N48 => (if r45 = r47 then (kn (x4 + 6) N46 N48 ov) else (some false))))))))
set_option maxRecDepth 100000 in
set_option maxHeartbeats 4000000 in
theorem o_law_9 {X : gXL} {k : Nat} {kn : Int32 → gM → gM → Int64 → Option Bool} (hk : k ≤ 512) (ih : ∀ (x4 : Int32) (M1 M2 : gM) (ov : Int64), GL X (k + 1) 23 [(0, .ref (lb X)), (1, .ref (lad X 0)), (2, .ref (lad2 X 0)), (3, .ref (lo X)), (4, .int x4)] [] M1 M2 ov (kn x4 M1 M2 ov)) (x4 : Int32) (M1 M2 : gM) (ov : Int64) : GL X k 557 [(0, .ref (lb X)), (1, .ref (lad X 0)), (2, .ref (lad2 X 0)), (3, .ref (lo X)), (4, .int x4)] [] M1 M2 ov (f_law_9 (lL X) (lxs X) kn x4 M1 M2 ov) := by
  rw [f_law_9]
  refine L_aload_n 1 dL_law_557 rfl rfl ?_
  refine L_aload_n 0 dL_law_558 rfl rfl ?_
  refine L_iload 4 dL_law_559 rfl ?_
  refine L_iconst (v := 1) dL_law_561 (by decide) ?_
  refine L_iadd dL_law_562 ?_
  refine L_sld dL_law_563 ?_
  refine L_c1i (As := [.int (lxs X (tn (x4 + (1 : Int32))))]) (rest := []) (ok_X9_fate (lxs X (tn (x4 + (1 : Int32)))) M1) rfl y1_0 rfl mv_L_63 dL_law_564 rfl rfl (Nat.le_of_ble_eq_true rfl) (by decide) (fun r45 N46 => ?_)
  refine L_aload_n 2 dL_law_567 rfl rfl ?_
  refine L_aload_n 0 dL_law_568 rfl rfl ?_
  refine L_iload 4 dL_law_569 rfl ?_
  refine L_iconst (v := 1) dL_law_571 (by decide) ?_
  refine L_iadd dL_law_572 ?_
  refine L_sld dL_law_573 ?_
  refine L_c2i (As := [.int (lxs X (tn (x4 + (1 : Int32))))]) (rest := [.int r45]) (ok_X10_fate (lxs X (tn (x4 + (1 : Int32)))) M2) rfl y2_0 rfl mv_L_66 dL_law_574 rfl rfl (Nat.le_of_ble_eq_true rfl) (by decide) (fun r47 N48 => ?_)
  refine L_icmp_eq (tgt := 1535) dL_law_577 (by decide) ?_ ?_
  · refine L_iinc (v := x4 + 6) (lv' := [(4, .int (x4 + 6)), (0, .ref (lb X)), (1, .ref (lad X 0)), (2, .ref (lad2 X 0)), (3, .ref (lo X))]) 4 dL_law_1535 rfl rfl (by decide) rfl ?_
    refine L_goto (tgt := 23) dL_law_1538 (by decide) ?_
    exact L_up hk (L_sub [1, 2, 3, 4, 0] rfl (ih (x4 + 6) N46 N48 ov))
  · refine L_iconst (v := 0) dL_law_580 (by decide) ?_
    exact L_ret0
def f_law_10 (L : Nat) (xs : Nat → Int32) (kn : Int32 → gM → gM → Int64 → Option Bool) (x4 : Int32) (M1 M2 : gM) (ov : Int64) : Option Bool := (g_ck (x4 + (1 : Int32)) L (g_b (f_X9_keep (xs (tn (x4 + (1 : Int32)))) M1) (fun r49 N50 => (g_ck (x4 + (1 : Int32)) L (g_b (f_X10_keep (xs (tn (x4 + (1 : Int32)))) M2) (fun r51 N52 => (if r49 = r51 then (kn (x4 + 6) N50 N52 ov) else (some false))))))))
set_option maxRecDepth 100000 in
set_option maxHeartbeats 4000000 in
theorem o_law_10 {X : gXL} {k : Nat} {kn : Int32 → gM → gM → Int64 → Option Bool} (hk : k ≤ 512) (ih : ∀ (x4 : Int32) (M1 M2 : gM) (ov : Int64), GL X (k + 1) 23 [(0, .ref (lb X)), (1, .ref (lad X 0)), (2, .ref (lad2 X 0)), (3, .ref (lo X)), (4, .int x4)] [] M1 M2 ov (kn x4 M1 M2 ov)) (x4 : Int32) (M1 M2 : gM) (ov : Int64) : GL X k 582 [(0, .ref (lb X)), (1, .ref (lad X 0)), (2, .ref (lad2 X 0)), (3, .ref (lo X)), (4, .int x4)] [] M1 M2 ov (f_law_10 (lL X) (lxs X) kn x4 M1 M2 ov) := by
  rw [f_law_10]
  refine L_aload_n 1 dL_law_582 rfl rfl ?_
  refine L_aload_n 0 dL_law_583 rfl rfl ?_
  refine L_iload 4 dL_law_584 rfl ?_
  refine L_iconst (v := 1) dL_law_586 (by decide) ?_
  refine L_iadd dL_law_587 ?_
  refine L_sld dL_law_588 ?_
  refine L_c1i (As := [.int (lxs X (tn (x4 + (1 : Int32))))]) (rest := []) (ok_X9_keep (lxs X (tn (x4 + (1 : Int32)))) M1) rfl y1_0 rfl mv_L_67 dL_law_589 rfl rfl (Nat.le_of_ble_eq_true rfl) (by decide) (fun r49 N50 => ?_)
  refine L_aload_n 2 dL_law_592 rfl rfl ?_
  refine L_aload_n 0 dL_law_593 rfl rfl ?_
  refine L_iload 4 dL_law_594 rfl ?_
  refine L_iconst (v := 1) dL_law_596 (by decide) ?_
  refine L_iadd dL_law_597 ?_
  refine L_sld dL_law_598 ?_
  refine L_c2i (As := [.int (lxs X (tn (x4 + (1 : Int32))))]) (rest := [.int r49]) (ok_X10_keep (lxs X (tn (x4 + (1 : Int32)))) M2) rfl y2_0 rfl mv_L_70 dL_law_599 rfl rfl (Nat.le_of_ble_eq_true rfl) (by decide) (fun r51 N52 => ?_)
  refine L_icmp_eq (tgt := 1535) dL_law_602 (by decide) ?_ ?_
  · refine L_iinc (v := x4 + 6) (lv' := [(4, .int (x4 + 6)), (0, .ref (lb X)), (1, .ref (lad X 0)), (2, .ref (lad2 X 0)), (3, .ref (lo X))]) 4 dL_law_1535 rfl rfl (by decide) rfl ?_
    refine L_goto (tgt := 23) dL_law_1538 (by decide) ?_
    exact L_up hk (L_sub [1, 2, 3, 4, 0] rfl (ih (x4 + 6) N50 N52 ov))
  · refine L_iconst (v := 0) dL_law_605 (by decide) ?_
    exact L_ret0
def f_law_11 (L : Nat) (xs : Nat → Int32) (kn : Int32 → gM → gM → Int64 → Option Bool) (x4 : Int32) (M1 M2 : gM) (ov : Int64) : Option Bool := (g_ck (x4 + (1 : Int32)) L (g_b (f_X9_reach (xs (tn (x4 + (1 : Int32)))) M1) (fun r53 N54 => (g_ck (x4 + (1 : Int32)) L (g_b (f_X10_reach (xs (tn (x4 + (1 : Int32)))) M2) (fun r55 N56 => (if r53 = r55 then (kn (x4 + 6) N54 N56 ov) else (some false))))))))
set_option maxRecDepth 100000 in
set_option maxHeartbeats 4000000 in
theorem o_law_11 {X : gXL} {k : Nat} {kn : Int32 → gM → gM → Int64 → Option Bool} (hk : k ≤ 512) (ih : ∀ (x4 : Int32) (M1 M2 : gM) (ov : Int64), GL X (k + 1) 23 [(0, .ref (lb X)), (1, .ref (lad X 0)), (2, .ref (lad2 X 0)), (3, .ref (lo X)), (4, .int x4)] [] M1 M2 ov (kn x4 M1 M2 ov)) (x4 : Int32) (M1 M2 : gM) (ov : Int64) : GL X k 607 [(0, .ref (lb X)), (1, .ref (lad X 0)), (2, .ref (lad2 X 0)), (3, .ref (lo X)), (4, .int x4)] [] M1 M2 ov (f_law_11 (lL X) (lxs X) kn x4 M1 M2 ov) := by
  rw [f_law_11]
  refine L_aload_n 1 dL_law_607 rfl rfl ?_
  refine L_aload_n 0 dL_law_608 rfl rfl ?_
  refine L_iload 4 dL_law_609 rfl ?_
  refine L_iconst (v := 1) dL_law_611 (by decide) ?_
  refine L_iadd dL_law_612 ?_
  refine L_sld dL_law_613 ?_
  refine L_c1i (As := [.int (lxs X (tn (x4 + (1 : Int32))))]) (rest := []) (ok_X9_reach (lxs X (tn (x4 + (1 : Int32)))) M1) rfl y1_0 rfl mv_L_71 dL_law_614 rfl rfl (Nat.le_of_ble_eq_true rfl) (by decide) (fun r53 N54 => ?_)
  refine L_aload_n 2 dL_law_617 rfl rfl ?_
  refine L_aload_n 0 dL_law_618 rfl rfl ?_
  refine L_iload 4 dL_law_619 rfl ?_
  refine L_iconst (v := 1) dL_law_621 (by decide) ?_
  refine L_iadd dL_law_622 ?_
  refine L_sld dL_law_623 ?_
  refine L_c2i (As := [.int (lxs X (tn (x4 + (1 : Int32))))]) (rest := [.int r53]) (ok_X10_reach (lxs X (tn (x4 + (1 : Int32)))) M2) rfl y2_0 rfl mv_L_74 dL_law_624 rfl rfl (Nat.le_of_ble_eq_true rfl) (by decide) (fun r55 N56 => ?_)
  refine L_icmp_eq (tgt := 1535) dL_law_627 (by decide) ?_ ?_
  · refine L_iinc (v := x4 + 6) (lv' := [(4, .int (x4 + 6)), (0, .ref (lb X)), (1, .ref (lad X 0)), (2, .ref (lad2 X 0)), (3, .ref (lo X))]) 4 dL_law_1535 rfl rfl (by decide) rfl ?_
    refine L_goto (tgt := 23) dL_law_1538 (by decide) ?_
    exact L_up hk (L_sub [1, 2, 3, 4, 0] rfl (ih (x4 + 6) N54 N56 ov))
  · refine L_iconst (v := 0) dL_law_630 (by decide) ?_
    exact L_ret0
def f_law_12 (L : Nat) (xs : Nat → Int32) (kn : Int32 → gM → gM → Int64 → Option Bool) (x4 : Int32) (M1 M2 : gM) (ov : Int64) : Option Bool := (g_ck (x4 + (1 : Int32)) L (g_b (f_X9_lead (xs (tn (x4 + (1 : Int32)))) M1) (fun r57 N58 => (g_ck (x4 + (1 : Int32)) L (g_b (f_X10_lead (xs (tn (x4 + (1 : Int32)))) M2) (fun r59 N60 => (if r57 = r59 then (kn (x4 + 6) N58 N60 ov) else (some false))))))))
set_option maxRecDepth 100000 in
set_option maxHeartbeats 4000000 in
theorem o_law_12 {X : gXL} {k : Nat} {kn : Int32 → gM → gM → Int64 → Option Bool} (hk : k ≤ 512) (ih : ∀ (x4 : Int32) (M1 M2 : gM) (ov : Int64), GL X (k + 1) 23 [(0, .ref (lb X)), (1, .ref (lad X 0)), (2, .ref (lad2 X 0)), (3, .ref (lo X)), (4, .int x4)] [] M1 M2 ov (kn x4 M1 M2 ov)) (x4 : Int32) (M1 M2 : gM) (ov : Int64) : GL X k 632 [(0, .ref (lb X)), (1, .ref (lad X 0)), (2, .ref (lad2 X 0)), (3, .ref (lo X)), (4, .int x4)] [] M1 M2 ov (f_law_12 (lL X) (lxs X) kn x4 M1 M2 ov) := by
  rw [f_law_12]
  refine L_aload_n 1 dL_law_632 rfl rfl ?_
  refine L_aload_n 0 dL_law_633 rfl rfl ?_
  refine L_iload 4 dL_law_634 rfl ?_
  refine L_iconst (v := 1) dL_law_636 (by decide) ?_
  refine L_iadd dL_law_637 ?_
  refine L_sld dL_law_638 ?_
  refine L_c1i (As := [.int (lxs X (tn (x4 + (1 : Int32))))]) (rest := []) (ok_X9_lead (lxs X (tn (x4 + (1 : Int32)))) M1) rfl y1_0 rfl mv_L_75 dL_law_639 rfl rfl (Nat.le_of_ble_eq_true rfl) (by decide) (fun r57 N58 => ?_)
  refine L_aload_n 2 dL_law_642 rfl rfl ?_
  refine L_aload_n 0 dL_law_643 rfl rfl ?_
  refine L_iload 4 dL_law_644 rfl ?_
  refine L_iconst (v := 1) dL_law_646 (by decide) ?_
  refine L_iadd dL_law_647 ?_
  refine L_sld dL_law_648 ?_
  refine L_c2i (As := [.int (lxs X (tn (x4 + (1 : Int32))))]) (rest := [.int r57]) (ok_X10_lead (lxs X (tn (x4 + (1 : Int32)))) M2) rfl y2_0 rfl mv_L_78 dL_law_649 rfl rfl (Nat.le_of_ble_eq_true rfl) (by decide) (fun r59 N60 => ?_)
  refine L_icmp_eq (tgt := 1535) dL_law_652 (by decide) ?_ ?_
  · refine L_iinc (v := x4 + 6) (lv' := [(4, .int (x4 + 6)), (0, .ref (lb X)), (1, .ref (lad X 0)), (2, .ref (lad2 X 0)), (3, .ref (lo X))]) 4 dL_law_1535 rfl rfl (by decide) rfl ?_
    refine L_goto (tgt := 23) dL_law_1538 (by decide) ?_
    exact L_up hk (L_sub [1, 2, 3, 4, 0] rfl (ih (x4 + 6) N58 N60 ov))
  · refine L_iconst (v := 0) dL_law_655 (by decide) ?_
    exact L_ret0
def f_law_13 (L : Nat) (xs : Nat → Int32) (kn : Int32 → gM → gM → Int64 → Option Bool) (x4 : Int32) (M1 M2 : gM) (ov : Int64) : Option Bool := (g_ck (x4 + (1 : Int32)) L (g_b (f_X9_safe (xs (tn (x4 + (1 : Int32)))) M1) (fun r61 N62 => (g_ck (x4 + (1 : Int32)) L (g_b (f_X10_safe (xs (tn (x4 + (1 : Int32)))) M2) (fun r63 N64 => (if r61 = r63 then (kn (x4 + 6) N62 N64 ov) else (some false))))))))
set_option maxRecDepth 100000 in
set_option maxHeartbeats 4000000 in
theorem o_law_13 {X : gXL} {k : Nat} {kn : Int32 → gM → gM → Int64 → Option Bool} (hk : k ≤ 512) (ih : ∀ (x4 : Int32) (M1 M2 : gM) (ov : Int64), GL X (k + 1) 23 [(0, .ref (lb X)), (1, .ref (lad X 0)), (2, .ref (lad2 X 0)), (3, .ref (lo X)), (4, .int x4)] [] M1 M2 ov (kn x4 M1 M2 ov)) (x4 : Int32) (M1 M2 : gM) (ov : Int64) : GL X k 657 [(0, .ref (lb X)), (1, .ref (lad X 0)), (2, .ref (lad2 X 0)), (3, .ref (lo X)), (4, .int x4)] [] M1 M2 ov (f_law_13 (lL X) (lxs X) kn x4 M1 M2 ov) := by
  rw [f_law_13]
  refine L_aload_n 1 dL_law_657 rfl rfl ?_
  refine L_aload_n 0 dL_law_658 rfl rfl ?_
  refine L_iload 4 dL_law_659 rfl ?_
  refine L_iconst (v := 1) dL_law_661 (by decide) ?_
  refine L_iadd dL_law_662 ?_
  refine L_sld dL_law_663 ?_
  refine L_c1i (As := [.int (lxs X (tn (x4 + (1 : Int32))))]) (rest := []) (ok_X9_safe (lxs X (tn (x4 + (1 : Int32)))) M1) rfl y1_0 rfl mv_L_79 dL_law_664 rfl rfl (Nat.le_of_ble_eq_true rfl) (by decide) (fun r61 N62 => ?_)
  refine L_aload_n 2 dL_law_667 rfl rfl ?_
  refine L_aload_n 0 dL_law_668 rfl rfl ?_
  refine L_iload 4 dL_law_669 rfl ?_
  refine L_iconst (v := 1) dL_law_671 (by decide) ?_
  refine L_iadd dL_law_672 ?_
  refine L_sld dL_law_673 ?_
  refine L_c2i (As := [.int (lxs X (tn (x4 + (1 : Int32))))]) (rest := [.int r61]) (ok_X10_safe (lxs X (tn (x4 + (1 : Int32)))) M2) rfl y2_0 rfl mv_L_82 dL_law_674 rfl rfl (Nat.le_of_ble_eq_true rfl) (by decide) (fun r63 N64 => ?_)
  refine L_icmp_eq (tgt := 1535) dL_law_677 (by decide) ?_ ?_
  · refine L_iinc (v := x4 + 6) (lv' := [(4, .int (x4 + 6)), (0, .ref (lb X)), (1, .ref (lad X 0)), (2, .ref (lad2 X 0)), (3, .ref (lo X))]) 4 dL_law_1535 rfl rfl (by decide) rfl ?_
    refine L_goto (tgt := 23) dL_law_1538 (by decide) ?_
    exact L_up hk (L_sub [1, 2, 3, 4, 0] rfl (ih (x4 + 6) N62 N64 ov))
  · refine L_iconst (v := 0) dL_law_680 (by decide) ?_
    exact L_ret0
def f_law_14 (L : Nat) (xs : Nat → Int32) (kn : Int32 → gM → gM → Int64 → Option Bool) (x4 : Int32) (M1 M2 : gM) (ov : Int64) : Option Bool := (g_ck (x4 + (1 : Int32)) L (g_ck (x4 + (2 : Int32)) L (g_ck (x4 + (3 : Int32)) L (if (xs (tn (x4 + (3 : Int32)))) = 0 then (g_b (f_X9_edge (xs (tn (x4 + (1 : Int32)))) (xs (tn (x4 + (2 : Int32)))) false M1) (fun r65 N66 => (g_ck (x4 + (1 : Int32)) L (g_ck (x4 + (2 : Int32)) L (g_ck (x4 + (3 : Int32)) L (if (xs (tn (x4 + (3 : Int32)))) = 0 then (g_b (f_X10_edge (xs (tn (x4 + (1 : Int32)))) (xs (tn (x4 + (2 : Int32)))) false M2) (fun r67 N68 => (if r65 = r67 then (kn (x4 + 6) N66 N68 ov) else (some false)))) else (g_b (f_X10_edge (xs (tn (x4 + (1 : Int32)))) (xs (tn (x4 + (2 : Int32)))) true M2) (fun r69 N70 => (if r65 = r69 then (kn (x4 + 6) N66 N70 ov) else (some false)))))))))) else (g_b (f_X9_edge (xs (tn (x4 + (1 : Int32)))) (xs (tn (x4 + (2 : Int32)))) true M1) (fun r71 N72 => (g_ck (x4 + (1 : Int32)) L (g_ck (x4 + (2 : Int32)) L (g_ck (x4 + (3 : Int32)) L (if (xs (tn (x4 + (3 : Int32)))) = 0 then (g_b (f_X10_edge (xs (tn (x4 + (1 : Int32)))) (xs (tn (x4 + (2 : Int32)))) false M2) (fun r73 N74 => (if r71 = r73 then (kn (x4 + 6) N72 N74 ov) else (some false)))) else (g_b (f_X10_edge (xs (tn (x4 + (1 : Int32)))) (xs (tn (x4 + (2 : Int32)))) true M2) (fun r75 N76 => (if r71 = r75 then (kn (x4 + 6) N72 N76 ov) else (some false))))))))))))))
set_option maxRecDepth 100000 in
set_option maxHeartbeats 4000000 in
theorem o_law_14 {X : gXL} {k : Nat} {kn : Int32 → gM → gM → Int64 → Option Bool} (hk : k ≤ 512) (ih : ∀ (x4 : Int32) (M1 M2 : gM) (ov : Int64), GL X (k + 1) 23 [(0, .ref (lb X)), (1, .ref (lad X 0)), (2, .ref (lad2 X 0)), (3, .ref (lo X)), (4, .int x4)] [] M1 M2 ov (kn x4 M1 M2 ov)) (x4 : Int32) (M1 M2 : gM) (ov : Int64) : GL X k 682 [(0, .ref (lb X)), (1, .ref (lad X 0)), (2, .ref (lad2 X 0)), (3, .ref (lo X)), (4, .int x4)] [] M1 M2 ov (f_law_14 (lL X) (lxs X) kn x4 M1 M2 ov) := by
  rw [f_law_14]
  refine L_aload_n 1 dL_law_682 rfl rfl ?_
  refine L_aload_n 0 dL_law_683 rfl rfl ?_
  refine L_iload 4 dL_law_684 rfl ?_
  refine L_iconst (v := 1) dL_law_686 (by decide) ?_
  refine L_iadd dL_law_687 ?_
  refine L_sld dL_law_688 ?_
  refine L_aload_n 0 dL_law_689 rfl rfl ?_
  refine L_iload 4 dL_law_690 rfl ?_
  refine L_iconst (v := 2) dL_law_692 (by decide) ?_
  refine L_iadd dL_law_693 ?_
  refine L_sld dL_law_694 ?_
  refine L_aload_n 0 dL_law_695 rfl rfl ?_
  refine L_iload 4 dL_law_696 rfl ?_
  refine L_iconst (v := 3) dL_law_698 (by decide) ?_
  refine L_iadd dL_law_699 ?_
  refine L_sld dL_law_700 ?_
  refine L_if_eq (tgt := 708) dL_law_701 (by decide) ?_ ?_
  · refine L_iconst (v := 0) dL_law_708 (by decide) ?_
    refine L_c1i (As := [.int (lxs X (tn (x4 + (1 : Int32)))), .int (lxs X (tn (x4 + (2 : Int32)))), .int 0]) (rest := []) (ok_X9_edge (lxs X (tn (x4 + (1 : Int32)))) (lxs X (tn (x4 + (2 : Int32)))) false M1) rfl y1_0 rfl mv_L_83 dL_law_709 rfl rfl (Nat.le_of_ble_eq_true rfl) (by decide) (fun r65 N66 => ?_)
    refine L_aload_n 2 dL_law_712 rfl rfl ?_
    refine L_aload_n 0 dL_law_713 rfl rfl ?_
    refine L_iload 4 dL_law_714 rfl ?_
    refine L_iconst (v := 1) dL_law_716 (by decide) ?_
    refine L_iadd dL_law_717 ?_
    refine L_sld dL_law_718 ?_
    refine L_aload_n 0 dL_law_719 rfl rfl ?_
    refine L_iload 4 dL_law_720 rfl ?_
    refine L_iconst (v := 2) dL_law_722 (by decide) ?_
    refine L_iadd dL_law_723 ?_
    refine L_sld dL_law_724 ?_
    refine L_aload_n 0 dL_law_725 rfl rfl ?_
    refine L_iload 4 dL_law_726 rfl ?_
    refine L_iconst (v := 3) dL_law_728 (by decide) ?_
    refine L_iadd dL_law_729 ?_
    refine L_sld dL_law_730 ?_
    refine L_if_eq (tgt := 738) dL_law_731 (by decide) ?_ ?_
    · refine L_iconst (v := 0) dL_law_738 (by decide) ?_
      refine L_c2i (As := [.int (lxs X (tn (x4 + (1 : Int32)))), .int (lxs X (tn (x4 + (2 : Int32)))), .int 0]) (rest := [.int r65]) (ok_X10_edge (lxs X (tn (x4 + (1 : Int32)))) (lxs X (tn (x4 + (2 : Int32)))) false M2) rfl y2_0 rfl mv_L_87 dL_law_739 rfl rfl (Nat.le_of_ble_eq_true rfl) (by decide) (fun r67 N68 => ?_)
      refine L_icmp_eq (tgt := 1535) dL_law_742 (by decide) ?_ ?_
      · refine L_iinc (v := x4 + 6) (lv' := [(4, .int (x4 + 6)), (0, .ref (lb X)), (1, .ref (lad X 0)), (2, .ref (lad2 X 0)), (3, .ref (lo X))]) 4 dL_law_1535 rfl rfl (by decide) rfl ?_
        refine L_goto (tgt := 23) dL_law_1538 (by decide) ?_
        exact L_up hk (L_sub [1, 2, 3, 4, 0] rfl (ih (x4 + 6) N66 N68 ov))
      · refine L_iconst (v := 0) dL_law_745 (by decide) ?_
        exact L_ret0
    · refine L_iconst (v := 1) dL_law_734 (by decide) ?_
      refine L_goto (tgt := 739) dL_law_735 (by decide) ?_
      refine L_c2i (As := [.int (lxs X (tn (x4 + (1 : Int32)))), .int (lxs X (tn (x4 + (2 : Int32)))), .int 1]) (rest := [.int r65]) (ok_X10_edge (lxs X (tn (x4 + (1 : Int32)))) (lxs X (tn (x4 + (2 : Int32)))) true M2) rfl y2_0 rfl mv_L_87 dL_law_739 rfl rfl (Nat.le_of_ble_eq_true rfl) (by decide) (fun r69 N70 => ?_)
      refine L_icmp_eq (tgt := 1535) dL_law_742 (by decide) ?_ ?_
      · refine L_iinc (v := x4 + 6) (lv' := [(4, .int (x4 + 6)), (0, .ref (lb X)), (1, .ref (lad X 0)), (2, .ref (lad2 X 0)), (3, .ref (lo X))]) 4 dL_law_1535 rfl rfl (by decide) rfl ?_
        refine L_goto (tgt := 23) dL_law_1538 (by decide) ?_
        exact L_up hk (L_sub [1, 2, 3, 4, 0] rfl (ih (x4 + 6) N66 N70 ov))
      · refine L_iconst (v := 0) dL_law_745 (by decide) ?_
        exact L_ret0
  · refine L_iconst (v := 1) dL_law_704 (by decide) ?_
    refine L_goto (tgt := 709) dL_law_705 (by decide) ?_
    refine L_c1i (As := [.int (lxs X (tn (x4 + (1 : Int32)))), .int (lxs X (tn (x4 + (2 : Int32)))), .int 1]) (rest := []) (ok_X9_edge (lxs X (tn (x4 + (1 : Int32)))) (lxs X (tn (x4 + (2 : Int32)))) true M1) rfl y1_0 rfl mv_L_83 dL_law_709 rfl rfl (Nat.le_of_ble_eq_true rfl) (by decide) (fun r71 N72 => ?_)
    refine L_aload_n 2 dL_law_712 rfl rfl ?_
    refine L_aload_n 0 dL_law_713 rfl rfl ?_
    refine L_iload 4 dL_law_714 rfl ?_
    refine L_iconst (v := 1) dL_law_716 (by decide) ?_
    refine L_iadd dL_law_717 ?_
    refine L_sld dL_law_718 ?_
    refine L_aload_n 0 dL_law_719 rfl rfl ?_
    refine L_iload 4 dL_law_720 rfl ?_
    refine L_iconst (v := 2) dL_law_722 (by decide) ?_
    refine L_iadd dL_law_723 ?_
    refine L_sld dL_law_724 ?_
    refine L_aload_n 0 dL_law_725 rfl rfl ?_
    refine L_iload 4 dL_law_726 rfl ?_
    refine L_iconst (v := 3) dL_law_728 (by decide) ?_
    refine L_iadd dL_law_729 ?_
    refine L_sld dL_law_730 ?_
    refine L_if_eq (tgt := 738) dL_law_731 (by decide) ?_ ?_
    · refine L_iconst (v := 0) dL_law_738 (by decide) ?_
      refine L_c2i (As := [.int (lxs X (tn (x4 + (1 : Int32)))), .int (lxs X (tn (x4 + (2 : Int32)))), .int 0]) (rest := [.int r71]) (ok_X10_edge (lxs X (tn (x4 + (1 : Int32)))) (lxs X (tn (x4 + (2 : Int32)))) false M2) rfl y2_0 rfl mv_L_87 dL_law_739 rfl rfl (Nat.le_of_ble_eq_true rfl) (by decide) (fun r73 N74 => ?_)
      refine L_icmp_eq (tgt := 1535) dL_law_742 (by decide) ?_ ?_
      · refine L_iinc (v := x4 + 6) (lv' := [(4, .int (x4 + 6)), (0, .ref (lb X)), (1, .ref (lad X 0)), (2, .ref (lad2 X 0)), (3, .ref (lo X))]) 4 dL_law_1535 rfl rfl (by decide) rfl ?_
        refine L_goto (tgt := 23) dL_law_1538 (by decide) ?_
        exact L_up hk (L_sub [1, 2, 3, 4, 0] rfl (ih (x4 + 6) N72 N74 ov))
      · refine L_iconst (v := 0) dL_law_745 (by decide) ?_
        exact L_ret0
    · refine L_iconst (v := 1) dL_law_734 (by decide) ?_
      refine L_goto (tgt := 739) dL_law_735 (by decide) ?_
      refine L_c2i (As := [.int (lxs X (tn (x4 + (1 : Int32)))), .int (lxs X (tn (x4 + (2 : Int32)))), .int 1]) (rest := [.int r71]) (ok_X10_edge (lxs X (tn (x4 + (1 : Int32)))) (lxs X (tn (x4 + (2 : Int32)))) true M2) rfl y2_0 rfl mv_L_87 dL_law_739 rfl rfl (Nat.le_of_ble_eq_true rfl) (by decide) (fun r75 N76 => ?_)
      refine L_icmp_eq (tgt := 1535) dL_law_742 (by decide) ?_ ?_
      · refine L_iinc (v := x4 + 6) (lv' := [(4, .int (x4 + 6)), (0, .ref (lb X)), (1, .ref (lad X 0)), (2, .ref (lad2 X 0)), (3, .ref (lo X))]) 4 dL_law_1535 rfl rfl (by decide) rfl ?_
        refine L_goto (tgt := 23) dL_law_1538 (by decide) ?_
        exact L_up hk (L_sub [1, 2, 3, 4, 0] rfl (ih (x4 + 6) N72 N76 ov))
      · refine L_iconst (v := 0) dL_law_745 (by decide) ?_
        exact L_ret0
def f_law_15 (L : Nat) (xs : Nat → Int32) (kn : Int32 → gM → gM → Int64 → Option Bool) (x4 : Int32) (M1 M2 : gM) (ov : Int64) : Option Bool := (g_b (f_X9_doom M1) (fun r77 N78 => (g_b (f_X10_doom M2) (fun r79 N80 => (if r77 = r79 then (kn (x4 + 6) N78 N80 ov) else (some false))))))
set_option maxRecDepth 100000 in
set_option maxHeartbeats 4000000 in
theorem o_law_15 {X : gXL} {k : Nat} {kn : Int32 → gM → gM → Int64 → Option Bool} (hk : k ≤ 512) (ih : ∀ (x4 : Int32) (M1 M2 : gM) (ov : Int64), GL X (k + 1) 23 [(0, .ref (lb X)), (1, .ref (lad X 0)), (2, .ref (lad2 X 0)), (3, .ref (lo X)), (4, .int x4)] [] M1 M2 ov (kn x4 M1 M2 ov)) (x4 : Int32) (M1 M2 : gM) (ov : Int64) : GL X k 747 [(0, .ref (lb X)), (1, .ref (lad X 0)), (2, .ref (lad2 X 0)), (3, .ref (lo X)), (4, .int x4)] [] M1 M2 ov (f_law_15 (lL X) (lxs X) kn x4 M1 M2 ov) := by
  rw [f_law_15]
  refine L_aload_n 1 dL_law_747 rfl rfl ?_
  refine L_c1i (As := []) (rest := []) (ok_X9_doom M1) rfl y1_0 rfl mv_L_88 dL_law_748 rfl rfl (Nat.le_of_ble_eq_true rfl) (by decide) (fun r77 N78 => ?_)
  refine L_aload_n 2 dL_law_751 rfl rfl ?_
  refine L_c2i (As := []) (rest := [.int r77]) (ok_X10_doom M2) rfl y2_0 rfl mv_L_91 dL_law_752 rfl rfl (Nat.le_of_ble_eq_true rfl) (by decide) (fun r79 N80 => ?_)
  refine L_icmp_eq (tgt := 1535) dL_law_755 (by decide) ?_ ?_
  · refine L_iinc (v := x4 + 6) (lv' := [(4, .int (x4 + 6)), (0, .ref (lb X)), (1, .ref (lad X 0)), (2, .ref (lad2 X 0)), (3, .ref (lo X))]) 4 dL_law_1535 rfl rfl (by decide) rfl ?_
    refine L_goto (tgt := 23) dL_law_1538 (by decide) ?_
    exact L_up hk (L_sub [1, 2, 3, 4, 0] rfl (ih (x4 + 6) N78 N80 ov))
  · refine L_iconst (v := 0) dL_law_758 (by decide) ?_
    exact L_ret0
def f_law_16 (L : Nat) (xs : Nat → Int32) (kn : Int32 → gM → gM → Int64 → Option Bool) (x4 : Int32) (M1 M2 : gM) (ov : Int64) : Option Bool := (g_ck (x4 + (1 : Int32)) L (g_b (f_X9_borne (xs (tn (x4 + (1 : Int32)))) M1) (fun r81 N82 => (g_ck (x4 + (1 : Int32)) L (g_b (f_X10_borne (xs (tn (x4 + (1 : Int32)))) M2) (fun r83 N84 => (if r81 = r83 then (kn (x4 + 6) N82 N84 ov) else (some false))))))))
set_option maxRecDepth 100000 in
set_option maxHeartbeats 4000000 in
theorem o_law_16 {X : gXL} {k : Nat} {kn : Int32 → gM → gM → Int64 → Option Bool} (hk : k ≤ 512) (ih : ∀ (x4 : Int32) (M1 M2 : gM) (ov : Int64), GL X (k + 1) 23 [(0, .ref (lb X)), (1, .ref (lad X 0)), (2, .ref (lad2 X 0)), (3, .ref (lo X)), (4, .int x4)] [] M1 M2 ov (kn x4 M1 M2 ov)) (x4 : Int32) (M1 M2 : gM) (ov : Int64) : GL X k 760 [(0, .ref (lb X)), (1, .ref (lad X 0)), (2, .ref (lad2 X 0)), (3, .ref (lo X)), (4, .int x4)] [] M1 M2 ov (f_law_16 (lL X) (lxs X) kn x4 M1 M2 ov) := by
  rw [f_law_16]
  refine L_aload_n 1 dL_law_760 rfl rfl ?_
  refine L_aload_n 0 dL_law_761 rfl rfl ?_
  refine L_iload 4 dL_law_762 rfl ?_
  refine L_iconst (v := 1) dL_law_764 (by decide) ?_
  refine L_iadd dL_law_765 ?_
  refine L_sld dL_law_766 ?_
  refine L_c1i (As := [.int (lxs X (tn (x4 + (1 : Int32))))]) (rest := []) (ok_X9_borne (lxs X (tn (x4 + (1 : Int32)))) M1) rfl y1_0 rfl mv_L_92 dL_law_767 rfl rfl (Nat.le_of_ble_eq_true rfl) (by decide) (fun r81 N82 => ?_)
  refine L_aload_n 2 dL_law_770 rfl rfl ?_
  refine L_aload_n 0 dL_law_771 rfl rfl ?_
  refine L_iload 4 dL_law_772 rfl ?_
  refine L_iconst (v := 1) dL_law_774 (by decide) ?_
  refine L_iadd dL_law_775 ?_
  refine L_sld dL_law_776 ?_
  refine L_c2i (As := [.int (lxs X (tn (x4 + (1 : Int32))))]) (rest := [.int r81]) (ok_X10_borne (lxs X (tn (x4 + (1 : Int32)))) M2) rfl y2_0 rfl mv_L_95 dL_law_777 rfl rfl (Nat.le_of_ble_eq_true rfl) (by decide) (fun r83 N84 => ?_)
  refine L_icmp_eq (tgt := 1535) dL_law_780 (by decide) ?_ ?_
  · refine L_iinc (v := x4 + 6) (lv' := [(4, .int (x4 + 6)), (0, .ref (lb X)), (1, .ref (lad X 0)), (2, .ref (lad2 X 0)), (3, .ref (lo X))]) 4 dL_law_1535 rfl rfl (by decide) rfl ?_
    refine L_goto (tgt := 23) dL_law_1538 (by decide) ?_
    exact L_up hk (L_sub [1, 2, 3, 4, 0] rfl (ih (x4 + 6) N82 N84 ov))
  · refine L_iconst (v := 0) dL_law_783 (by decide) ?_
    exact L_ret0
def f_law_17 (L : Nat) (xs : Nat → Int32) (kn : Int32 → gM → gM → Int64 → Option Bool) (x4 : Int32) (M1 M2 : gM) (ov : Int64) : Option Bool := (g_ck (x4 + (1 : Int32)) L (g_b (f_X9_poles (xs (tn (x4 + (1 : Int32)))) M1) (fun r85 N86 => (g_ck (x4 + (1 : Int32)) L (g_b (f_X10_poles (xs (tn (x4 + (1 : Int32)))) M2) (fun r87 N88 => (if r85 = r87 then (kn (x4 + 6) N86 N88 ov) else (some false))))))))
set_option maxRecDepth 100000 in
set_option maxHeartbeats 4000000 in
theorem o_law_17 {X : gXL} {k : Nat} {kn : Int32 → gM → gM → Int64 → Option Bool} (hk : k ≤ 512) (ih : ∀ (x4 : Int32) (M1 M2 : gM) (ov : Int64), GL X (k + 1) 23 [(0, .ref (lb X)), (1, .ref (lad X 0)), (2, .ref (lad2 X 0)), (3, .ref (lo X)), (4, .int x4)] [] M1 M2 ov (kn x4 M1 M2 ov)) (x4 : Int32) (M1 M2 : gM) (ov : Int64) : GL X k 785 [(0, .ref (lb X)), (1, .ref (lad X 0)), (2, .ref (lad2 X 0)), (3, .ref (lo X)), (4, .int x4)] [] M1 M2 ov (f_law_17 (lL X) (lxs X) kn x4 M1 M2 ov) := by
  rw [f_law_17]
  refine L_aload_n 1 dL_law_785 rfl rfl ?_
  refine L_aload_n 0 dL_law_786 rfl rfl ?_
  refine L_iload 4 dL_law_787 rfl ?_
  refine L_iconst (v := 1) dL_law_789 (by decide) ?_
  refine L_iadd dL_law_790 ?_
  refine L_sld dL_law_791 ?_
  refine L_c1i (As := [.int (lxs X (tn (x4 + (1 : Int32))))]) (rest := []) (ok_X9_poles (lxs X (tn (x4 + (1 : Int32)))) M1) rfl y1_0 rfl mv_L_96 dL_law_792 rfl rfl (Nat.le_of_ble_eq_true rfl) (by decide) (fun r85 N86 => ?_)
  refine L_aload_n 2 dL_law_795 rfl rfl ?_
  refine L_aload_n 0 dL_law_796 rfl rfl ?_
  refine L_iload 4 dL_law_797 rfl ?_
  refine L_iconst (v := 1) dL_law_799 (by decide) ?_
  refine L_iadd dL_law_800 ?_
  refine L_sld dL_law_801 ?_
  refine L_c2i (As := [.int (lxs X (tn (x4 + (1 : Int32))))]) (rest := [.int r85]) (ok_X10_poles (lxs X (tn (x4 + (1 : Int32)))) M2) rfl y2_0 rfl mv_L_99 dL_law_802 rfl rfl (Nat.le_of_ble_eq_true rfl) (by decide) (fun r87 N88 => ?_)
  refine L_icmp_eq (tgt := 1535) dL_law_805 (by decide) ?_ ?_
  · refine L_iinc (v := x4 + 6) (lv' := [(4, .int (x4 + 6)), (0, .ref (lb X)), (1, .ref (lad X 0)), (2, .ref (lad2 X 0)), (3, .ref (lo X))]) 4 dL_law_1535 rfl rfl (by decide) rfl ?_
    refine L_goto (tgt := 23) dL_law_1538 (by decide) ?_
    exact L_up hk (L_sub [1, 2, 3, 4, 0] rfl (ih (x4 + 6) N86 N88 ov))
  · refine L_iconst (v := 0) dL_law_808 (by decide) ?_
    exact L_ret0
def f_law_18 (L : Nat) (xs : Nat → Int32) (kn : Int32 → gM → gM → Int64 → Option Bool) (x4 : Int32) (M1 M2 : gM) (ov : Int64) : Option Bool := (g_ck (x4 + (1 : Int32)) L (g_b (f_X9_forecast (xs (tn (x4 + (1 : Int32)))) M1) (fun r89 N90 => (g_ck (x4 + (1 : Int32)) L (g_b (f_X10_forecast (xs (tn (x4 + (1 : Int32)))) M2) (fun r91 N92 => (if r89 = r91 then (kn (x4 + 6) N90 N92 ov) else (some false))))))))
set_option maxRecDepth 100000 in
set_option maxHeartbeats 4000000 in
theorem o_law_18 {X : gXL} {k : Nat} {kn : Int32 → gM → gM → Int64 → Option Bool} (hk : k ≤ 512) (ih : ∀ (x4 : Int32) (M1 M2 : gM) (ov : Int64), GL X (k + 1) 23 [(0, .ref (lb X)), (1, .ref (lad X 0)), (2, .ref (lad2 X 0)), (3, .ref (lo X)), (4, .int x4)] [] M1 M2 ov (kn x4 M1 M2 ov)) (x4 : Int32) (M1 M2 : gM) (ov : Int64) : GL X k 810 [(0, .ref (lb X)), (1, .ref (lad X 0)), (2, .ref (lad2 X 0)), (3, .ref (lo X)), (4, .int x4)] [] M1 M2 ov (f_law_18 (lL X) (lxs X) kn x4 M1 M2 ov) := by
  rw [f_law_18]
  refine L_aload_n 1 dL_law_810 rfl rfl ?_
  refine L_aload_n 0 dL_law_811 rfl rfl ?_
  refine L_iload 4 dL_law_812 rfl ?_
  refine L_iconst (v := 1) dL_law_814 (by decide) ?_
  refine L_iadd dL_law_815 ?_
  refine L_sld dL_law_816 ?_
  refine L_c1i (As := [.int (lxs X (tn (x4 + (1 : Int32))))]) (rest := []) (ok_X9_forecast (lxs X (tn (x4 + (1 : Int32)))) M1) rfl y1_0 rfl mv_L_100 dL_law_817 rfl rfl (Nat.le_of_ble_eq_true rfl) (by decide) (fun r89 N90 => ?_)
  refine L_aload_n 2 dL_law_820 rfl rfl ?_
  refine L_aload_n 0 dL_law_821 rfl rfl ?_
  refine L_iload 4 dL_law_822 rfl ?_
  refine L_iconst (v := 1) dL_law_824 (by decide) ?_
  refine L_iadd dL_law_825 ?_
  refine L_sld dL_law_826 ?_
  refine L_c2i (As := [.int (lxs X (tn (x4 + (1 : Int32))))]) (rest := [.int r89]) (ok_X10_forecast (lxs X (tn (x4 + (1 : Int32)))) M2) rfl y2_0 rfl mv_L_103 dL_law_827 rfl rfl (Nat.le_of_ble_eq_true rfl) (by decide) (fun r91 N92 => ?_)
  refine L_icmp_eq (tgt := 1535) dL_law_830 (by decide) ?_ ?_
  · refine L_iinc (v := x4 + 6) (lv' := [(4, .int (x4 + 6)), (0, .ref (lb X)), (1, .ref (lad X 0)), (2, .ref (lad2 X 0)), (3, .ref (lo X))]) 4 dL_law_1535 rfl rfl (by decide) rfl ?_
    refine L_goto (tgt := 23) dL_law_1538 (by decide) ?_
    exact L_up hk (L_sub [1, 2, 3, 4, 0] rfl (ih (x4 + 6) N90 N92 ov))
  · refine L_iconst (v := 0) dL_law_833 (by decide) ?_
    exact L_ret0
def f_law_19 (L : Nat) (xs : Nat → Int32) (kn : Int32 → gM → gM → Int64 → Option Bool) (x4 : Int32) (M1 M2 : gM) (ov : Int64) : Option Bool := (g_b (f_X9_clear M1) (fun r93 N94 => (g_b (f_X10_clear M2) (fun r95 N96 => (kn (x4 + 6) N94 N96 ov)))))
set_option maxRecDepth 100000 in
set_option maxHeartbeats 4000000 in
theorem o_law_19 {X : gXL} {k : Nat} {kn : Int32 → gM → gM → Int64 → Option Bool} (hk : k ≤ 512) (ih : ∀ (x4 : Int32) (M1 M2 : gM) (ov : Int64), GL X (k + 1) 23 [(0, .ref (lb X)), (1, .ref (lad X 0)), (2, .ref (lad2 X 0)), (3, .ref (lo X)), (4, .int x4)] [] M1 M2 ov (kn x4 M1 M2 ov)) (x4 : Int32) (M1 M2 : gM) (ov : Int64) : GL X k 835 [(0, .ref (lb X)), (1, .ref (lad X 0)), (2, .ref (lad2 X 0)), (3, .ref (lo X)), (4, .int x4)] [] M1 M2 ov (f_law_19 (lL X) (lxs X) kn x4 M1 M2 ov) := by
  rw [f_law_19]
  refine L_aload_n 1 dL_law_835 rfl rfl ?_
  refine L_c1v (As := []) (rest := []) (ok_X9_clear M1) rfl y1_0 rfl mv_L_104 dL_law_836 rfl rfl (Nat.le_of_ble_eq_true rfl) (by decide) (fun r93 N94 => ?_)
  refine L_aload_n 2 dL_law_839 rfl rfl ?_
  refine L_c2v (As := []) (rest := []) (ok_X10_clear M2) rfl y2_0 rfl mv_L_107 dL_law_840 rfl rfl (Nat.le_of_ble_eq_true rfl) (by decide) (fun r95 N96 => ?_)
  refine L_goto (tgt := 1535) dL_law_843 (by decide) ?_
  refine L_iinc (v := x4 + 6) (lv' := [(4, .int (x4 + 6)), (0, .ref (lb X)), (1, .ref (lad X 0)), (2, .ref (lad2 X 0)), (3, .ref (lo X))]) 4 dL_law_1535 rfl rfl (by decide) rfl ?_
  refine L_goto (tgt := 23) dL_law_1538 (by decide) ?_
  exact L_up hk (L_sub [1, 2, 3, 4, 0] rfl (ih (x4 + 6) N94 N96 ov))
def f_law_20 (L : Nat) (xs : Nat → Int32) (kn : Int32 → gM → gM → Int64 → Option Bool) (x4 : Int32) (M1 M2 : gM) (ov : Int64) : Option Bool := (g_ck (x4 + (1 : Int32)) L (g_b (f_X9_known (xs (tn (x4 + (1 : Int32)))) M1) (fun r97 N98 => (g_ck (x4 + (1 : Int32)) L (g_b (f_X10_known (xs (tn (x4 + (1 : Int32)))) M2) (fun r99 N100 => (if r97 = r99 then (kn (x4 + 6) N98 N100 ov) else (some false))))))))
set_option maxRecDepth 100000 in
set_option maxHeartbeats 4000000 in
theorem o_law_20 {X : gXL} {k : Nat} {kn : Int32 → gM → gM → Int64 → Option Bool} (hk : k ≤ 512) (ih : ∀ (x4 : Int32) (M1 M2 : gM) (ov : Int64), GL X (k + 1) 23 [(0, .ref (lb X)), (1, .ref (lad X 0)), (2, .ref (lad2 X 0)), (3, .ref (lo X)), (4, .int x4)] [] M1 M2 ov (kn x4 M1 M2 ov)) (x4 : Int32) (M1 M2 : gM) (ov : Int64) : GL X k 846 [(0, .ref (lb X)), (1, .ref (lad X 0)), (2, .ref (lad2 X 0)), (3, .ref (lo X)), (4, .int x4)] [] M1 M2 ov (f_law_20 (lL X) (lxs X) kn x4 M1 M2 ov) := by
  rw [f_law_20]
  refine L_aload_n 1 dL_law_846 rfl rfl ?_
  refine L_aload_n 0 dL_law_847 rfl rfl ?_
  refine L_iload 4 dL_law_848 rfl ?_
  refine L_iconst (v := 1) dL_law_850 (by decide) ?_
  refine L_iadd dL_law_851 ?_
  refine L_sld dL_law_852 ?_
  refine L_c1i (As := [.int (lxs X (tn (x4 + (1 : Int32))))]) (rest := []) (ok_X9_known (lxs X (tn (x4 + (1 : Int32)))) M1) rfl y1_0 rfl mv_L_108 dL_law_853 rfl rfl (Nat.le_of_ble_eq_true rfl) (by decide) (fun r97 N98 => ?_)
  refine L_aload_n 2 dL_law_856 rfl rfl ?_
  refine L_aload_n 0 dL_law_857 rfl rfl ?_
  refine L_iload 4 dL_law_858 rfl ?_
  refine L_iconst (v := 1) dL_law_860 (by decide) ?_
  refine L_iadd dL_law_861 ?_
  refine L_sld dL_law_862 ?_
  refine L_c2i (As := [.int (lxs X (tn (x4 + (1 : Int32))))]) (rest := [.int r97]) (ok_X10_known (lxs X (tn (x4 + (1 : Int32)))) M2) rfl y2_0 rfl mv_L_111 dL_law_863 rfl rfl (Nat.le_of_ble_eq_true rfl) (by decide) (fun r99 N100 => ?_)
  refine L_icmp_eq (tgt := 1535) dL_law_866 (by decide) ?_ ?_
  · refine L_iinc (v := x4 + 6) (lv' := [(4, .int (x4 + 6)), (0, .ref (lb X)), (1, .ref (lad X 0)), (2, .ref (lad2 X 0)), (3, .ref (lo X))]) 4 dL_law_1535 rfl rfl (by decide) rfl ?_
    refine L_goto (tgt := 23) dL_law_1538 (by decide) ?_
    exact L_up hk (L_sub [1, 2, 3, 4, 0] rfl (ih (x4 + 6) N98 N100 ov))
  · refine L_iconst (v := 0) dL_law_869 (by decide) ?_
    exact L_ret0
def f_law_21 (L : Nat) (xs : Nat → Int32) (kn : Int32 → gM → gM → Int64 → Option Bool) (x4 : Int32) (M1 M2 : gM) (ov : Int64) : Option Bool := (g_ck (x4 + (1 : Int32)) L (g_ck (x4 + (2 : Int32)) L (g_b (f_X9_knownAct (xs (tn (x4 + (1 : Int32)))) (xs (tn (x4 + (2 : Int32)))) M1) (fun r101 N102 => (g_ck (x4 + (1 : Int32)) L (g_ck (x4 + (2 : Int32)) L (g_b (f_X10_knownAct (xs (tn (x4 + (1 : Int32)))) (xs (tn (x4 + (2 : Int32)))) M2) (fun r103 N104 => (if r101 = r103 then (kn (x4 + 6) N102 N104 ov) else (some false))))))))))
set_option maxRecDepth 100000 in
set_option maxHeartbeats 4000000 in
theorem o_law_21 {X : gXL} {k : Nat} {kn : Int32 → gM → gM → Int64 → Option Bool} (hk : k ≤ 512) (ih : ∀ (x4 : Int32) (M1 M2 : gM) (ov : Int64), GL X (k + 1) 23 [(0, .ref (lb X)), (1, .ref (lad X 0)), (2, .ref (lad2 X 0)), (3, .ref (lo X)), (4, .int x4)] [] M1 M2 ov (kn x4 M1 M2 ov)) (x4 : Int32) (M1 M2 : gM) (ov : Int64) : GL X k 871 [(0, .ref (lb X)), (1, .ref (lad X 0)), (2, .ref (lad2 X 0)), (3, .ref (lo X)), (4, .int x4)] [] M1 M2 ov (f_law_21 (lL X) (lxs X) kn x4 M1 M2 ov) := by
  rw [f_law_21]
  refine L_aload_n 1 dL_law_871 rfl rfl ?_
  refine L_aload_n 0 dL_law_872 rfl rfl ?_
  refine L_iload 4 dL_law_873 rfl ?_
  refine L_iconst (v := 1) dL_law_875 (by decide) ?_
  refine L_iadd dL_law_876 ?_
  refine L_sld dL_law_877 ?_
  refine L_aload_n 0 dL_law_878 rfl rfl ?_
  refine L_iload 4 dL_law_879 rfl ?_
  refine L_iconst (v := 2) dL_law_881 (by decide) ?_
  refine L_iadd dL_law_882 ?_
  refine L_sld dL_law_883 ?_
  refine L_c1i (As := [.int (lxs X (tn (x4 + (1 : Int32)))), .int (lxs X (tn (x4 + (2 : Int32))))]) (rest := []) (ok_X9_knownAct (lxs X (tn (x4 + (1 : Int32)))) (lxs X (tn (x4 + (2 : Int32)))) M1) rfl y1_0 rfl mv_L_112 dL_law_884 rfl rfl (Nat.le_of_ble_eq_true rfl) (by decide) (fun r101 N102 => ?_)
  refine L_aload_n 2 dL_law_887 rfl rfl ?_
  refine L_aload_n 0 dL_law_888 rfl rfl ?_
  refine L_iload 4 dL_law_889 rfl ?_
  refine L_iconst (v := 1) dL_law_891 (by decide) ?_
  refine L_iadd dL_law_892 ?_
  refine L_sld dL_law_893 ?_
  refine L_aload_n 0 dL_law_894 rfl rfl ?_
  refine L_iload 4 dL_law_895 rfl ?_
  refine L_iconst (v := 2) dL_law_897 (by decide) ?_
  refine L_iadd dL_law_898 ?_
  refine L_sld dL_law_899 ?_
  refine L_c2i (As := [.int (lxs X (tn (x4 + (1 : Int32)))), .int (lxs X (tn (x4 + (2 : Int32))))]) (rest := [.int r101]) (ok_X10_knownAct (lxs X (tn (x4 + (1 : Int32)))) (lxs X (tn (x4 + (2 : Int32)))) M2) rfl y2_0 rfl mv_L_115 dL_law_900 rfl rfl (Nat.le_of_ble_eq_true rfl) (by decide) (fun r103 N104 => ?_)
  refine L_icmp_eq (tgt := 1535) dL_law_903 (by decide) ?_ ?_
  · refine L_iinc (v := x4 + 6) (lv' := [(4, .int (x4 + 6)), (0, .ref (lb X)), (1, .ref (lad X 0)), (2, .ref (lad2 X 0)), (3, .ref (lo X))]) 4 dL_law_1535 rfl rfl (by decide) rfl ?_
    refine L_goto (tgt := 23) dL_law_1538 (by decide) ?_
    exact L_up hk (L_sub [1, 2, 3, 4, 0] rfl (ih (x4 + 6) N102 N104 ov))
  · refine L_iconst (v := 0) dL_law_906 (by decide) ?_
    exact L_ret0
def f_law_22 (L : Nat) (xs : Nat → Int32) (kn : Int32 → gM → gM → Int64 → Option Bool) (x4 : Int32) (M1 M2 : gM) (ov : Int64) : Option Bool := (g_ck (x4 + (1 : Int32)) L (g_ck (x4 + (2 : Int32)) L (g_b (f_X9_blind (xs (tn (x4 + (1 : Int32)))) (xs (tn (x4 + (2 : Int32)))) M1) (fun r105 N106 => (g_ck (x4 + (1 : Int32)) L (g_ck (x4 + (2 : Int32)) L (g_b (f_X10_blind (xs (tn (x4 + (1 : Int32)))) (xs (tn (x4 + (2 : Int32)))) M2) (fun r107 N108 => (if r105 = r107 then (kn (x4 + 6) N106 N108 ov) else (some false))))))))))
set_option maxRecDepth 100000 in
set_option maxHeartbeats 4000000 in
theorem o_law_22 {X : gXL} {k : Nat} {kn : Int32 → gM → gM → Int64 → Option Bool} (hk : k ≤ 512) (ih : ∀ (x4 : Int32) (M1 M2 : gM) (ov : Int64), GL X (k + 1) 23 [(0, .ref (lb X)), (1, .ref (lad X 0)), (2, .ref (lad2 X 0)), (3, .ref (lo X)), (4, .int x4)] [] M1 M2 ov (kn x4 M1 M2 ov)) (x4 : Int32) (M1 M2 : gM) (ov : Int64) : GL X k 908 [(0, .ref (lb X)), (1, .ref (lad X 0)), (2, .ref (lad2 X 0)), (3, .ref (lo X)), (4, .int x4)] [] M1 M2 ov (f_law_22 (lL X) (lxs X) kn x4 M1 M2 ov) := by
  rw [f_law_22]
  refine L_aload_n 1 dL_law_908 rfl rfl ?_
  refine L_aload_n 0 dL_law_909 rfl rfl ?_
  refine L_iload 4 dL_law_910 rfl ?_
  refine L_iconst (v := 1) dL_law_912 (by decide) ?_
  refine L_iadd dL_law_913 ?_
  refine L_sld dL_law_914 ?_
  refine L_aload_n 0 dL_law_915 rfl rfl ?_
  refine L_iload 4 dL_law_916 rfl ?_
  refine L_iconst (v := 2) dL_law_918 (by decide) ?_
  refine L_iadd dL_law_919 ?_
  refine L_sld dL_law_920 ?_
  refine L_c1i (As := [.int (lxs X (tn (x4 + (1 : Int32)))), .int (lxs X (tn (x4 + (2 : Int32))))]) (rest := []) (ok_X9_blind (lxs X (tn (x4 + (1 : Int32)))) (lxs X (tn (x4 + (2 : Int32)))) M1) rfl y1_0 rfl mv_L_116 dL_law_921 rfl rfl (Nat.le_of_ble_eq_true rfl) (by decide) (fun r105 N106 => ?_)
  refine L_aload_n 2 dL_law_924 rfl rfl ?_
  refine L_aload_n 0 dL_law_925 rfl rfl ?_
  refine L_iload 4 dL_law_926 rfl ?_
  refine L_iconst (v := 1) dL_law_928 (by decide) ?_
  refine L_iadd dL_law_929 ?_
  refine L_sld dL_law_930 ?_
  refine L_aload_n 0 dL_law_931 rfl rfl ?_
  refine L_iload 4 dL_law_932 rfl ?_
  refine L_iconst (v := 2) dL_law_934 (by decide) ?_
  refine L_iadd dL_law_935 ?_
  refine L_sld dL_law_936 ?_
  refine L_c2i (As := [.int (lxs X (tn (x4 + (1 : Int32)))), .int (lxs X (tn (x4 + (2 : Int32))))]) (rest := [.int r105]) (ok_X10_blind (lxs X (tn (x4 + (1 : Int32)))) (lxs X (tn (x4 + (2 : Int32)))) M2) rfl y2_0 rfl mv_L_119 dL_law_937 rfl rfl (Nat.le_of_ble_eq_true rfl) (by decide) (fun r107 N108 => ?_)
  refine L_icmp_eq (tgt := 1535) dL_law_940 (by decide) ?_ ?_
  · refine L_iinc (v := x4 + 6) (lv' := [(4, .int (x4 + 6)), (0, .ref (lb X)), (1, .ref (lad X 0)), (2, .ref (lad2 X 0)), (3, .ref (lo X))]) 4 dL_law_1535 rfl rfl (by decide) rfl ?_
    refine L_goto (tgt := 23) dL_law_1538 (by decide) ?_
    exact L_up hk (L_sub [1, 2, 3, 4, 0] rfl (ih (x4 + 6) N106 N108 ov))
  · refine L_iconst (v := 0) dL_law_943 (by decide) ?_
    exact L_ret0
def f_law_23 (L : Nat) (xs : Nat → Int32) (kn : Int32 → gM → gM → Int64 → Option Bool) (x4 : Int32) (M1 M2 : gM) (ov : Int64) : Option Bool := (g_ck (x4 + (1 : Int32)) L (g_ck (x4 + (2 : Int32)) L (g_ck (x4 + (3 : Int32)) L (g_b (f_X9_blindAct (xs (tn (x4 + (1 : Int32)))) (xs (tn (x4 + (2 : Int32)))) (xs (tn (x4 + (3 : Int32)))) M1) (fun r109 N110 => (g_ck (x4 + (1 : Int32)) L (g_ck (x4 + (2 : Int32)) L (g_ck (x4 + (3 : Int32)) L (g_b (f_X10_blindAct (xs (tn (x4 + (1 : Int32)))) (xs (tn (x4 + (2 : Int32)))) (xs (tn (x4 + (3 : Int32)))) M2) (fun r111 N112 => (if r109 = r111 then (kn (x4 + 6) N110 N112 ov) else (some false))))))))))))
set_option maxRecDepth 100000 in
set_option maxHeartbeats 4000000 in
theorem o_law_23 {X : gXL} {k : Nat} {kn : Int32 → gM → gM → Int64 → Option Bool} (hk : k ≤ 512) (ih : ∀ (x4 : Int32) (M1 M2 : gM) (ov : Int64), GL X (k + 1) 23 [(0, .ref (lb X)), (1, .ref (lad X 0)), (2, .ref (lad2 X 0)), (3, .ref (lo X)), (4, .int x4)] [] M1 M2 ov (kn x4 M1 M2 ov)) (x4 : Int32) (M1 M2 : gM) (ov : Int64) : GL X k 945 [(0, .ref (lb X)), (1, .ref (lad X 0)), (2, .ref (lad2 X 0)), (3, .ref (lo X)), (4, .int x4)] [] M1 M2 ov (f_law_23 (lL X) (lxs X) kn x4 M1 M2 ov) := by
  rw [f_law_23]
  refine L_aload_n 1 dL_law_945 rfl rfl ?_
  refine L_aload_n 0 dL_law_946 rfl rfl ?_
  refine L_iload 4 dL_law_947 rfl ?_
  refine L_iconst (v := 1) dL_law_949 (by decide) ?_
  refine L_iadd dL_law_950 ?_
  refine L_sld dL_law_951 ?_
  refine L_aload_n 0 dL_law_952 rfl rfl ?_
  refine L_iload 4 dL_law_953 rfl ?_
  refine L_iconst (v := 2) dL_law_955 (by decide) ?_
  refine L_iadd dL_law_956 ?_
  refine L_sld dL_law_957 ?_
  refine L_aload_n 0 dL_law_958 rfl rfl ?_
  refine L_iload 4 dL_law_959 rfl ?_
  refine L_iconst (v := 3) dL_law_961 (by decide) ?_
  refine L_iadd dL_law_962 ?_
  refine L_sld dL_law_963 ?_
  refine L_c1i (As := [.int (lxs X (tn (x4 + (1 : Int32)))), .int (lxs X (tn (x4 + (2 : Int32)))), .int (lxs X (tn (x4 + (3 : Int32))))]) (rest := []) (ok_X9_blindAct (lxs X (tn (x4 + (1 : Int32)))) (lxs X (tn (x4 + (2 : Int32)))) (lxs X (tn (x4 + (3 : Int32)))) M1) rfl y1_0 rfl mv_L_120 dL_law_964 rfl rfl (Nat.le_of_ble_eq_true rfl) (by decide) (fun r109 N110 => ?_)
  refine L_aload_n 2 dL_law_967 rfl rfl ?_
  refine L_aload_n 0 dL_law_968 rfl rfl ?_
  refine L_iload 4 dL_law_969 rfl ?_
  refine L_iconst (v := 1) dL_law_971 (by decide) ?_
  refine L_iadd dL_law_972 ?_
  refine L_sld dL_law_973 ?_
  refine L_aload_n 0 dL_law_974 rfl rfl ?_
  refine L_iload 4 dL_law_975 rfl ?_
  refine L_iconst (v := 2) dL_law_977 (by decide) ?_
  refine L_iadd dL_law_978 ?_
  refine L_sld dL_law_979 ?_
  refine L_aload_n 0 dL_law_980 rfl rfl ?_
  refine L_iload 4 dL_law_981 rfl ?_
  refine L_iconst (v := 3) dL_law_983 (by decide) ?_
  refine L_iadd dL_law_984 ?_
  refine L_sld dL_law_985 ?_
  refine L_c2i (As := [.int (lxs X (tn (x4 + (1 : Int32)))), .int (lxs X (tn (x4 + (2 : Int32)))), .int (lxs X (tn (x4 + (3 : Int32))))]) (rest := [.int r109]) (ok_X10_blindAct (lxs X (tn (x4 + (1 : Int32)))) (lxs X (tn (x4 + (2 : Int32)))) (lxs X (tn (x4 + (3 : Int32)))) M2) rfl y2_0 rfl mv_L_123 dL_law_986 rfl rfl (Nat.le_of_ble_eq_true rfl) (by decide) (fun r111 N112 => ?_)
  refine L_icmp_eq (tgt := 1535) dL_law_989 (by decide) ?_ ?_
  · refine L_iinc (v := x4 + 6) (lv' := [(4, .int (x4 + 6)), (0, .ref (lb X)), (1, .ref (lad X 0)), (2, .ref (lad2 X 0)), (3, .ref (lo X))]) 4 dL_law_1535 rfl rfl (by decide) rfl ?_
    refine L_goto (tgt := 23) dL_law_1538 (by decide) ?_
    exact L_up hk (L_sub [1, 2, 3, 4, 0] rfl (ih (x4 + 6) N110 N112 ov))
  · refine L_iconst (v := 0) dL_law_992 (by decide) ?_
    exact L_ret0
def f_law_24 (L : Nat) (xs : Nat → Int32) (kn : Int32 → gM → gM → Int64 → Option Bool) (x4 : Int32) (M1 M2 : gM) (ov : Int64) : Option Bool := (g_ck (x4 + (1 : Int32)) L (g_b (f_X9_reflex (xs (tn (x4 + (1 : Int32)))) M1) (fun r113 N114 => (g_ck (x4 + (1 : Int32)) L (g_b (f_X10_reflex (xs (tn (x4 + (1 : Int32)))) M2) (fun r115 N116 => (if r113 = r115 then (kn (x4 + 6) N114 N116 ov) else (some false))))))))
set_option maxRecDepth 100000 in
set_option maxHeartbeats 4000000 in
theorem o_law_24 {X : gXL} {k : Nat} {kn : Int32 → gM → gM → Int64 → Option Bool} (hk : k ≤ 512) (ih : ∀ (x4 : Int32) (M1 M2 : gM) (ov : Int64), GL X (k + 1) 23 [(0, .ref (lb X)), (1, .ref (lad X 0)), (2, .ref (lad2 X 0)), (3, .ref (lo X)), (4, .int x4)] [] M1 M2 ov (kn x4 M1 M2 ov)) (x4 : Int32) (M1 M2 : gM) (ov : Int64) : GL X k 994 [(0, .ref (lb X)), (1, .ref (lad X 0)), (2, .ref (lad2 X 0)), (3, .ref (lo X)), (4, .int x4)] [] M1 M2 ov (f_law_24 (lL X) (lxs X) kn x4 M1 M2 ov) := by
  rw [f_law_24]
  refine L_aload_n 1 dL_law_994 rfl rfl ?_
  refine L_aload_n 0 dL_law_995 rfl rfl ?_
  refine L_iload 4 dL_law_996 rfl ?_
  refine L_iconst (v := 1) dL_law_998 (by decide) ?_
  refine L_iadd dL_law_999 ?_
  refine L_sld dL_law_1000 ?_
  refine L_c1i (As := [.int (lxs X (tn (x4 + (1 : Int32))))]) (rest := []) (ok_X9_reflex (lxs X (tn (x4 + (1 : Int32)))) M1) rfl y1_0 rfl mv_L_124 dL_law_1001 rfl rfl (Nat.le_of_ble_eq_true rfl) (by decide) (fun r113 N114 => ?_)
  refine L_aload_n 2 dL_law_1004 rfl rfl ?_
  refine L_aload_n 0 dL_law_1005 rfl rfl ?_
  refine L_iload 4 dL_law_1006 rfl ?_
  refine L_iconst (v := 1) dL_law_1008 (by decide) ?_
  refine L_iadd dL_law_1009 ?_
  refine L_sld dL_law_1010 ?_
  refine L_c2i (As := [.int (lxs X (tn (x4 + (1 : Int32))))]) (rest := [.int r113]) (ok_X10_reflex (lxs X (tn (x4 + (1 : Int32)))) M2) rfl y2_0 rfl mv_L_127 dL_law_1011 rfl rfl (Nat.le_of_ble_eq_true rfl) (by decide) (fun r115 N116 => ?_)
  refine L_icmp_eq (tgt := 1535) dL_law_1014 (by decide) ?_ ?_
  · refine L_iinc (v := x4 + 6) (lv' := [(4, .int (x4 + 6)), (0, .ref (lb X)), (1, .ref (lad X 0)), (2, .ref (lad2 X 0)), (3, .ref (lo X))]) 4 dL_law_1535 rfl rfl (by decide) rfl ?_
    refine L_goto (tgt := 23) dL_law_1538 (by decide) ?_
    exact L_up hk (L_sub [1, 2, 3, 4, 0] rfl (ih (x4 + 6) N114 N116 ov))
  · refine L_iconst (v := 0) dL_law_1017 (by decide) ?_
    exact L_ret0
def f_law_25 (L : Nat) (xs : Nat → Int32) (kn : Int32 → gM → gM → Int64 → Option Bool) (x4 : Int32) (M1 M2 : gM) (ov : Int64) : Option Bool := (g_ck (x4 + (1 : Int32)) L (g_b (f_X9_proof (xs (tn (x4 + (1 : Int32)))) M1) (fun r117 N118 => (g_ck (x4 + (1 : Int32)) L (g_b (f_X10_proof (xs (tn (x4 + (1 : Int32)))) M2) (fun r119 N120 => (if r117 = r119 then (kn (x4 + 6) N118 N120 ov) else (some false))))))))
set_option maxRecDepth 100000 in
set_option maxHeartbeats 4000000 in
theorem o_law_25 {X : gXL} {k : Nat} {kn : Int32 → gM → gM → Int64 → Option Bool} (hk : k ≤ 512) (ih : ∀ (x4 : Int32) (M1 M2 : gM) (ov : Int64), GL X (k + 1) 23 [(0, .ref (lb X)), (1, .ref (lad X 0)), (2, .ref (lad2 X 0)), (3, .ref (lo X)), (4, .int x4)] [] M1 M2 ov (kn x4 M1 M2 ov)) (x4 : Int32) (M1 M2 : gM) (ov : Int64) : GL X k 1019 [(0, .ref (lb X)), (1, .ref (lad X 0)), (2, .ref (lad2 X 0)), (3, .ref (lo X)), (4, .int x4)] [] M1 M2 ov (f_law_25 (lL X) (lxs X) kn x4 M1 M2 ov) := by
  rw [f_law_25]
  refine L_aload_n 1 dL_law_1019 rfl rfl ?_
  refine L_aload_n 0 dL_law_1020 rfl rfl ?_
  refine L_iload 4 dL_law_1021 rfl ?_
  refine L_iconst (v := 1) dL_law_1023 (by decide) ?_
  refine L_iadd dL_law_1024 ?_
  refine L_sld dL_law_1025 ?_
  refine L_c1i (As := [.int (lxs X (tn (x4 + (1 : Int32))))]) (rest := []) (ok_X9_proof (lxs X (tn (x4 + (1 : Int32)))) M1) rfl y1_0 rfl mv_L_128 dL_law_1026 rfl rfl (Nat.le_of_ble_eq_true rfl) (by decide) (fun r117 N118 => ?_)
  refine L_aload_n 2 dL_law_1029 rfl rfl ?_
  refine L_aload_n 0 dL_law_1030 rfl rfl ?_
  refine L_iload 4 dL_law_1031 rfl ?_
  refine L_iconst (v := 1) dL_law_1033 (by decide) ?_
  refine L_iadd dL_law_1034 ?_
  refine L_sld dL_law_1035 ?_
  refine L_c2i (As := [.int (lxs X (tn (x4 + (1 : Int32))))]) (rest := [.int r117]) (ok_X10_proof (lxs X (tn (x4 + (1 : Int32)))) M2) rfl y2_0 rfl mv_L_131 dL_law_1036 rfl rfl (Nat.le_of_ble_eq_true rfl) (by decide) (fun r119 N120 => ?_)
  refine L_icmp_eq (tgt := 1535) dL_law_1039 (by decide) ?_ ?_
  · refine L_iinc (v := x4 + 6) (lv' := [(4, .int (x4 + 6)), (0, .ref (lb X)), (1, .ref (lad X 0)), (2, .ref (lad2 X 0)), (3, .ref (lo X))]) 4 dL_law_1535 rfl rfl (by decide) rfl ?_
    refine L_goto (tgt := 23) dL_law_1538 (by decide) ?_
    exact L_up hk (L_sub [1, 2, 3, 4, 0] rfl (ih (x4 + 6) N118 N120 ov))
  · refine L_iconst (v := 0) dL_law_1042 (by decide) ?_
    exact L_ret0
def f_law_26 (L : Nat) (xs : Nat → Int32) (kn : Int32 → gM → gM → Int64 → Option Bool) (x4 : Int32) (M1 M2 : gM) (ov : Int64) : Option Bool := (g_ck (x4 + (1 : Int32)) L (g_ck (x4 + (2 : Int32)) L (g_b (f_X9_witness (xs (tn (x4 + (1 : Int32)))) (xs (tn (x4 + (2 : Int32)))) M1) (fun r121 N122 => (g_ck (x4 + (1 : Int32)) L (g_ck (x4 + (2 : Int32)) L (g_b (f_X10_witness (xs (tn (x4 + (1 : Int32)))) (xs (tn (x4 + (2 : Int32)))) M2) (fun r123 N124 => (if r121 = r123 then (kn (x4 + 6) N122 N124 ov) else (some false))))))))))
set_option maxRecDepth 100000 in
set_option maxHeartbeats 4000000 in
theorem o_law_26 {X : gXL} {k : Nat} {kn : Int32 → gM → gM → Int64 → Option Bool} (hk : k ≤ 512) (ih : ∀ (x4 : Int32) (M1 M2 : gM) (ov : Int64), GL X (k + 1) 23 [(0, .ref (lb X)), (1, .ref (lad X 0)), (2, .ref (lad2 X 0)), (3, .ref (lo X)), (4, .int x4)] [] M1 M2 ov (kn x4 M1 M2 ov)) (x4 : Int32) (M1 M2 : gM) (ov : Int64) : GL X k 1044 [(0, .ref (lb X)), (1, .ref (lad X 0)), (2, .ref (lad2 X 0)), (3, .ref (lo X)), (4, .int x4)] [] M1 M2 ov (f_law_26 (lL X) (lxs X) kn x4 M1 M2 ov) := by
  rw [f_law_26]
  refine L_aload_n 1 dL_law_1044 rfl rfl ?_
  refine L_aload_n 0 dL_law_1045 rfl rfl ?_
  refine L_iload 4 dL_law_1046 rfl ?_
  refine L_iconst (v := 1) dL_law_1048 (by decide) ?_
  refine L_iadd dL_law_1049 ?_
  refine L_sld dL_law_1050 ?_
  refine L_aload_n 0 dL_law_1051 rfl rfl ?_
  refine L_iload 4 dL_law_1052 rfl ?_
  refine L_iconst (v := 2) dL_law_1054 (by decide) ?_
  refine L_iadd dL_law_1055 ?_
  refine L_sld dL_law_1056 ?_
  refine L_c1i (As := [.int (lxs X (tn (x4 + (1 : Int32)))), .int (lxs X (tn (x4 + (2 : Int32))))]) (rest := []) (ok_X9_witness (lxs X (tn (x4 + (1 : Int32)))) (lxs X (tn (x4 + (2 : Int32)))) M1) rfl y1_0 rfl mv_L_132 dL_law_1057 rfl rfl (Nat.le_of_ble_eq_true rfl) (by decide) (fun r121 N122 => ?_)
  refine L_aload_n 2 dL_law_1060 rfl rfl ?_
  refine L_aload_n 0 dL_law_1061 rfl rfl ?_
  refine L_iload 4 dL_law_1062 rfl ?_
  refine L_iconst (v := 1) dL_law_1064 (by decide) ?_
  refine L_iadd dL_law_1065 ?_
  refine L_sld dL_law_1066 ?_
  refine L_aload_n 0 dL_law_1067 rfl rfl ?_
  refine L_iload 4 dL_law_1068 rfl ?_
  refine L_iconst (v := 2) dL_law_1070 (by decide) ?_
  refine L_iadd dL_law_1071 ?_
  refine L_sld dL_law_1072 ?_
  refine L_c2i (As := [.int (lxs X (tn (x4 + (1 : Int32)))), .int (lxs X (tn (x4 + (2 : Int32))))]) (rest := [.int r121]) (ok_X10_witness (lxs X (tn (x4 + (1 : Int32)))) (lxs X (tn (x4 + (2 : Int32)))) M2) rfl y2_0 rfl mv_L_135 dL_law_1073 rfl rfl (Nat.le_of_ble_eq_true rfl) (by decide) (fun r123 N124 => ?_)
  refine L_icmp_eq (tgt := 1535) dL_law_1076 (by decide) ?_ ?_
  · refine L_iinc (v := x4 + 6) (lv' := [(4, .int (x4 + 6)), (0, .ref (lb X)), (1, .ref (lad X 0)), (2, .ref (lad2 X 0)), (3, .ref (lo X))]) 4 dL_law_1535 rfl rfl (by decide) rfl ?_
    refine L_goto (tgt := 23) dL_law_1538 (by decide) ?_
    exact L_up hk (L_sub [1, 2, 3, 4, 0] rfl (ih (x4 + 6) N122 N124 ov))
  · refine L_iconst (v := 0) dL_law_1079 (by decide) ?_
    exact L_ret0
def f_law_27 (L : Nat) (xs : Nat → Int32) (kn : Int32 → gM → gM → Int64 → Option Bool) (x4 : Int32) (M1 M2 : gM) (ov : Int64) : Option Bool := (g_ck (x4 + (1 : Int32)) L (g_b (f_X9_arrives (xs (tn (x4 + (1 : Int32)))) M1) (fun r125 N126 => (g_ck (x4 + (1 : Int32)) L (g_b (f_X10_arrives (xs (tn (x4 + (1 : Int32)))) M2) (fun r127 N128 => (if r125 = r127 then (kn (x4 + 6) N126 N128 ov) else (some false))))))))
set_option maxRecDepth 100000 in
set_option maxHeartbeats 4000000 in
theorem o_law_27 {X : gXL} {k : Nat} {kn : Int32 → gM → gM → Int64 → Option Bool} (hk : k ≤ 512) (ih : ∀ (x4 : Int32) (M1 M2 : gM) (ov : Int64), GL X (k + 1) 23 [(0, .ref (lb X)), (1, .ref (lad X 0)), (2, .ref (lad2 X 0)), (3, .ref (lo X)), (4, .int x4)] [] M1 M2 ov (kn x4 M1 M2 ov)) (x4 : Int32) (M1 M2 : gM) (ov : Int64) : GL X k 1081 [(0, .ref (lb X)), (1, .ref (lad X 0)), (2, .ref (lad2 X 0)), (3, .ref (lo X)), (4, .int x4)] [] M1 M2 ov (f_law_27 (lL X) (lxs X) kn x4 M1 M2 ov) := by
  rw [f_law_27]
  refine L_aload_n 1 dL_law_1081 rfl rfl ?_
  refine L_aload_n 0 dL_law_1082 rfl rfl ?_
  refine L_iload 4 dL_law_1083 rfl ?_
  refine L_iconst (v := 1) dL_law_1085 (by decide) ?_
  refine L_iadd dL_law_1086 ?_
  refine L_sld dL_law_1087 ?_
  refine L_c1i (As := [.int (lxs X (tn (x4 + (1 : Int32))))]) (rest := []) (ok_X9_arrives (lxs X (tn (x4 + (1 : Int32)))) M1) rfl y1_0 rfl mv_L_136 dL_law_1088 rfl rfl (Nat.le_of_ble_eq_true rfl) (by decide) (fun r125 N126 => ?_)
  refine L_aload_n 2 dL_law_1091 rfl rfl ?_
  refine L_aload_n 0 dL_law_1092 rfl rfl ?_
  refine L_iload 4 dL_law_1093 rfl ?_
  refine L_iconst (v := 1) dL_law_1095 (by decide) ?_
  refine L_iadd dL_law_1096 ?_
  refine L_sld dL_law_1097 ?_
  refine L_c2i (As := [.int (lxs X (tn (x4 + (1 : Int32))))]) (rest := [.int r125]) (ok_X10_arrives (lxs X (tn (x4 + (1 : Int32)))) M2) rfl y2_0 rfl mv_L_139 dL_law_1098 rfl rfl (Nat.le_of_ble_eq_true rfl) (by decide) (fun r127 N128 => ?_)
  refine L_icmp_eq (tgt := 1535) dL_law_1101 (by decide) ?_ ?_
  · refine L_iinc (v := x4 + 6) (lv' := [(4, .int (x4 + 6)), (0, .ref (lb X)), (1, .ref (lad X 0)), (2, .ref (lad2 X 0)), (3, .ref (lo X))]) 4 dL_law_1535 rfl rfl (by decide) rfl ?_
    refine L_goto (tgt := 23) dL_law_1538 (by decide) ?_
    exact L_up hk (L_sub [1, 2, 3, 4, 0] rfl (ih (x4 + 6) N126 N128 ov))
  · refine L_iconst (v := 0) dL_law_1104 (by decide) ?_
    exact L_ret0
def f_law_28 (L : Nat) (xs : Nat → Int32) (kn : Int32 → gM → gM → Int64 → Option Bool) (x4 : Int32) (M1 M2 : gM) (ov : Int64) : Option Bool := (g_ck (x4 + (1 : Int32)) L (g_ck (x4 + (2 : Int32)) L (g_ck (x4 + (3 : Int32)) L (g_b (f_X9_odds (xs (tn (x4 + (1 : Int32)))) (xs (tn (x4 + (2 : Int32)))) (xs (tn (x4 + (3 : Int32)))) M1) (fun r129 N130 => (g_ck (x4 + (1 : Int32)) L (g_ck (x4 + (2 : Int32)) L (g_ck (x4 + (3 : Int32)) L (g_b (f_X10_odds (xs (tn (x4 + (1 : Int32)))) (xs (tn (x4 + (2 : Int32)))) (xs (tn (x4 + (3 : Int32)))) M2) (fun r131 N132 => (if (lg_cmp r129 r131) = 0 then (kn (x4 + 6) N130 N132 ov) else (some false))))))))))))
set_option maxRecDepth 100000 in
set_option maxHeartbeats 4000000 in
theorem o_law_28 {X : gXL} {k : Nat} {kn : Int32 → gM → gM → Int64 → Option Bool} (hk : k ≤ 512) (ih : ∀ (x4 : Int32) (M1 M2 : gM) (ov : Int64), GL X (k + 1) 23 [(0, .ref (lb X)), (1, .ref (lad X 0)), (2, .ref (lad2 X 0)), (3, .ref (lo X)), (4, .int x4)] [] M1 M2 ov (kn x4 M1 M2 ov)) (x4 : Int32) (M1 M2 : gM) (ov : Int64) : GL X k 1106 [(0, .ref (lb X)), (1, .ref (lad X 0)), (2, .ref (lad2 X 0)), (3, .ref (lo X)), (4, .int x4)] [] M1 M2 ov (f_law_28 (lL X) (lxs X) kn x4 M1 M2 ov) := by
  rw [f_law_28]
  refine L_aload_n 1 dL_law_1106 rfl rfl ?_
  refine L_aload_n 0 dL_law_1107 rfl rfl ?_
  refine L_iload 4 dL_law_1108 rfl ?_
  refine L_iconst (v := 1) dL_law_1110 (by decide) ?_
  refine L_iadd dL_law_1111 ?_
  refine L_sld dL_law_1112 ?_
  refine L_aload_n 0 dL_law_1113 rfl rfl ?_
  refine L_iload 4 dL_law_1114 rfl ?_
  refine L_iconst (v := 2) dL_law_1116 (by decide) ?_
  refine L_iadd dL_law_1117 ?_
  refine L_sld dL_law_1118 ?_
  refine L_aload_n 0 dL_law_1119 rfl rfl ?_
  refine L_iload 4 dL_law_1120 rfl ?_
  refine L_iconst (v := 3) dL_law_1122 (by decide) ?_
  refine L_iadd dL_law_1123 ?_
  refine L_sld dL_law_1124 ?_
  refine L_c1l (As := [.int (lxs X (tn (x4 + (1 : Int32)))), .int (lxs X (tn (x4 + (2 : Int32)))), .int (lxs X (tn (x4 + (3 : Int32))))]) (rest := []) (ok_X9_odds (lxs X (tn (x4 + (1 : Int32)))) (lxs X (tn (x4 + (2 : Int32)))) (lxs X (tn (x4 + (3 : Int32)))) M1) rfl y1_0 rfl mv_L_140 dL_law_1125 rfl rfl (Nat.le_of_ble_eq_true rfl) (by decide) (fun r129 N130 => ?_)
  refine L_aload_n 2 dL_law_1128 rfl rfl ?_
  refine L_aload_n 0 dL_law_1129 rfl rfl ?_
  refine L_iload 4 dL_law_1130 rfl ?_
  refine L_iconst (v := 1) dL_law_1132 (by decide) ?_
  refine L_iadd dL_law_1133 ?_
  refine L_sld dL_law_1134 ?_
  refine L_aload_n 0 dL_law_1135 rfl rfl ?_
  refine L_iload 4 dL_law_1136 rfl ?_
  refine L_iconst (v := 2) dL_law_1138 (by decide) ?_
  refine L_iadd dL_law_1139 ?_
  refine L_sld dL_law_1140 ?_
  refine L_aload_n 0 dL_law_1141 rfl rfl ?_
  refine L_iload 4 dL_law_1142 rfl ?_
  refine L_iconst (v := 3) dL_law_1144 (by decide) ?_
  refine L_iadd dL_law_1145 ?_
  refine L_sld dL_law_1146 ?_
  refine L_c2l (As := [.int (lxs X (tn (x4 + (1 : Int32)))), .int (lxs X (tn (x4 + (2 : Int32)))), .int (lxs X (tn (x4 + (3 : Int32))))]) (rest := [.long r129]) (ok_X10_odds (lxs X (tn (x4 + (1 : Int32)))) (lxs X (tn (x4 + (2 : Int32)))) (lxs X (tn (x4 + (3 : Int32)))) M2) rfl y2_0 rfl mv_L_144 dL_law_1147 rfl rfl (Nat.le_of_ble_eq_true rfl) (by decide) (fun r131 N132 => ?_)
  refine L_lcmp dL_law_1150 ?_
  refine L_if_eq (tgt := 1535) dL_law_1151 (by decide) ?_ ?_
  · refine L_iinc (v := x4 + 6) (lv' := [(4, .int (x4 + 6)), (0, .ref (lb X)), (1, .ref (lad X 0)), (2, .ref (lad2 X 0)), (3, .ref (lo X))]) 4 dL_law_1535 rfl rfl (by decide) rfl ?_
    refine L_goto (tgt := 23) dL_law_1538 (by decide) ?_
    exact L_up hk (L_sub [1, 2, 3, 4, 0] rfl (ih (x4 + 6) N130 N132 ov))
  · refine L_iconst (v := 0) dL_law_1154 (by decide) ?_
    exact L_ret0
def f_law_29 (L : Nat) (xs : Nat → Int32) (kn : Int32 → gM → gM → Int64 → Option Bool) (x4 : Int32) (M1 M2 : gM) (ov : Int64) : Option Bool := (g_ck (x4 + (1 : Int32)) L (g_b (f_X9_learn (xs (tn (x4 + (1 : Int32)))) M1) (fun r133 N134 => (g_ck (x4 + (1 : Int32)) L (g_b (f_X10_learn (xs (tn (x4 + (1 : Int32)))) M2) (fun r135 N136 => (if r133 = r135 then (kn (x4 + 6) N134 N136 ov) else (some false))))))))
set_option maxRecDepth 100000 in
set_option maxHeartbeats 4000000 in
theorem o_law_29 {X : gXL} {k : Nat} {kn : Int32 → gM → gM → Int64 → Option Bool} (hk : k ≤ 512) (ih : ∀ (x4 : Int32) (M1 M2 : gM) (ov : Int64), GL X (k + 1) 23 [(0, .ref (lb X)), (1, .ref (lad X 0)), (2, .ref (lad2 X 0)), (3, .ref (lo X)), (4, .int x4)] [] M1 M2 ov (kn x4 M1 M2 ov)) (x4 : Int32) (M1 M2 : gM) (ov : Int64) : GL X k 1156 [(0, .ref (lb X)), (1, .ref (lad X 0)), (2, .ref (lad2 X 0)), (3, .ref (lo X)), (4, .int x4)] [] M1 M2 ov (f_law_29 (lL X) (lxs X) kn x4 M1 M2 ov) := by
  rw [f_law_29]
  refine L_aload_n 1 dL_law_1156 rfl rfl ?_
  refine L_aload_n 0 dL_law_1157 rfl rfl ?_
  refine L_iload 4 dL_law_1158 rfl ?_
  refine L_iconst (v := 1) dL_law_1160 (by decide) ?_
  refine L_iadd dL_law_1161 ?_
  refine L_sld dL_law_1162 ?_
  refine L_c1i (As := [.int (lxs X (tn (x4 + (1 : Int32))))]) (rest := []) (ok_X9_learn (lxs X (tn (x4 + (1 : Int32)))) M1) rfl y1_0 rfl mv_L_145 dL_law_1163 rfl rfl (Nat.le_of_ble_eq_true rfl) (by decide) (fun r133 N134 => ?_)
  refine L_aload_n 2 dL_law_1166 rfl rfl ?_
  refine L_aload_n 0 dL_law_1167 rfl rfl ?_
  refine L_iload 4 dL_law_1168 rfl ?_
  refine L_iconst (v := 1) dL_law_1170 (by decide) ?_
  refine L_iadd dL_law_1171 ?_
  refine L_sld dL_law_1172 ?_
  refine L_c2i (As := [.int (lxs X (tn (x4 + (1 : Int32))))]) (rest := [.int r133]) (ok_X10_learn (lxs X (tn (x4 + (1 : Int32)))) M2) rfl y2_0 rfl mv_L_148 dL_law_1173 rfl rfl (Nat.le_of_ble_eq_true rfl) (by decide) (fun r135 N136 => ?_)
  refine L_icmp_eq (tgt := 1535) dL_law_1176 (by decide) ?_ ?_
  · refine L_iinc (v := x4 + 6) (lv' := [(4, .int (x4 + 6)), (0, .ref (lb X)), (1, .ref (lad X 0)), (2, .ref (lad2 X 0)), (3, .ref (lo X))]) 4 dL_law_1535 rfl rfl (by decide) rfl ?_
    refine L_goto (tgt := 23) dL_law_1538 (by decide) ?_
    exact L_up hk (L_sub [1, 2, 3, 4, 0] rfl (ih (x4 + 6) N134 N136 ov))
  · refine L_iconst (v := 0) dL_law_1179 (by decide) ?_
    exact L_ret0
def f_law_30 (L : Nat) (xs : Nat → Int32) (kn : Int32 → gM → gM → Int64 → Option Bool) (x4 : Int32) (M1 M2 : gM) (ov : Int64) : Option Bool := (g_ck (x4 + (1 : Int32)) L (g_b (f_X9_learned (xs (tn (x4 + (1 : Int32)))) M1) (fun r137 N138 => (g_ck (x4 + (1 : Int32)) L (g_b (f_X10_learned (xs (tn (x4 + (1 : Int32)))) M2) (fun r139 N140 => (if r137 = r139 then (kn (x4 + 6) N138 N140 ov) else (some false))))))))
set_option maxRecDepth 100000 in
set_option maxHeartbeats 4000000 in
theorem o_law_30 {X : gXL} {k : Nat} {kn : Int32 → gM → gM → Int64 → Option Bool} (hk : k ≤ 512) (ih : ∀ (x4 : Int32) (M1 M2 : gM) (ov : Int64), GL X (k + 1) 23 [(0, .ref (lb X)), (1, .ref (lad X 0)), (2, .ref (lad2 X 0)), (3, .ref (lo X)), (4, .int x4)] [] M1 M2 ov (kn x4 M1 M2 ov)) (x4 : Int32) (M1 M2 : gM) (ov : Int64) : GL X k 1181 [(0, .ref (lb X)), (1, .ref (lad X 0)), (2, .ref (lad2 X 0)), (3, .ref (lo X)), (4, .int x4)] [] M1 M2 ov (f_law_30 (lL X) (lxs X) kn x4 M1 M2 ov) := by
  rw [f_law_30]
  refine L_aload_n 1 dL_law_1181 rfl rfl ?_
  refine L_aload_n 0 dL_law_1182 rfl rfl ?_
  refine L_iload 4 dL_law_1183 rfl ?_
  refine L_iconst (v := 1) dL_law_1185 (by decide) ?_
  refine L_iadd dL_law_1186 ?_
  refine L_sld dL_law_1187 ?_
  refine L_c1i (As := [.int (lxs X (tn (x4 + (1 : Int32))))]) (rest := []) (ok_X9_learned (lxs X (tn (x4 + (1 : Int32)))) M1) rfl y1_0 rfl mv_L_149 dL_law_1188 rfl rfl (Nat.le_of_ble_eq_true rfl) (by decide) (fun r137 N138 => ?_)
  refine L_aload_n 2 dL_law_1191 rfl rfl ?_
  refine L_aload_n 0 dL_law_1192 rfl rfl ?_
  refine L_iload 4 dL_law_1193 rfl ?_
  refine L_iconst (v := 1) dL_law_1195 (by decide) ?_
  refine L_iadd dL_law_1196 ?_
  refine L_sld dL_law_1197 ?_
  refine L_c2i (As := [.int (lxs X (tn (x4 + (1 : Int32))))]) (rest := [.int r137]) (ok_X10_learned (lxs X (tn (x4 + (1 : Int32)))) M2) rfl y2_0 rfl mv_L_152 dL_law_1198 rfl rfl (Nat.le_of_ble_eq_true rfl) (by decide) (fun r139 N140 => ?_)
  refine L_icmp_eq (tgt := 1535) dL_law_1201 (by decide) ?_ ?_
  · refine L_iinc (v := x4 + 6) (lv' := [(4, .int (x4 + 6)), (0, .ref (lb X)), (1, .ref (lad X 0)), (2, .ref (lad2 X 0)), (3, .ref (lo X))]) 4 dL_law_1535 rfl rfl (by decide) rfl ?_
    refine L_goto (tgt := 23) dL_law_1538 (by decide) ?_
    exact L_up hk (L_sub [1, 2, 3, 4, 0] rfl (ih (x4 + 6) N138 N140 ov))
  · refine L_iconst (v := 0) dL_law_1204 (by decide) ?_
    exact L_ret0
def f_law_31 (L : Nat) (xs : Nat → Int32) (kn : Int32 → gM → gM → Int64 → Option Bool) (x4 : Int32) (M1 M2 : gM) (ov : Int64) : Option Bool := (g_b (f_X9_forget M1) (fun r141 N142 => (g_b (f_X10_forget M2) (fun r143 N144 => (if r141 = r143 then (kn (x4 + 6) N142 N144 ov) else (some false))))))
set_option maxRecDepth 100000 in
set_option maxHeartbeats 4000000 in
theorem o_law_31 {X : gXL} {k : Nat} {kn : Int32 → gM → gM → Int64 → Option Bool} (hk : k ≤ 512) (ih : ∀ (x4 : Int32) (M1 M2 : gM) (ov : Int64), GL X (k + 1) 23 [(0, .ref (lb X)), (1, .ref (lad X 0)), (2, .ref (lad2 X 0)), (3, .ref (lo X)), (4, .int x4)] [] M1 M2 ov (kn x4 M1 M2 ov)) (x4 : Int32) (M1 M2 : gM) (ov : Int64) : GL X k 1206 [(0, .ref (lb X)), (1, .ref (lad X 0)), (2, .ref (lad2 X 0)), (3, .ref (lo X)), (4, .int x4)] [] M1 M2 ov (f_law_31 (lL X) (lxs X) kn x4 M1 M2 ov) := by
  rw [f_law_31]
  refine L_aload_n 1 dL_law_1206 rfl rfl ?_
  refine L_c1i (As := []) (rest := []) (ok_X9_forget M1) rfl y1_0 rfl mv_L_153 dL_law_1207 rfl rfl (Nat.le_of_ble_eq_true rfl) (by decide) (fun r141 N142 => ?_)
  refine L_aload_n 2 dL_law_1210 rfl rfl ?_
  refine L_c2i (As := []) (rest := [.int r141]) (ok_X10_forget M2) rfl y2_0 rfl mv_L_156 dL_law_1211 rfl rfl (Nat.le_of_ble_eq_true rfl) (by decide) (fun r143 N144 => ?_)
  refine L_icmp_eq (tgt := 1535) dL_law_1214 (by decide) ?_ ?_
  · refine L_iinc (v := x4 + 6) (lv' := [(4, .int (x4 + 6)), (0, .ref (lb X)), (1, .ref (lad X 0)), (2, .ref (lad2 X 0)), (3, .ref (lo X))]) 4 dL_law_1535 rfl rfl (by decide) rfl ?_
    refine L_goto (tgt := 23) dL_law_1538 (by decide) ?_
    exact L_up hk (L_sub [1, 2, 3, 4, 0] rfl (ih (x4 + 6) N142 N144 ov))
  · refine L_iconst (v := 0) dL_law_1217 (by decide) ?_
    exact L_ret0
def f_law_32 (L : Nat) (xs : Nat → Int32) (kn : Int32 → gM → gM → Int64 → Option Bool) (x4 : Int32) (M1 M2 : gM) (ov : Int64) : Option Bool := (g_ck (x4 + (1 : Int32)) L (g_b (f_X9_stand (xs (tn (x4 + (1 : Int32)))) M1) (fun r145 N146 => (g_ck (x4 + (1 : Int32)) L (g_b (f_X10_stand (xs (tn (x4 + (1 : Int32)))) M2) (fun r147 N148 => (if (b2i r145) = (b2i r147) then (kn (x4 + 6) N146 N148 ov) else (some false))))))))
set_option maxRecDepth 100000 in
set_option maxHeartbeats 4000000 in
theorem o_law_32 {X : gXL} {k : Nat} {kn : Int32 → gM → gM → Int64 → Option Bool} (hk : k ≤ 512) (ih : ∀ (x4 : Int32) (M1 M2 : gM) (ov : Int64), GL X (k + 1) 23 [(0, .ref (lb X)), (1, .ref (lad X 0)), (2, .ref (lad2 X 0)), (3, .ref (lo X)), (4, .int x4)] [] M1 M2 ov (kn x4 M1 M2 ov)) (x4 : Int32) (M1 M2 : gM) (ov : Int64) : GL X k 1219 [(0, .ref (lb X)), (1, .ref (lad X 0)), (2, .ref (lad2 X 0)), (3, .ref (lo X)), (4, .int x4)] [] M1 M2 ov (f_law_32 (lL X) (lxs X) kn x4 M1 M2 ov) := by
  rw [f_law_32]
  refine L_aload_n 1 dL_law_1219 rfl rfl ?_
  refine L_aload_n 0 dL_law_1220 rfl rfl ?_
  refine L_iload 4 dL_law_1221 rfl ?_
  refine L_iconst (v := 1) dL_law_1223 (by decide) ?_
  refine L_iadd dL_law_1224 ?_
  refine L_sld dL_law_1225 ?_
  refine L_c1b (As := [.int (lxs X (tn (x4 + (1 : Int32))))]) (rest := []) (ok_X9_stand (lxs X (tn (x4 + (1 : Int32)))) M1) rfl y1_0 rfl mv_L_157 dL_law_1226 rfl rfl (Nat.le_of_ble_eq_true rfl) (by decide) (fun r145 N146 => ?_)
  refine L_aload_n 2 dL_law_1229 rfl rfl ?_
  refine L_aload_n 0 dL_law_1230 rfl rfl ?_
  refine L_iload 4 dL_law_1231 rfl ?_
  refine L_iconst (v := 1) dL_law_1233 (by decide) ?_
  refine L_iadd dL_law_1234 ?_
  refine L_sld dL_law_1235 ?_
  refine L_c2b (As := [.int (lxs X (tn (x4 + (1 : Int32))))]) (rest := [.int (b2i r145)]) (ok_X10_stand (lxs X (tn (x4 + (1 : Int32)))) M2) rfl y2_0 rfl mv_L_160 dL_law_1236 rfl rfl (Nat.le_of_ble_eq_true rfl) (by decide) (fun r147 N148 => ?_)
  refine L_icmp_eq (tgt := 1535) dL_law_1239 (by decide) ?_ ?_
  · refine L_iinc (v := x4 + 6) (lv' := [(4, .int (x4 + 6)), (0, .ref (lb X)), (1, .ref (lad X 0)), (2, .ref (lad2 X 0)), (3, .ref (lo X))]) 4 dL_law_1535 rfl rfl (by decide) rfl ?_
    refine L_goto (tgt := 23) dL_law_1538 (by decide) ?_
    exact L_up hk (L_sub [1, 2, 3, 4, 0] rfl (ih (x4 + 6) N146 N148 ov))
  · refine L_iconst (v := 0) dL_law_1242 (by decide) ?_
    exact L_ret0
def f_law_33 (L : Nat) (xs : Nat → Int32) (kn : Int32 → gM → gM → Int64 → Option Bool) (x4 : Int32) (M1 M2 : gM) (ov : Int64) : Option Bool := (g_ck (x4 + (1 : Int32)) L (g_ck (x4 + (2 : Int32)) L (g_b (f_X9_beat (xs (tn (x4 + (1 : Int32)))) (xs (tn (x4 + (2 : Int32)))) M1) (fun r149 N150 => (g_ck (x4 + (1 : Int32)) L (g_ck (x4 + (2 : Int32)) L (g_b (f_X10_beat (xs (tn (x4 + (1 : Int32)))) (xs (tn (x4 + (2 : Int32)))) M2) (fun r151 N152 => (g_b (f_X10_thrown N152) (fun r153 N154 => (if r153 = (nI r149.1) then (if (nI r149.1) = 0 then (if (lg_cmp (if r149.1 = 0 then r149.2.toInt64 else ov) r151.toInt64) = 0 then (kn (x4 + 6) N150 N154 (if r149.1 = 0 then r149.2.toInt64 else ov)) else (some false)) else (kn (x4 + 6) N150 N154 (if r149.1 = 0 then r149.2.toInt64 else ov))) else (some false))))))))))))
set_option maxRecDepth 100000 in
set_option maxHeartbeats 4000000 in
theorem o_law_33 {X : gXL} {k : Nat} {kn : Int32 → gM → gM → Int64 → Option Bool} (hk : k ≤ 512) (ih : ∀ (x4 : Int32) (M1 M2 : gM) (ov : Int64), GL X (k + 1) 23 [(0, .ref (lb X)), (1, .ref (lad X 0)), (2, .ref (lad2 X 0)), (3, .ref (lo X)), (4, .int x4)] [] M1 M2 ov (kn x4 M1 M2 ov)) (x4 : Int32) (M1 M2 : gM) (ov : Int64) : GL X k 1244 [(0, .ref (lb X)), (1, .ref (lad X 0)), (2, .ref (lad2 X 0)), (3, .ref (lo X)), (4, .int x4)] [] M1 M2 ov (f_law_33 (lL X) (lxs X) kn x4 M1 M2 ov) := by
  rw [f_law_33]
  refine L_aload_n 1 dL_law_1244 rfl rfl ?_
  refine L_aload_n 0 dL_law_1245 rfl rfl ?_
  refine L_iload 4 dL_law_1246 rfl ?_
  refine L_iconst (v := 1) dL_law_1248 (by decide) ?_
  refine L_iadd dL_law_1249 ?_
  refine L_sld dL_law_1250 ?_
  refine L_aload_n 0 dL_law_1251 rfl rfl ?_
  refine L_iload 4 dL_law_1252 rfl ?_
  refine L_iconst (v := 2) dL_law_1254 (by decide) ?_
  refine L_iadd dL_law_1255 ?_
  refine L_sld dL_law_1256 ?_
  refine L_aload_n 3 dL_law_1257 rfl rfl ?_
  refine L_beat dL_law_1258 hk (Nat.le_of_ble_eq_true rfl) (rest := []) (fun r149 N150 => ?_)
  refine L_istore (lv' := [(5, .int (nI r149.1)), (0, .ref (lb X)), (1, .ref (lad X 0)), (2, .ref (lad2 X 0)), (3, .ref (lo X)), (4, .int x4)]) dL_law_1261 (by decide) rfl ?_
  refine L_aload_n 3 dL_law_1263 rfl rfl ?_
  refine L_aload_n 1 dL_law_1264 rfl rfl ?_
  refine L_iload 5 dL_law_1265 rfl ?_
  refine L_iconst (v := 1) dL_law_1267 (by decide) ?_
  refine L_iadd dL_law_1268 ?_
  refine L_sld dL_law_1269 ?_
  refine L_aload_n 1 dL_law_1270 rfl rfl ?_
  refine L_iload 5 dL_law_1271 rfl ?_
  refine L_iconst (v := 2) dL_law_1273 (by decide) ?_
  refine L_iadd dL_law_1274 ?_
  refine L_sld dL_law_1275 ?_
  refine L_c2i (As := [.int (lxs X (tn (x4 + (1 : Int32)))), .int (lxs X (tn (x4 + (2 : Int32))))]) (rest := []) (ok_X10_beat (lxs X (tn (x4 + (1 : Int32)))) (lxs X (tn (x4 + (2 : Int32)))) M2) rfl y2_0 rfl mv_L_166 dL_law_1276 rfl rfl (Nat.le_of_ble_eq_true rfl) (by decide) (fun r151 N152 => ?_)
  refine L_istore (lv' := [(6, .int r151), (5, .int (nI r149.1)), (0, .ref (lb X)), (1, .ref (lad X 0)), (2, .ref (lad2 X 0)), (3, .ref (lo X)), (4, .int x4)]) dL_law_1279 (by decide) rfl ?_
  refine L_aload_n 4 dL_law_1281 rfl rfl ?_
  refine L_c2i (As := []) (rest := []) (ok_X10_thrown N152) rfl y2_0 rfl mv_L_167 dL_law_1282 rfl rfl (Nat.le_of_ble_eq_true rfl) (by decide) (fun r153 N154 => ?_)
  refine L_iload 1 dL_law_1285 rfl ?_
  refine L_icmp_eq (tgt := 1292) dL_law_1287 (by decide) ?_ ?_
  · refine L_iload 1 dL_law_1292 rfl ?_
    refine L_if_ne (tgt := 1309) dL_law_1294 (by decide) ?_ ?_
    · refine L_goto (tgt := 1535) dL_law_1309 (by decide) ?_
      refine L_iinc (v := x4 + 6) (lv' := [(4, .int (x4 + 6)), (6, .int r151), (5, .int (nI r149.1)), (0, .ref (lb X)), (1, .ref (lad X 0)), (2, .ref (lad2 X 0)), (3, .ref (lo X))]) 6 dL_law_1535 rfl rfl (by decide) rfl ?_
      refine L_goto (tgt := 23) dL_law_1538 (by decide) ?_
      exact L_sub [3, 4, 5, 6, 0] rfl (ih (x4 + 6) N150 N154 (if r149.1 = 0 then r149.2.toInt64 else ov))
    · refine L_aload_n 5 dL_law_1297 rfl rfl ?_
      refine L_iconst (v := 0) dL_law_1298 (by decide) ?_
      refine L_old dL_law_1299 ?_
      refine L_iload 0 dL_law_1300 rfl ?_
      refine L_i2l dL_law_1302 ?_
      refine L_lcmp dL_law_1303 ?_
      refine L_if_eq (tgt := 1309) dL_law_1304 (by decide) ?_ ?_
      · refine L_goto (tgt := 1535) dL_law_1309 (by decide) ?_
        refine L_iinc (v := x4 + 6) (lv' := [(4, .int (x4 + 6)), (6, .int r151), (5, .int (nI r149.1)), (0, .ref (lb X)), (1, .ref (lad X 0)), (2, .ref (lad2 X 0)), (3, .ref (lo X))]) 6 dL_law_1535 rfl rfl (by decide) rfl ?_
        refine L_goto (tgt := 23) dL_law_1538 (by decide) ?_
        exact L_sub [3, 4, 5, 6, 0] rfl (ih (x4 + 6) N150 N154 (if r149.1 = 0 then r149.2.toInt64 else ov))
      · refine L_iconst (v := 0) dL_law_1307 (by decide) ?_
        exact L_ret0
  · refine L_iconst (v := 0) dL_law_1290 (by decide) ?_
    exact L_ret0
def f_law_34 (L : Nat) (xs : Nat → Int32) (kn : Int32 → gM → gM → Int64 → Option Bool) (x4 : Int32) (M1 M2 : gM) (ov : Int64) : Option Bool := (g_b (f_X9_undo M1) (fun r155 N156 => (g_b (f_X10_undo M2) (fun r157 N158 => (if (b2i r155) = (b2i r157) then (kn (x4 + 6) N156 N158 ov) else (some false))))))
set_option maxRecDepth 100000 in
set_option maxHeartbeats 4000000 in
theorem o_law_34 {X : gXL} {k : Nat} {kn : Int32 → gM → gM → Int64 → Option Bool} (hk : k ≤ 512) (ih : ∀ (x4 : Int32) (M1 M2 : gM) (ov : Int64), GL X (k + 1) 23 [(0, .ref (lb X)), (1, .ref (lad X 0)), (2, .ref (lad2 X 0)), (3, .ref (lo X)), (4, .int x4)] [] M1 M2 ov (kn x4 M1 M2 ov)) (x4 : Int32) (M1 M2 : gM) (ov : Int64) : GL X k 1312 [(0, .ref (lb X)), (1, .ref (lad X 0)), (2, .ref (lad2 X 0)), (3, .ref (lo X)), (4, .int x4)] [] M1 M2 ov (f_law_34 (lL X) (lxs X) kn x4 M1 M2 ov) := by
  rw [f_law_34]
  refine L_aload_n 1 dL_law_1312 rfl rfl ?_
  refine L_c1b (As := []) (rest := []) (ok_X9_undo M1) rfl y1_0 rfl mv_L_170 dL_law_1313 rfl rfl (Nat.le_of_ble_eq_true rfl) (by decide) (fun r155 N156 => ?_)
  refine L_aload_n 2 dL_law_1316 rfl rfl ?_
  refine L_c2b (As := []) (rest := [.int (b2i r155)]) (ok_X10_undo M2) rfl y2_0 rfl mv_L_174 dL_law_1317 rfl rfl (Nat.le_of_ble_eq_true rfl) (by decide) (fun r157 N158 => ?_)
  refine L_icmp_eq (tgt := 1535) dL_law_1320 (by decide) ?_ ?_
  · refine L_iinc (v := x4 + 6) (lv' := [(4, .int (x4 + 6)), (0, .ref (lb X)), (1, .ref (lad X 0)), (2, .ref (lad2 X 0)), (3, .ref (lo X))]) 4 dL_law_1535 rfl rfl (by decide) rfl ?_
    refine L_goto (tgt := 23) dL_law_1538 (by decide) ?_
    exact L_up hk (L_sub [1, 2, 3, 4, 0] rfl (ih (x4 + 6) N156 N158 ov))
  · refine L_iconst (v := 0) dL_law_1323 (by decide) ?_
    exact L_ret0
def f_law_35 (L : Nat) (xs : Nat → Int32) (kn : Int32 → gM → gM → Int64 → Option Bool) (x4 : Int32) (M1 M2 : gM) (ov : Int64) : Option Bool := (g_ck (x4 + (1 : Int32)) L (g_ck (x4 + (2 : Int32)) L (g_b (f_X9_walked (xs (tn (x4 + (1 : Int32)))) (xs (tn (x4 + (2 : Int32)))) M1) (fun r159 N160 => (g_ck (x4 + (1 : Int32)) L (g_ck (x4 + (2 : Int32)) L (g_b (f_X10_walked (xs (tn (x4 + (1 : Int32)))) (xs (tn (x4 + (2 : Int32)))) M2) (fun r161 N162 => (if r159 = r161 then (kn (x4 + 6) N160 N162 ov) else (some false))))))))))
set_option maxRecDepth 100000 in
set_option maxHeartbeats 4000000 in
theorem o_law_35 {X : gXL} {k : Nat} {kn : Int32 → gM → gM → Int64 → Option Bool} (hk : k ≤ 512) (ih : ∀ (x4 : Int32) (M1 M2 : gM) (ov : Int64), GL X (k + 1) 23 [(0, .ref (lb X)), (1, .ref (lad X 0)), (2, .ref (lad2 X 0)), (3, .ref (lo X)), (4, .int x4)] [] M1 M2 ov (kn x4 M1 M2 ov)) (x4 : Int32) (M1 M2 : gM) (ov : Int64) : GL X k 1325 [(0, .ref (lb X)), (1, .ref (lad X 0)), (2, .ref (lad2 X 0)), (3, .ref (lo X)), (4, .int x4)] [] M1 M2 ov (f_law_35 (lL X) (lxs X) kn x4 M1 M2 ov) := by
  rw [f_law_35]
  refine L_aload_n 1 dL_law_1325 rfl rfl ?_
  refine L_aload_n 0 dL_law_1326 rfl rfl ?_
  refine L_iload 4 dL_law_1327 rfl ?_
  refine L_iconst (v := 1) dL_law_1329 (by decide) ?_
  refine L_iadd dL_law_1330 ?_
  refine L_sld dL_law_1331 ?_
  refine L_aload_n 0 dL_law_1332 rfl rfl ?_
  refine L_iload 4 dL_law_1333 rfl ?_
  refine L_iconst (v := 2) dL_law_1335 (by decide) ?_
  refine L_iadd dL_law_1336 ?_
  refine L_sld dL_law_1337 ?_
  refine L_c1i (As := [.int (lxs X (tn (x4 + (1 : Int32)))), .int (lxs X (tn (x4 + (2 : Int32))))]) (rest := []) (ok_X9_walked (lxs X (tn (x4 + (1 : Int32)))) (lxs X (tn (x4 + (2 : Int32)))) M1) rfl y1_0 rfl mv_L_175 dL_law_1338 rfl rfl (Nat.le_of_ble_eq_true rfl) (by decide) (fun r159 N160 => ?_)
  refine L_aload_n 2 dL_law_1341 rfl rfl ?_
  refine L_aload_n 0 dL_law_1342 rfl rfl ?_
  refine L_iload 4 dL_law_1343 rfl ?_
  refine L_iconst (v := 1) dL_law_1345 (by decide) ?_
  refine L_iadd dL_law_1346 ?_
  refine L_sld dL_law_1347 ?_
  refine L_aload_n 0 dL_law_1348 rfl rfl ?_
  refine L_iload 4 dL_law_1349 rfl ?_
  refine L_iconst (v := 2) dL_law_1351 (by decide) ?_
  refine L_iadd dL_law_1352 ?_
  refine L_sld dL_law_1353 ?_
  refine L_c2i (As := [.int (lxs X (tn (x4 + (1 : Int32)))), .int (lxs X (tn (x4 + (2 : Int32))))]) (rest := [.int r159]) (ok_X10_walked (lxs X (tn (x4 + (1 : Int32)))) (lxs X (tn (x4 + (2 : Int32)))) M2) rfl y2_0 rfl mv_L_178 dL_law_1354 rfl rfl (Nat.le_of_ble_eq_true rfl) (by decide) (fun r161 N162 => ?_)
  refine L_icmp_eq (tgt := 1535) dL_law_1357 (by decide) ?_ ?_
  · refine L_iinc (v := x4 + 6) (lv' := [(4, .int (x4 + 6)), (0, .ref (lb X)), (1, .ref (lad X 0)), (2, .ref (lad2 X 0)), (3, .ref (lo X))]) 4 dL_law_1535 rfl rfl (by decide) rfl ?_
    refine L_goto (tgt := 23) dL_law_1538 (by decide) ?_
    exact L_up hk (L_sub [1, 2, 3, 4, 0] rfl (ih (x4 + 6) N160 N162 ov))
  · refine L_iconst (v := 0) dL_law_1360 (by decide) ?_
    exact L_ret0
def f_law_36 (L : Nat) (xs : Nat → Int32) (kn : Int32 → gM → gM → Int64 → Option Bool) (x4 : Int32) (M1 M2 : gM) (ov : Int64) : Option Bool := (g_b (f_X9_blame M1) (fun r163 N164 => (g_b (f_X10_blame M2) (fun r165 N166 => (if r163 = r165 then (kn (x4 + 6) N164 N166 ov) else (some false))))))
set_option maxRecDepth 100000 in
set_option maxHeartbeats 4000000 in
theorem o_law_36 {X : gXL} {k : Nat} {kn : Int32 → gM → gM → Int64 → Option Bool} (hk : k ≤ 512) (ih : ∀ (x4 : Int32) (M1 M2 : gM) (ov : Int64), GL X (k + 1) 23 [(0, .ref (lb X)), (1, .ref (lad X 0)), (2, .ref (lad2 X 0)), (3, .ref (lo X)), (4, .int x4)] [] M1 M2 ov (kn x4 M1 M2 ov)) (x4 : Int32) (M1 M2 : gM) (ov : Int64) : GL X k 1362 [(0, .ref (lb X)), (1, .ref (lad X 0)), (2, .ref (lad2 X 0)), (3, .ref (lo X)), (4, .int x4)] [] M1 M2 ov (f_law_36 (lL X) (lxs X) kn x4 M1 M2 ov) := by
  rw [f_law_36]
  refine L_aload_n 1 dL_law_1362 rfl rfl ?_
  refine L_c1i (As := []) (rest := []) (ok_X9_blame M1) rfl y1_0 rfl mv_L_179 dL_law_1363 rfl rfl (Nat.le_of_ble_eq_true rfl) (by decide) (fun r163 N164 => ?_)
  refine L_aload_n 2 dL_law_1366 rfl rfl ?_
  refine L_c2i (As := []) (rest := [.int r163]) (ok_X10_blame M2) rfl y2_0 rfl mv_L_182 dL_law_1367 rfl rfl (Nat.le_of_ble_eq_true rfl) (by decide) (fun r165 N166 => ?_)
  refine L_icmp_eq (tgt := 1535) dL_law_1370 (by decide) ?_ ?_
  · refine L_iinc (v := x4 + 6) (lv' := [(4, .int (x4 + 6)), (0, .ref (lb X)), (1, .ref (lad X 0)), (2, .ref (lad2 X 0)), (3, .ref (lo X))]) 4 dL_law_1535 rfl rfl (by decide) rfl ?_
    refine L_goto (tgt := 23) dL_law_1538 (by decide) ?_
    exact L_up hk (L_sub [1, 2, 3, 4, 0] rfl (ih (x4 + 6) N164 N166 ov))
  · refine L_iconst (v := 0) dL_law_1373 (by decide) ?_
    exact L_ret0
def f_law_37 (L : Nat) (xs : Nat → Int32) (kn : Int32 → gM → gM → Int64 → Option Bool) (x4 : Int32) (M1 M2 : gM) (ov : Int64) : Option Bool := (g_ck (x4 + (1 : Int32)) L (g_ck (x4 + (2 : Int32)) L (g_ck (x4 + (3 : Int32)) L (g_ck (x4 + (4 : Int32)) L (g_ck (x4 + (5 : Int32)) L (g_b (f_X9_drill (xs (tn (x4 + (1 : Int32)))) (xs (tn (x4 + (2 : Int32)))) (xs (tn (x4 + (3 : Int32)))) (xs (tn (x4 + (4 : Int32)))) (xs (tn (x4 + (5 : Int32)))) M1) (fun r167 N168 => (g_ck (x4 + (1 : Int32)) L (g_ck (x4 + (2 : Int32)) L (g_ck (x4 + (3 : Int32)) L (g_ck (x4 + (4 : Int32)) L (g_ck (x4 + (5 : Int32)) L (g_b (f_X10_drill (xs (tn (x4 + (1 : Int32)))) (xs (tn (x4 + (2 : Int32)))) (xs (tn (x4 + (3 : Int32)))) (xs (tn (x4 + (4 : Int32)))) (xs (tn (x4 + (5 : Int32)))) M2) (fun r169 N170 => (if r167 = r169 then (kn (x4 + 6) N168 N170 ov) else (some false))))))))))))))))
set_option maxRecDepth 100000 in
set_option maxHeartbeats 4000000 in
theorem o_law_37 {X : gXL} {k : Nat} {kn : Int32 → gM → gM → Int64 → Option Bool} (hk : k ≤ 512) (ih : ∀ (x4 : Int32) (M1 M2 : gM) (ov : Int64), GL X (k + 1) 23 [(0, .ref (lb X)), (1, .ref (lad X 0)), (2, .ref (lad2 X 0)), (3, .ref (lo X)), (4, .int x4)] [] M1 M2 ov (kn x4 M1 M2 ov)) (x4 : Int32) (M1 M2 : gM) (ov : Int64) : GL X k 1375 [(0, .ref (lb X)), (1, .ref (lad X 0)), (2, .ref (lad2 X 0)), (3, .ref (lo X)), (4, .int x4)] [] M1 M2 ov (f_law_37 (lL X) (lxs X) kn x4 M1 M2 ov) := by
  rw [f_law_37]
  refine L_aload_n 1 dL_law_1375 rfl rfl ?_
  refine L_aload_n 0 dL_law_1376 rfl rfl ?_
  refine L_iload 4 dL_law_1377 rfl ?_
  refine L_iconst (v := 1) dL_law_1379 (by decide) ?_
  refine L_iadd dL_law_1380 ?_
  refine L_sld dL_law_1381 ?_
  refine L_aload_n 0 dL_law_1382 rfl rfl ?_
  refine L_iload 4 dL_law_1383 rfl ?_
  refine L_iconst (v := 2) dL_law_1385 (by decide) ?_
  refine L_iadd dL_law_1386 ?_
  refine L_sld dL_law_1387 ?_
  refine L_aload_n 0 dL_law_1388 rfl rfl ?_
  refine L_iload 4 dL_law_1389 rfl ?_
  refine L_iconst (v := 3) dL_law_1391 (by decide) ?_
  refine L_iadd dL_law_1392 ?_
  refine L_sld dL_law_1393 ?_
  refine L_aload_n 0 dL_law_1394 rfl rfl ?_
  refine L_iload 4 dL_law_1395 rfl ?_
  refine L_iconst (v := 4) dL_law_1397 (by decide) ?_
  refine L_iadd dL_law_1398 ?_
  refine L_sld dL_law_1399 ?_
  refine L_aload_n 0 dL_law_1400 rfl rfl ?_
  refine L_iload 4 dL_law_1401 rfl ?_
  refine L_iconst (v := 5) dL_law_1403 (by decide) ?_
  refine L_iadd dL_law_1404 ?_
  refine L_sld dL_law_1405 ?_
  refine L_c1i (As := [.int (lxs X (tn (x4 + (1 : Int32)))), .int (lxs X (tn (x4 + (2 : Int32)))), .int (lxs X (tn (x4 + (3 : Int32)))), .int (lxs X (tn (x4 + (4 : Int32)))), .int (lxs X (tn (x4 + (5 : Int32))))]) (rest := []) (ok_X9_drill (lxs X (tn (x4 + (1 : Int32)))) (lxs X (tn (x4 + (2 : Int32)))) (lxs X (tn (x4 + (3 : Int32)))) (lxs X (tn (x4 + (4 : Int32)))) (lxs X (tn (x4 + (5 : Int32)))) M1) rfl y1_0 rfl mv_L_183 dL_law_1406 rfl rfl (Nat.le_of_ble_eq_true rfl) (by decide) (fun r167 N168 => ?_)
  refine L_aload_n 2 dL_law_1409 rfl rfl ?_
  refine L_aload_n 0 dL_law_1410 rfl rfl ?_
  refine L_iload 4 dL_law_1411 rfl ?_
  refine L_iconst (v := 1) dL_law_1413 (by decide) ?_
  refine L_iadd dL_law_1414 ?_
  refine L_sld dL_law_1415 ?_
  refine L_aload_n 0 dL_law_1416 rfl rfl ?_
  refine L_iload 4 dL_law_1417 rfl ?_
  refine L_iconst (v := 2) dL_law_1419 (by decide) ?_
  refine L_iadd dL_law_1420 ?_
  refine L_sld dL_law_1421 ?_
  refine L_aload_n 0 dL_law_1422 rfl rfl ?_
  refine L_iload 4 dL_law_1423 rfl ?_
  refine L_iconst (v := 3) dL_law_1425 (by decide) ?_
  refine L_iadd dL_law_1426 ?_
  refine L_sld dL_law_1427 ?_
  refine L_aload_n 0 dL_law_1428 rfl rfl ?_
  refine L_iload 4 dL_law_1429 rfl ?_
  refine L_iconst (v := 4) dL_law_1431 (by decide) ?_
  refine L_iadd dL_law_1432 ?_
  refine L_sld dL_law_1433 ?_
  refine L_aload_n 0 dL_law_1434 rfl rfl ?_
  refine L_iload 4 dL_law_1435 rfl ?_
  refine L_iconst (v := 5) dL_law_1437 (by decide) ?_
  refine L_iadd dL_law_1438 ?_
  refine L_sld dL_law_1439 ?_
  refine L_c2i (As := [.int (lxs X (tn (x4 + (1 : Int32)))), .int (lxs X (tn (x4 + (2 : Int32)))), .int (lxs X (tn (x4 + (3 : Int32)))), .int (lxs X (tn (x4 + (4 : Int32)))), .int (lxs X (tn (x4 + (5 : Int32))))]) (rest := [.int r167]) (ok_X10_drill (lxs X (tn (x4 + (1 : Int32)))) (lxs X (tn (x4 + (2 : Int32)))) (lxs X (tn (x4 + (3 : Int32)))) (lxs X (tn (x4 + (4 : Int32)))) (lxs X (tn (x4 + (5 : Int32)))) M2) rfl y2_0 rfl mv_L_186 dL_law_1440 rfl rfl (Nat.le_of_ble_eq_true rfl) (by decide) (fun r169 N170 => ?_)
  refine L_icmp_eq (tgt := 1535) dL_law_1443 (by decide) ?_ ?_
  · refine L_iinc (v := x4 + 6) (lv' := [(4, .int (x4 + 6)), (0, .ref (lb X)), (1, .ref (lad X 0)), (2, .ref (lad2 X 0)), (3, .ref (lo X))]) 4 dL_law_1535 rfl rfl (by decide) rfl ?_
    refine L_goto (tgt := 23) dL_law_1538 (by decide) ?_
    exact L_up hk (L_sub [1, 2, 3, 4, 0] rfl (ih (x4 + 6) N168 N170 ov))
  · refine L_iconst (v := 0) dL_law_1446 (by decide) ?_
    exact L_ret0
def f_law_38 (L : Nat) (xs : Nat → Int32) (kn : Int32 → gM → gM → Int64 → Option Bool) (x4 : Int32) (M1 M2 : gM) (ov : Int64) : Option Bool := (g_ck (x4 + (1 : Int32)) L (g_b (f_X9_hold (xs (tn (x4 + (1 : Int32)))) M1) (fun r171 N172 => (g_ck (x4 + (1 : Int32)) L (g_b (f_X10_hold (xs (tn (x4 + (1 : Int32)))) M2) (fun r173 N174 => (if r171 = r173 then (kn (x4 + 6) N172 N174 ov) else (some false))))))))
set_option maxRecDepth 100000 in
set_option maxHeartbeats 4000000 in
theorem o_law_38 {X : gXL} {k : Nat} {kn : Int32 → gM → gM → Int64 → Option Bool} (hk : k ≤ 512) (ih : ∀ (x4 : Int32) (M1 M2 : gM) (ov : Int64), GL X (k + 1) 23 [(0, .ref (lb X)), (1, .ref (lad X 0)), (2, .ref (lad2 X 0)), (3, .ref (lo X)), (4, .int x4)] [] M1 M2 ov (kn x4 M1 M2 ov)) (x4 : Int32) (M1 M2 : gM) (ov : Int64) : GL X k 1448 [(0, .ref (lb X)), (1, .ref (lad X 0)), (2, .ref (lad2 X 0)), (3, .ref (lo X)), (4, .int x4)] [] M1 M2 ov (f_law_38 (lL X) (lxs X) kn x4 M1 M2 ov) := by
  rw [f_law_38]
  refine L_aload_n 1 dL_law_1448 rfl rfl ?_
  refine L_aload_n 0 dL_law_1449 rfl rfl ?_
  refine L_iload 4 dL_law_1450 rfl ?_
  refine L_iconst (v := 1) dL_law_1452 (by decide) ?_
  refine L_iadd dL_law_1453 ?_
  refine L_sld dL_law_1454 ?_
  refine L_c1i (As := [.int (lxs X (tn (x4 + (1 : Int32))))]) (rest := []) (ok_X9_hold (lxs X (tn (x4 + (1 : Int32)))) M1) rfl y1_0 rfl mv_L_187 dL_law_1455 rfl rfl (Nat.le_of_ble_eq_true rfl) (by decide) (fun r171 N172 => ?_)
  refine L_aload_n 2 dL_law_1458 rfl rfl ?_
  refine L_aload_n 0 dL_law_1459 rfl rfl ?_
  refine L_iload 4 dL_law_1460 rfl ?_
  refine L_iconst (v := 1) dL_law_1462 (by decide) ?_
  refine L_iadd dL_law_1463 ?_
  refine L_sld dL_law_1464 ?_
  refine L_c2i (As := [.int (lxs X (tn (x4 + (1 : Int32))))]) (rest := [.int r171]) (ok_X10_hold (lxs X (tn (x4 + (1 : Int32)))) M2) rfl y2_0 rfl mv_L_190 dL_law_1465 rfl rfl (Nat.le_of_ble_eq_true rfl) (by decide) (fun r173 N174 => ?_)
  refine L_icmp_eq (tgt := 1535) dL_law_1468 (by decide) ?_ ?_
  · refine L_iinc (v := x4 + 6) (lv' := [(4, .int (x4 + 6)), (0, .ref (lb X)), (1, .ref (lad X 0)), (2, .ref (lad2 X 0)), (3, .ref (lo X))]) 4 dL_law_1535 rfl rfl (by decide) rfl ?_
    refine L_goto (tgt := 23) dL_law_1538 (by decide) ?_
    exact L_up hk (L_sub [1, 2, 3, 4, 0] rfl (ih (x4 + 6) N172 N174 ov))
  · refine L_iconst (v := 0) dL_law_1471 (by decide) ?_
    exact L_ret0
def f_law_39 (L : Nat) (xs : Nat → Int32) (kn : Int32 → gM → gM → Int64 → Option Bool) (x4 : Int32) (M1 M2 : gM) (ov : Int64) : Option Bool := (g_ck (x4 + (1 : Int32)) L (g_ck (x4 + (2 : Int32)) L (g_b (f_X9_compare (xs (tn (x4 + (1 : Int32)))) (xs (tn (x4 + (2 : Int32)))) M1) (fun r175 N176 => (g_ck (x4 + (1 : Int32)) L (g_ck (x4 + (2 : Int32)) L (g_b (f_X10_compare (xs (tn (x4 + (1 : Int32)))) (xs (tn (x4 + (2 : Int32)))) M2) (fun r177 N178 => (if r175 = r177 then (kn (x4 + 6) N176 N178 ov) else (some false))))))))))
set_option maxRecDepth 100000 in
set_option maxHeartbeats 4000000 in
theorem o_law_39 {X : gXL} {k : Nat} {kn : Int32 → gM → gM → Int64 → Option Bool} (hk : k ≤ 512) (ih : ∀ (x4 : Int32) (M1 M2 : gM) (ov : Int64), GL X (k + 1) 23 [(0, .ref (lb X)), (1, .ref (lad X 0)), (2, .ref (lad2 X 0)), (3, .ref (lo X)), (4, .int x4)] [] M1 M2 ov (kn x4 M1 M2 ov)) (x4 : Int32) (M1 M2 : gM) (ov : Int64) : GL X k 1473 [(0, .ref (lb X)), (1, .ref (lad X 0)), (2, .ref (lad2 X 0)), (3, .ref (lo X)), (4, .int x4)] [] M1 M2 ov (f_law_39 (lL X) (lxs X) kn x4 M1 M2 ov) := by
  rw [f_law_39]
  refine L_aload_n 1 dL_law_1473 rfl rfl ?_
  refine L_aload_n 0 dL_law_1474 rfl rfl ?_
  refine L_iload 4 dL_law_1475 rfl ?_
  refine L_iconst (v := 1) dL_law_1477 (by decide) ?_
  refine L_iadd dL_law_1478 ?_
  refine L_sld dL_law_1479 ?_
  refine L_aload_n 0 dL_law_1480 rfl rfl ?_
  refine L_iload 4 dL_law_1481 rfl ?_
  refine L_iconst (v := 2) dL_law_1483 (by decide) ?_
  refine L_iadd dL_law_1484 ?_
  refine L_sld dL_law_1485 ?_
  refine L_c1i (As := [.int (lxs X (tn (x4 + (1 : Int32)))), .int (lxs X (tn (x4 + (2 : Int32))))]) (rest := []) (ok_X9_compare (lxs X (tn (x4 + (1 : Int32)))) (lxs X (tn (x4 + (2 : Int32)))) M1) rfl y1_0 rfl mv_L_191 dL_law_1486 rfl rfl (Nat.le_of_ble_eq_true rfl) (by decide) (fun r175 N176 => ?_)
  refine L_aload_n 2 dL_law_1489 rfl rfl ?_
  refine L_aload_n 0 dL_law_1490 rfl rfl ?_
  refine L_iload 4 dL_law_1491 rfl ?_
  refine L_iconst (v := 1) dL_law_1493 (by decide) ?_
  refine L_iadd dL_law_1494 ?_
  refine L_sld dL_law_1495 ?_
  refine L_aload_n 0 dL_law_1496 rfl rfl ?_
  refine L_iload 4 dL_law_1497 rfl ?_
  refine L_iconst (v := 2) dL_law_1499 (by decide) ?_
  refine L_iadd dL_law_1500 ?_
  refine L_sld dL_law_1501 ?_
  refine L_c2i (As := [.int (lxs X (tn (x4 + (1 : Int32)))), .int (lxs X (tn (x4 + (2 : Int32))))]) (rest := [.int r175]) (ok_X10_compare (lxs X (tn (x4 + (1 : Int32)))) (lxs X (tn (x4 + (2 : Int32)))) M2) rfl y2_0 rfl mv_L_194 dL_law_1502 rfl rfl (Nat.le_of_ble_eq_true rfl) (by decide) (fun r177 N178 => ?_)
  refine L_icmp_eq (tgt := 1535) dL_law_1505 (by decide) ?_ ?_
  · refine L_iinc (v := x4 + 6) (lv' := [(4, .int (x4 + 6)), (0, .ref (lb X)), (1, .ref (lad X 0)), (2, .ref (lad2 X 0)), (3, .ref (lo X))]) 4 dL_law_1535 rfl rfl (by decide) rfl ?_
    refine L_goto (tgt := 23) dL_law_1538 (by decide) ?_
    exact L_up hk (L_sub [1, 2, 3, 4, 0] rfl (ih (x4 + 6) N176 N178 ov))
  · refine L_iconst (v := 0) dL_law_1508 (by decide) ?_
    exact L_ret0
def f_law_40 (L : Nat) (xs : Nat → Int32) (kn : Int32 → gM → gM → Int64 → Option Bool) (x4 : Int32) (M1 M2 : gM) (ov : Int64) : Option Bool := (g_ck (x4 + (1 : Int32)) L (g_b (f_X9_count (xs (tn (x4 + (1 : Int32)))) M1) (fun r179 N180 => (g_ck (x4 + (1 : Int32)) L (g_b (f_X10_count (xs (tn (x4 + (1 : Int32)))) M2) (fun r181 N182 => (if r179 = r181 then (kn (x4 + 6) N180 N182 ov) else (some false))))))))
set_option maxRecDepth 100000 in
set_option maxHeartbeats 4000000 in
theorem o_law_40 {X : gXL} {k : Nat} {kn : Int32 → gM → gM → Int64 → Option Bool} (hk : k ≤ 512) (ih : ∀ (x4 : Int32) (M1 M2 : gM) (ov : Int64), GL X (k + 1) 23 [(0, .ref (lb X)), (1, .ref (lad X 0)), (2, .ref (lad2 X 0)), (3, .ref (lo X)), (4, .int x4)] [] M1 M2 ov (kn x4 M1 M2 ov)) (x4 : Int32) (M1 M2 : gM) (ov : Int64) : GL X k 1510 [(0, .ref (lb X)), (1, .ref (lad X 0)), (2, .ref (lad2 X 0)), (3, .ref (lo X)), (4, .int x4)] [] M1 M2 ov (f_law_40 (lL X) (lxs X) kn x4 M1 M2 ov) := by
  rw [f_law_40]
  refine L_aload_n 1 dL_law_1510 rfl rfl ?_
  refine L_aload_n 0 dL_law_1511 rfl rfl ?_
  refine L_iload 4 dL_law_1512 rfl ?_
  refine L_iconst (v := 1) dL_law_1514 (by decide) ?_
  refine L_iadd dL_law_1515 ?_
  refine L_sld dL_law_1516 ?_
  refine L_c1i (As := [.int (lxs X (tn (x4 + (1 : Int32))))]) (rest := []) (ok_X9_count (lxs X (tn (x4 + (1 : Int32)))) M1) rfl y1_0 rfl mv_L_195 dL_law_1517 rfl rfl (Nat.le_of_ble_eq_true rfl) (by decide) (fun r179 N180 => ?_)
  refine L_aload_n 2 dL_law_1520 rfl rfl ?_
  refine L_aload_n 0 dL_law_1521 rfl rfl ?_
  refine L_iload 4 dL_law_1522 rfl ?_
  refine L_iconst (v := 1) dL_law_1524 (by decide) ?_
  refine L_iadd dL_law_1525 ?_
  refine L_sld dL_law_1526 ?_
  refine L_c2i (As := [.int (lxs X (tn (x4 + (1 : Int32))))]) (rest := [.int r179]) (ok_X10_count (lxs X (tn (x4 + (1 : Int32)))) M2) rfl y2_0 rfl mv_L_198 dL_law_1527 rfl rfl (Nat.le_of_ble_eq_true rfl) (by decide) (fun r181 N182 => ?_)
  refine L_icmp_eq (tgt := 1535) dL_law_1530 (by decide) ?_ ?_
  · refine L_iinc (v := x4 + 6) (lv' := [(4, .int (x4 + 6)), (0, .ref (lb X)), (1, .ref (lad X 0)), (2, .ref (lad2 X 0)), (3, .ref (lo X))]) 4 dL_law_1535 rfl rfl (by decide) rfl ?_
    refine L_goto (tgt := 23) dL_law_1538 (by decide) ?_
    exact L_up hk (L_sub [1, 2, 3, 4, 0] rfl (ih (x4 + 6) N180 N182 ov))
  · refine L_iconst (v := 0) dL_law_1533 (by decide) ?_
    exact L_ret0
def f_law (L : Nat) (xs : Nat → Int32) : Nat → Nat → Int32 → gM → gM → Int64 → Option Bool
  | 0, _, _, _, _, _ => none
  | n + 1, k, x4, M1, M2, ov => (if k ≤ 512 then (if ((nI L) - (6 : Int32)) < x4 then (some true) else (g_ck x4 L (g_v ((xs (tn x4)) &&& (63 : Int32)) (fun y => (if y = 0 then (f_law_0 L xs (f_law L xs n (k + 1)) x4 M1 M2 ov) else (if y = 1 then (f_law_1 L xs (f_law L xs n (k + 1)) x4 M1 M2 ov) else (if y = 2 then (f_law_2 L xs (f_law L xs n (k + 1)) x4 M1 M2 ov) else (if y = 3 then (f_law_3 L xs (f_law L xs n (k + 1)) x4 M1 M2 ov) else (if y = 4 then (f_law_4 L xs (f_law L xs n (k + 1)) x4 M1 M2 ov) else (if y = 5 then (f_law_5 L xs (f_law L xs n (k + 1)) x4 M1 M2 ov) else (if y = 6 then (f_law_6 L xs (f_law L xs n (k + 1)) x4 M1 M2 ov) else (if y = 7 then (f_law_7 L xs (f_law L xs n (k + 1)) x4 M1 M2 ov) else (if y = 8 then (f_law_8 L xs (f_law L xs n (k + 1)) x4 M1 M2 ov) else (if y = 9 then (f_law_9 L xs (f_law L xs n (k + 1)) x4 M1 M2 ov) else (if y = 10 then (f_law_10 L xs (f_law L xs n (k + 1)) x4 M1 M2 ov) else (if y = 11 then (f_law_11 L xs (f_law L xs n (k + 1)) x4 M1 M2 ov) else (if y = 12 then (f_law_12 L xs (f_law L xs n (k + 1)) x4 M1 M2 ov) else (if y = 13 then (f_law_13 L xs (f_law L xs n (k + 1)) x4 M1 M2 ov) else (if y = 14 then (f_law_14 L xs (f_law L xs n (k + 1)) x4 M1 M2 ov) else (if y = 15 then (f_law_15 L xs (f_law L xs n (k + 1)) x4 M1 M2 ov) else (if y = 16 then (f_law_16 L xs (f_law L xs n (k + 1)) x4 M1 M2 ov) else (if y = 17 then (f_law_17 L xs (f_law L xs n (k + 1)) x4 M1 M2 ov) else (if y = 18 then (f_law_18 L xs (f_law L xs n (k + 1)) x4 M1 M2 ov) else (if y = 19 then (f_law_19 L xs (f_law L xs n (k + 1)) x4 M1 M2 ov) else (if y = 20 then (f_law_20 L xs (f_law L xs n (k + 1)) x4 M1 M2 ov) else (if y = 21 then (f_law_21 L xs (f_law L xs n (k + 1)) x4 M1 M2 ov) else (if y = 22 then (f_law_22 L xs (f_law L xs n (k + 1)) x4 M1 M2 ov) else (if y = 23 then (f_law_23 L xs (f_law L xs n (k + 1)) x4 M1 M2 ov) else (if y = 24 then (f_law_24 L xs (f_law L xs n (k + 1)) x4 M1 M2 ov) else (if y = 25 then (f_law_25 L xs (f_law L xs n (k + 1)) x4 M1 M2 ov) else (if y = 26 then (f_law_26 L xs (f_law L xs n (k + 1)) x4 M1 M2 ov) else (if y = 27 then (f_law_27 L xs (f_law L xs n (k + 1)) x4 M1 M2 ov) else (if y = 28 then (f_law_28 L xs (f_law L xs n (k + 1)) x4 M1 M2 ov) else (if y = 29 then (f_law_29 L xs (f_law L xs n (k + 1)) x4 M1 M2 ov) else (if y = 30 then (f_law_30 L xs (f_law L xs n (k + 1)) x4 M1 M2 ov) else (if y = 31 then (f_law_31 L xs (f_law L xs n (k + 1)) x4 M1 M2 ov) else (if y = 32 then (f_law_32 L xs (f_law L xs n (k + 1)) x4 M1 M2 ov) else (if y = 33 then (f_law_33 L xs (f_law L xs n (k + 1)) x4 M1 M2 ov) else (if y = 34 then (f_law_34 L xs (f_law L xs n (k + 1)) x4 M1 M2 ov) else (if y = 35 then (f_law_35 L xs (f_law L xs n (k + 1)) x4 M1 M2 ov) else (if y = 36 then (f_law_36 L xs (f_law L xs n (k + 1)) x4 M1 M2 ov) else (if y = 37 then (f_law_37 L xs (f_law L xs n (k + 1)) x4 M1 M2 ov) else (if y = 38 then (f_law_38 L xs (f_law L xs n (k + 1)) x4 M1 M2 ov) else (if y = 39 then (f_law_39 L xs (f_law L xs n (k + 1)) x4 M1 M2 ov) else (if y = 40 then (f_law_40 L xs (f_law L xs n (k + 1)) x4 M1 M2 ov) else (f_law L xs n (k + 1) (x4 + 6) M1 M2 ov)))))))))))))))))))))))))))))))))))))))))))))) else none)
set_option maxRecDepth 100000 in
set_option maxHeartbeats 4000000 in
theorem o_law {X : gXL} : ∀ (n k : Nat) (x4 : Int32) (M1 M2 : gM) (ov : Int64), GL X k 23 [(0, .ref (lb X)), (1, .ref (lad X 0)), (2, .ref (lad2 X 0)), (3, .ref (lo X)), (4, .int x4)] [] M1 M2 ov (f_law (lL X) (lxs X) n k x4 M1 M2 ov) := by
  intro n
  induction n with
  | zero => intro k x4 M1 M2 ov; exact L_none
  | succ n ih =>
    intro k x4 M1 M2 ov
    rw [f_law]
    refine L_ite (fun hk => ?_) (fun _ => L_none)
    refine L_iload 4 dL_law_23 rfl ?_
    refine L_aload_n 0 dL_law_25 rfl rfl ?_
    refine L_slen dL_law_26 ?_
    refine L_bipush (v := 6) dL_law_27 (by decide) ?_
    refine L_isub dL_law_29 ?_
    refine L_icmp_gt (tgt := 1541) dL_law_30 (by decide) ?_ ?_
    · refine L_iconst (v := 1) dL_law_1541 (by decide) ?_
      exact L_ret1 dL_law_1542
    · refine L_aload_n 0 dL_law_33 rfl rfl ?_
      refine L_iload 4 dL_law_34 rfl ?_
      refine L_sld dL_law_36 ?_
      refine L_bipush (v := 63) dL_law_37 (by decide) ?_
      refine L_iand dL_law_39 ?_
      refine L_vi (fun y => ?_)
      refine L_ite (fun h0 => ?_) (fun h0 => ?_)
      · refine L_tabIn (tgt := 220) (off := 180) dL_law_40 (by rw [h0]; decide) (by rw [h0]; decide) (by rw [h0]; decide) (by decide) ?_
        exact o_law_0 hk (ih (k + 1)) x4 M1 M2 ov
      refine L_ite (fun h1 => ?_) (fun h1 => ?_)
      · refine L_tabIn (tgt := 293) (off := 253) dL_law_40 (by rw [h1]; decide) (by rw [h1]; decide) (by rw [h1]; decide) (by decide) ?_
        exact o_law_1 hk (ih (k + 1)) x4 M1 M2 ov
      refine L_ite (fun h2 => ?_) (fun h2 => ?_)
      · refine L_tabIn (tgt := 318) (off := 278) dL_law_40 (by rw [h2]; decide) (by rw [h2]; decide) (by rw [h2]; decide) (by decide) ?_
        exact o_law_2 hk (ih (k + 1)) x4 M1 M2 ov
      refine L_ite (fun h3 => ?_) (fun h3 => ?_)
      · refine L_tabIn (tgt := 331) (off := 291) dL_law_40 (by rw [h3]; decide) (by rw [h3]; decide) (by rw [h3]; decide) (by decide) ?_
        exact o_law_3 hk (ih (k + 1)) x4 M1 M2 ov
      refine L_ite (fun h4 => ?_) (fun h4 => ?_)
      · refine L_tabIn (tgt := 344) (off := 304) dL_law_40 (by rw [h4]; decide) (by rw [h4]; decide) (by rw [h4]; decide) (by decide) ?_
        exact o_law_4 hk (ih (k + 1)) x4 M1 M2 ov
      refine L_ite (fun h5 => ?_) (fun h5 => ?_)
      · refine L_tabIn (tgt := 369) (off := 329) dL_law_40 (by rw [h5]; decide) (by rw [h5]; decide) (by rw [h5]; decide) (by decide) ?_
        exact o_law_5 hk (ih (k + 1)) x4 M1 M2 ov
      refine L_ite (fun h6 => ?_) (fun h6 => ?_)
      · refine L_tabIn (tgt := 418) (off := 378) dL_law_40 (by rw [h6]; decide) (by rw [h6]; decide) (by rw [h6]; decide) (by decide) ?_
        exact o_law_6 hk (ih (k + 1)) x4 M1 M2 ov
      refine L_ite (fun h7 => ?_) (fun h7 => ?_)
      · refine L_tabIn (tgt := 455) (off := 415) dL_law_40 (by rw [h7]; decide) (by rw [h7]; decide) (by rw [h7]; decide) (by decide) ?_
        exact o_law_7 hk (ih (k + 1)) x4 M1 M2 ov
      refine L_ite (fun h8 => ?_) (fun h8 => ?_)
      · refine L_tabIn (tgt := 508) (off := 468) dL_law_40 (by rw [h8]; decide) (by rw [h8]; decide) (by rw [h8]; decide) (by decide) ?_
        exact o_law_8 hk (ih (k + 1)) x4 M1 M2 ov
      refine L_ite (fun h9 => ?_) (fun h9 => ?_)
      · refine L_tabIn (tgt := 557) (off := 517) dL_law_40 (by rw [h9]; decide) (by rw [h9]; decide) (by rw [h9]; decide) (by decide) ?_
        exact o_law_9 hk (ih (k + 1)) x4 M1 M2 ov
      refine L_ite (fun h10 => ?_) (fun h10 => ?_)
      · refine L_tabIn (tgt := 582) (off := 542) dL_law_40 (by rw [h10]; decide) (by rw [h10]; decide) (by rw [h10]; decide) (by decide) ?_
        exact o_law_10 hk (ih (k + 1)) x4 M1 M2 ov
      refine L_ite (fun h11 => ?_) (fun h11 => ?_)
      · refine L_tabIn (tgt := 607) (off := 567) dL_law_40 (by rw [h11]; decide) (by rw [h11]; decide) (by rw [h11]; decide) (by decide) ?_
        exact o_law_11 hk (ih (k + 1)) x4 M1 M2 ov
      refine L_ite (fun h12 => ?_) (fun h12 => ?_)
      · refine L_tabIn (tgt := 632) (off := 592) dL_law_40 (by rw [h12]; decide) (by rw [h12]; decide) (by rw [h12]; decide) (by decide) ?_
        exact o_law_12 hk (ih (k + 1)) x4 M1 M2 ov
      refine L_ite (fun h13 => ?_) (fun h13 => ?_)
      · refine L_tabIn (tgt := 657) (off := 617) dL_law_40 (by rw [h13]; decide) (by rw [h13]; decide) (by rw [h13]; decide) (by decide) ?_
        exact o_law_13 hk (ih (k + 1)) x4 M1 M2 ov
      refine L_ite (fun h14 => ?_) (fun h14 => ?_)
      · refine L_tabIn (tgt := 682) (off := 642) dL_law_40 (by rw [h14]; decide) (by rw [h14]; decide) (by rw [h14]; decide) (by decide) ?_
        exact o_law_14 hk (ih (k + 1)) x4 M1 M2 ov
      refine L_ite (fun h15 => ?_) (fun h15 => ?_)
      · refine L_tabIn (tgt := 747) (off := 707) dL_law_40 (by rw [h15]; decide) (by rw [h15]; decide) (by rw [h15]; decide) (by decide) ?_
        exact o_law_15 hk (ih (k + 1)) x4 M1 M2 ov
      refine L_ite (fun h16 => ?_) (fun h16 => ?_)
      · refine L_tabIn (tgt := 760) (off := 720) dL_law_40 (by rw [h16]; decide) (by rw [h16]; decide) (by rw [h16]; decide) (by decide) ?_
        exact o_law_16 hk (ih (k + 1)) x4 M1 M2 ov
      refine L_ite (fun h17 => ?_) (fun h17 => ?_)
      · refine L_tabIn (tgt := 785) (off := 745) dL_law_40 (by rw [h17]; decide) (by rw [h17]; decide) (by rw [h17]; decide) (by decide) ?_
        exact o_law_17 hk (ih (k + 1)) x4 M1 M2 ov
      refine L_ite (fun h18 => ?_) (fun h18 => ?_)
      · refine L_tabIn (tgt := 810) (off := 770) dL_law_40 (by rw [h18]; decide) (by rw [h18]; decide) (by rw [h18]; decide) (by decide) ?_
        exact o_law_18 hk (ih (k + 1)) x4 M1 M2 ov
      refine L_ite (fun h19 => ?_) (fun h19 => ?_)
      · refine L_tabIn (tgt := 835) (off := 795) dL_law_40 (by rw [h19]; decide) (by rw [h19]; decide) (by rw [h19]; decide) (by decide) ?_
        exact o_law_19 hk (ih (k + 1)) x4 M1 M2 ov
      refine L_ite (fun h20 => ?_) (fun h20 => ?_)
      · refine L_tabIn (tgt := 846) (off := 806) dL_law_40 (by rw [h20]; decide) (by rw [h20]; decide) (by rw [h20]; decide) (by decide) ?_
        exact o_law_20 hk (ih (k + 1)) x4 M1 M2 ov
      refine L_ite (fun h21 => ?_) (fun h21 => ?_)
      · refine L_tabIn (tgt := 871) (off := 831) dL_law_40 (by rw [h21]; decide) (by rw [h21]; decide) (by rw [h21]; decide) (by decide) ?_
        exact o_law_21 hk (ih (k + 1)) x4 M1 M2 ov
      refine L_ite (fun h22 => ?_) (fun h22 => ?_)
      · refine L_tabIn (tgt := 908) (off := 868) dL_law_40 (by rw [h22]; decide) (by rw [h22]; decide) (by rw [h22]; decide) (by decide) ?_
        exact o_law_22 hk (ih (k + 1)) x4 M1 M2 ov
      refine L_ite (fun h23 => ?_) (fun h23 => ?_)
      · refine L_tabIn (tgt := 945) (off := 905) dL_law_40 (by rw [h23]; decide) (by rw [h23]; decide) (by rw [h23]; decide) (by decide) ?_
        exact o_law_23 hk (ih (k + 1)) x4 M1 M2 ov
      refine L_ite (fun h24 => ?_) (fun h24 => ?_)
      · refine L_tabIn (tgt := 994) (off := 954) dL_law_40 (by rw [h24]; decide) (by rw [h24]; decide) (by rw [h24]; decide) (by decide) ?_
        exact o_law_24 hk (ih (k + 1)) x4 M1 M2 ov
      refine L_ite (fun h25 => ?_) (fun h25 => ?_)
      · refine L_tabIn (tgt := 1019) (off := 979) dL_law_40 (by rw [h25]; decide) (by rw [h25]; decide) (by rw [h25]; decide) (by decide) ?_
        exact o_law_25 hk (ih (k + 1)) x4 M1 M2 ov
      refine L_ite (fun h26 => ?_) (fun h26 => ?_)
      · refine L_tabIn (tgt := 1044) (off := 1004) dL_law_40 (by rw [h26]; decide) (by rw [h26]; decide) (by rw [h26]; decide) (by decide) ?_
        exact o_law_26 hk (ih (k + 1)) x4 M1 M2 ov
      refine L_ite (fun h27 => ?_) (fun h27 => ?_)
      · refine L_tabIn (tgt := 1081) (off := 1041) dL_law_40 (by rw [h27]; decide) (by rw [h27]; decide) (by rw [h27]; decide) (by decide) ?_
        exact o_law_27 hk (ih (k + 1)) x4 M1 M2 ov
      refine L_ite (fun h28 => ?_) (fun h28 => ?_)
      · refine L_tabIn (tgt := 1106) (off := 1066) dL_law_40 (by rw [h28]; decide) (by rw [h28]; decide) (by rw [h28]; decide) (by decide) ?_
        exact o_law_28 hk (ih (k + 1)) x4 M1 M2 ov
      refine L_ite (fun h29 => ?_) (fun h29 => ?_)
      · refine L_tabIn (tgt := 1156) (off := 1116) dL_law_40 (by rw [h29]; decide) (by rw [h29]; decide) (by rw [h29]; decide) (by decide) ?_
        exact o_law_29 hk (ih (k + 1)) x4 M1 M2 ov
      refine L_ite (fun h30 => ?_) (fun h30 => ?_)
      · refine L_tabIn (tgt := 1181) (off := 1141) dL_law_40 (by rw [h30]; decide) (by rw [h30]; decide) (by rw [h30]; decide) (by decide) ?_
        exact o_law_30 hk (ih (k + 1)) x4 M1 M2 ov
      refine L_ite (fun h31 => ?_) (fun h31 => ?_)
      · refine L_tabIn (tgt := 1206) (off := 1166) dL_law_40 (by rw [h31]; decide) (by rw [h31]; decide) (by rw [h31]; decide) (by decide) ?_
        exact o_law_31 hk (ih (k + 1)) x4 M1 M2 ov
      refine L_ite (fun h32 => ?_) (fun h32 => ?_)
      · refine L_tabIn (tgt := 1219) (off := 1179) dL_law_40 (by rw [h32]; decide) (by rw [h32]; decide) (by rw [h32]; decide) (by decide) ?_
        exact o_law_32 hk (ih (k + 1)) x4 M1 M2 ov
      refine L_ite (fun h33 => ?_) (fun h33 => ?_)
      · refine L_tabIn (tgt := 1244) (off := 1204) dL_law_40 (by rw [h33]; decide) (by rw [h33]; decide) (by rw [h33]; decide) (by decide) ?_
        exact o_law_33 hk (ih (k + 1)) x4 M1 M2 ov
      refine L_ite (fun h34 => ?_) (fun h34 => ?_)
      · refine L_tabIn (tgt := 1312) (off := 1272) dL_law_40 (by rw [h34]; decide) (by rw [h34]; decide) (by rw [h34]; decide) (by decide) ?_
        exact o_law_34 hk (ih (k + 1)) x4 M1 M2 ov
      refine L_ite (fun h35 => ?_) (fun h35 => ?_)
      · refine L_tabIn (tgt := 1325) (off := 1285) dL_law_40 (by rw [h35]; decide) (by rw [h35]; decide) (by rw [h35]; decide) (by decide) ?_
        exact o_law_35 hk (ih (k + 1)) x4 M1 M2 ov
      refine L_ite (fun h36 => ?_) (fun h36 => ?_)
      · refine L_tabIn (tgt := 1362) (off := 1322) dL_law_40 (by rw [h36]; decide) (by rw [h36]; decide) (by rw [h36]; decide) (by decide) ?_
        exact o_law_36 hk (ih (k + 1)) x4 M1 M2 ov
      refine L_ite (fun h37 => ?_) (fun h37 => ?_)
      · refine L_tabIn (tgt := 1375) (off := 1335) dL_law_40 (by rw [h37]; decide) (by rw [h37]; decide) (by rw [h37]; decide) (by decide) ?_
        exact o_law_37 hk (ih (k + 1)) x4 M1 M2 ov
      refine L_ite (fun h38 => ?_) (fun h38 => ?_)
      · refine L_tabIn (tgt := 1448) (off := 1408) dL_law_40 (by rw [h38]; decide) (by rw [h38]; decide) (by rw [h38]; decide) (by decide) ?_
        exact o_law_38 hk (ih (k + 1)) x4 M1 M2 ov
      refine L_ite (fun h39 => ?_) (fun h39 => ?_)
      · refine L_tabIn (tgt := 1473) (off := 1433) dL_law_40 (by rw [h39]; decide) (by rw [h39]; decide) (by rw [h39]; decide) (by decide) ?_
        exact o_law_39 hk (ih (k + 1)) x4 M1 M2 ov
      refine L_ite (fun h40 => ?_) (fun h40 => ?_)
      · refine L_tabIn (tgt := 1510) (off := 1470) dL_law_40 (by rw [h40]; decide) (by rw [h40]; decide) (by rw [h40]; decide) (by decide) ?_
        exact o_law_40 hk (ih (k + 1)) x4 M1 M2 ov
      refine L_tabOut (tgt := 1535) dL_law_40 (by have := g_nk (k := 0) h0 (by decide); have := g_nk (k := 1) h1 (by decide); have := g_nk (k := 2) h2 (by decide); have := g_nk (k := 3) h3 (by decide); have := g_nk (k := 4) h4 (by decide); have := g_nk (k := 5) h5 (by decide); have := g_nk (k := 6) h6 (by decide); have := g_nk (k := 7) h7 (by decide); have := g_nk (k := 8) h8 (by decide); have := g_nk (k := 9) h9 (by decide); have := g_nk (k := 10) h10 (by decide); have := g_nk (k := 11) h11 (by decide); have := g_nk (k := 12) h12 (by decide); have := g_nk (k := 13) h13 (by decide); have := g_nk (k := 14) h14 (by decide); have := g_nk (k := 15) h15 (by decide); have := g_nk (k := 16) h16 (by decide); have := g_nk (k := 17) h17 (by decide); have := g_nk (k := 18) h18 (by decide); have := g_nk (k := 19) h19 (by decide); have := g_nk (k := 20) h20 (by decide); have := g_nk (k := 21) h21 (by decide); have := g_nk (k := 22) h22 (by decide); have := g_nk (k := 23) h23 (by decide); have := g_nk (k := 24) h24 (by decide); have := g_nk (k := 25) h25 (by decide); have := g_nk (k := 26) h26 (by decide); have := g_nk (k := 27) h27 (by decide); have := g_nk (k := 28) h28 (by decide); have := g_nk (k := 29) h29 (by decide); have := g_nk (k := 30) h30 (by decide); have := g_nk (k := 31) h31 (by decide); have := g_nk (k := 32) h32 (by decide); have := g_nk (k := 33) h33 (by decide); have := g_nk (k := 34) h34 (by decide); have := g_nk (k := 35) h35 (by decide); have := g_nk (k := 36) h36 (by decide); have := g_nk (k := 37) h37 (by decide); have := g_nk (k := 38) h38 (by decide); have := g_nk (k := 39) h39 (by decide); have := g_nk (k := 40) h40 (by decide); omega) (by decide) ?_
      refine L_iinc (v := x4 + 6) (lv' := [(4, .int (x4 + 6)), (0, .ref (lb X)), (1, .ref (lad X 0)), (2, .ref (lad2 X 0)), (3, .ref (lo X))]) 4 dL_law_1535 rfl rfl (by decide) rfl ?_
      refine L_goto (tgt := 23) dL_law_1538 (by decide) ?_
      exact L_up hk (L_sub [1, 2, 3, 4, 0] rfl (ih (k + 1) (x4 + 6) M1 M2 ov))
