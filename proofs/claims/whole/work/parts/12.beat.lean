def tx1 : String := "no walk that goes on"
def tx2 : String := "no act that can be done"
def tx3 : String := "no gust of the state"
abbrev nISE : String := "java/lang/IllegalStateException"
abbrev nIAE : String := "java/lang/IllegalArgumentException"
abbrev nEx : List String := ["java/lang/RuntimeException", "java/lang/Exception"]
def nGs : List Cond := [.declares ⟨"java/lang/RuntimeException", "<init>", "(Ljava/lang/String;)V"⟩, .declares ⟨"java/lang/Exception", "<init>", "(Ljava/lang/String;)V"⟩, .declares ⟨"java/lang/Throwable", "<init>", "(Ljava/lang/String;)V"⟩, .castable nISE nISE, .castable nIAE nIAE]
def g_nw (U : State) : Prop := ∀ w ∈ nGs, va_Nw w U
theorem nGs_all {P : Cond → Prop} (h1 : ∀ x, P (.declares x)) (h2 : ∀ a b, P (.castable a b)) : ∀ w ∈ nGs, P w := by
  intro w hw
  simp only [nGs, List.mem_cons, List.not_mem_nil, or_false] at hw
  rcases hw with h | h | h | h | h <;> rw [h]
  · exact h1 _
  · exact h1 _
  · exact h1 _
  · exact h2 _ _
  · exact h2 _ _
theorem g_nw.warm {s U : State} (hW : s.WarmedH U.vm) (h : g_nw s) : g_nw U := fun w hw => nGs_all (P := fun w => va_Nw w s → va_Nw w U) (fun _ h => h.warmD hW) (fun _ _ h => h.warmC hW) w hw (h w hw)
theorem nGs_on : ∀ w ∈ nGs, w.onTables = true := nGs_all (P := fun w => w.onTables = true) (fun _ => rfl) (fun _ _ => rfl)
theorem g_nw.same {u U : State} (hv : u.vm = U.vm) (h : g_nw u) : g_nw U := fun w hw => (h w hw).same (nGs_on w hw) hv
/-- what a throw needs of the start -/
def g_ex (A : Nat → Prop) (l : Launch) (U : State) (H : Heap) : Prop := l.stackTraces = false ∧ (∃ a, vk_R RX9 252 tx1 a U) ∧ (∃ a, vk_R RX9 259 tx2 a U) ∧ (∃ a, vk_R RX9 262 tx3 a U) ∧ vx_Zq Bundle.tN "UNASSIGNED_STACK" Bundle.steD A U H ∧ vx_Zq Bundle.tN "SUPPRESSED_SENTINEL" Bundle.listD A U H ∧ va_Nc nIAE nISE U ∧ g_nw U
theorem g_ex.go {A B : Nat → Prop} {l : Launch} {s U : State} {H : Heap} {locs : List Loc} (h : g_ex A l s s.heap) (hW : s.WarmedH U.vm) (hS : va_S A s.heap H locs) (hB : ∀ q, B q → A q) (hU : U.heap = H) : g_ex B l U U.heap := by
  rw [hU]
  obtain ⟨h0, ⟨a1, h1⟩, ⟨a2, h2⟩, ⟨a3, h3⟩, h4, h5, h6, h7⟩ := h
  exact ⟨h0, ⟨a1, h1.warm hW⟩, ⟨a2, h2.warm hW⟩, ⟨a3, h3.warm hW⟩, ((h4.moved hW.alike).kept hS.2.1).narrow hB, ((h5.moved hW.alike).kept hS.2.1).narrow hB, h6.moved hW.alike, h7.warm hW⟩
theorem g_ex.call {A : Nat → Prop} {l : Launch} {U V : State} {H : Heap} (hv : V.vm = U.vm) (h : g_ex A l U H) : g_ex A l V H := by
  obtain ⟨h0, ⟨a1, h1⟩, ⟨a2, h2⟩, ⟨a3, h3⟩, h4, h5, h6, h7⟩ := h
  exact ⟨h0, ⟨a1, h1.same hv⟩, ⟨a2, h2.same hv⟩, ⟨a3, h3.same hv⟩, h4.moved (by rw [hv]; exact Vm.Alike.refl _), h5.moved (by rw [hv]; exact Vm.Alike.refl _), h6.moved (by rw [hv]; exact Vm.Alike.refl _), h7.same hv.symm⟩
def b_Qc (Y : gY) (Z : gZ) (A : Nat → Prop) (r : Nat × Int32) (M' : gM) : Array Value → State → Outcome → State → Prop := fun _ st oc t => (r.1 = 0 ∧ oc = .returned (some (.int r.2)) ∧ va_P Z.1 vwCl (g_ws Y Z M') t.heap) ∧ va_F A st t
def b_XC (Y : gY) (Z : gZ) (A : Nat → Prop) (r : Nat × Int32) (M' : gM) : String → State → State → Prop := fun E st t => ((r.1 = 1 ∧ E = nISE) ∨ (r.1 = 2 ∧ E = nIAE)) ∧ va_P Z.1 vwCl (g_ws Y Z M') t.heap ∧ va_F A st t
def g_fx : gY → gX → (Nat × Int32) → gM → State → Prop := fun Y X r M' => vx_MQ (xb X) (b_Qc Y (xZ X) (xA X) r M') (b_XC Y (xZ X) (xA X) r M') (xa X) (xs X) 1 6 (xA X)
theorem at_1 : ∀ w ∈ vx_atS RX9 254 nISE nEx, w ∈ gws ∨ w ∈ nGs := by
  have h : (vx_atS RX9 254 nISE nEx).all (fun w => (decide (w ∈ lw_tbl) && goodWord w) || decide (w ∈ nGs)) = true := by decide +kernel
  intro w hw
  have h1 := List.all_eq_true.mp h w hw
  simp only [Bool.or_eq_true, Bool.and_eq_true, decide_eq_true_eq] at h1
  rcases h1 with h1 | h1
  · exact Or.inl (gw h1.1 h1.2)
  · exact Or.inr h1
theorem at_2 : ∀ w ∈ vx_atS RX9 261 nIAE nEx, w ∈ gws ∨ w ∈ nGs := by
  have h : (vx_atS RX9 261 nIAE nEx).all (fun w => (decide (w ∈ lw_tbl) && goodWord w) || decide (w ∈ nGs)) = true := by decide +kernel
  intro w hw
  have h1 := List.all_eq_true.mp h w hw
  simp only [Bool.or_eq_true, Bool.and_eq_true, decide_eq_true_eq] at h1
  rcases h1 with h1 | h1
  · exact Or.inl (gw h1.1 h1.2)
  · exact Or.inr h1
section GBT
variable {Y : gY} {J : gJ} {X : gX} {pc ik is ic kd : Nat} {lv : List (Nat × Value)} {M : gM} {cls tx : String}
theorem G_fxret {x : Int32} (hr : J.2.2.2.1 = some .int) (hd : decode J.1 pc = .ok (.ireturn, 1)) : G Y J X g_fx pc lv [.int x] M (some ((0, x), M)) := by
  intro hX r M' ho H ls locs hl hP hS
  cases ho
  refine W.widen (k := 1) (n := 6) (by omega) (by omega) ?_
  exact vx_ret (W.iret hX.1 hX.2.1 (hX.2.2.2.1.trans hr) (fun t ht _ => ⟨⟨rfl, rfl, by rw [ht]; exact hP⟩, hS.F ht⟩) (fun q hq => hS.2.2 q hq) hd hX.2.2.2.2.2.2.1)
theorem b_x (hX : g_ok Y J X) {H : Heap} {locs : List Loc} (hk : (kd = 1 ∧ cls = nISE) ∨ (kd = 2 ∧ cls = nIAE)) (hP : va_P (xZ X).1 vwCl (g_ws Y (xZ X) M) H) (hS : va_S (xA X) (xs X).heap H locs) : ∀ t : State, (xs X).vm.Alike t.vm → H.size ≤ t.heap.size → (∀ q : Nat, q < H.size → t.heap[q]? = H[q]?) → b_XC Y (xZ X) (xA X) (kd, 0) M cls (xs X) t := by
  intro t _ h1 h2
  refine ⟨hk, fun k q hq => (hP k q hq).kept (h2 _ (hP k q hq).lt), Nat.le_trans hS.1 h1, fun q h3 h4 => ?_⟩
  rw [h2 q (Nat.lt_of_lt_of_le h3 hS.1)]
  exact hS.2.1 q h3 h4
theorem G_thrS (hE : g_ex (xA X) (xl X) (xs X) (xs X).heap) (hT : ∀ x ∈ (xc X).exceptionTable.toList, False) (hJ : J.2.2.1 = RX9 ∧ 10 ≤ J.2.2.2.2.frames ∧ 200 ≤ J.2.2.2.2.locals ∧ J.2.2.2.2.cells = 1 ∧ J.2.2.2.2.slots = 6) (hk : (kd = 1 ∧ cls = nISE) ∨ (kd = 2 ∧ cls = nIAE)) (hcls : Bundle.fit cls = true) (hck : Cond.classLink RX9 ik cls ∈ gws) (hci : Cond.initialized cls ∈ gws) (hstr : ∃ a, vk_R RX9 is tx a (xs X)) (hat : ∀ w ∈ vx_atS RX9 ic cls nEx, w ∈ gws ∨ w ∈ nGs)
    (d0 : decode J.1 pc = .ok (.new ik, 3)) (d3 : decode J.1 (pc + 3) = .ok (.dup, 1)) (d4 : decode J.1 (pc + 4) = .ok (.ldc is, 2)) (d6 : decode J.1 (pc + 6) = .ok (.invokespecial ic, 3)) (d9 : decode J.1 (pc + 9) = .ok (.athrow, 1)) : G Y J X g_fx pc lv [] M (some ((kd, 0), M)) := by
  intro hX r M' ho H ls locs hl hP hS
  cases ho
  obtain ⟨a, ha⟩ := hstr
  have hts := hX.2.2.2.2.2.1
  refine vx_throwS hX.1 hX.2.1 hE.1 (own := RX9) (names := nEx) (by rw [← hJ.1]; exact hX.2.2.2.2.1) hcls (by decide) (hts _ hck) (hts _ hci) ha (fun w h => (hat w h).elim (hts w) (fun h2 => (hE.2.2.2.2.2.2.2 w h2).use (nGs_on w h2))) ?_ hE.2.2.2.2.1 hE.2.2.2.2.2.1 hS (hl.1.trans hX.2.2.1.symm) d0 d3 d4 d6 d9 (fun x h => (hT x h).elim) (by show 2 + 3 < _; omega) (by show 0 + (13 * (2 + 1) + 43) ≤ _; omega) (by omega) (by omega) hX.2.2.2.2.2.2.1 (b_x hX hk hP hS) (fun z h => hS.2.2 z h) (by omega) (by omega)
  intro w hw
  have h : w ∈ gws ∨ w ∈ nGs := by
    rcases List.mem_cons.mp hw with e | hw
    · rw [e]; exact Or.inl hck
    · rcases List.mem_cons.mp hw with e | hw
      · rw [e]; exact Or.inl hci
      · exact hat w hw
  unfold vx_ot
  rcases h with h | h
  · rw [(List.mem_filter.mp h).2, Bool.or_true]
  · rw [nGs_on w h, Bool.true_or]
theorem G_thrSW (hE : g_ex (xA X) (xl X) (xs X) (xs X).heap) (hT : ∀ x ∈ (xc X).exceptionTable.toList, False) (hJ : J.2.2.1 = RX9 ∧ 10 ≤ J.2.2.2.2.frames ∧ 200 ≤ J.2.2.2.2.locals ∧ J.2.2.2.2.cells = 1 ∧ J.2.2.2.2.slots = 6) (hk : (kd = 1 ∧ cls = nISE) ∨ (kd = 2 ∧ cls = nIAE)) (hcls : Bundle.fit cls = true) (hck : Cond.classLink RX9 ik cls ∈ gws) (hci : Cond.initialized cls ∈ gws) (hstr : ∃ a, vk_R RX9 is tx a (xs X)) (hat : ∀ w ∈ vx_atS RX9 ic cls nEx, w ∈ gws ∨ w ∈ nGs)
    (d0 : decode J.1 pc = .ok (.new ik, 3)) (d3 : decode J.1 (pc + 3) = .ok (.dup, 1)) (d4 : decode J.1 (pc + 4) = .ok (.ldc_w is, 3)) (d6 : decode J.1 (pc + 7) = .ok (.invokespecial ic, 3)) (d9 : decode J.1 (pc + 10) = .ok (.athrow, 1)) : G Y J X g_fx pc lv [] M (some ((kd, 0), M)) := by
  intro hX r M' ho H ls locs hl hP hS
  cases ho
  obtain ⟨a, ha⟩ := hstr
  have hts := hX.2.2.2.2.2.1
  refine vx_throwSW hX.1 hX.2.1 hE.1 (own := RX9) (names := nEx) (by rw [← hJ.1]; exact hX.2.2.2.2.1) hcls (by decide) (hts _ hck) (hts _ hci) ha (fun w h => (hat w h).elim (hts w) (fun h2 => (hE.2.2.2.2.2.2.2 w h2).use (nGs_on w h2))) ?_ hE.2.2.2.2.1 hE.2.2.2.2.2.1 hS (hl.1.trans hX.2.2.1.symm) d0 d3 d4 d6 d9 (fun x h => (hT x h).elim) (by show 2 + 3 < _; omega) (by show 0 + (13 * (2 + 1) + 43) ≤ _; omega) (by omega) (by omega) hX.2.2.2.2.2.2.1 (b_x hX hk hP hS) (fun z h => hS.2.2 z h) (by omega) (by omega)
  intro w hw
  have h : w ∈ gws ∨ w ∈ nGs := by
    rcases List.mem_cons.mp hw with e | hw
    · rw [e]; exact Or.inl hck
    · rcases List.mem_cons.mp hw with e | hw
      · rw [e]; exact Or.inl hci
      · exact hat w hw
  unfold vx_ot
  rcases h with h | h
  · rw [(List.mem_filter.mp h).2, Bool.or_true]
  · rw [nGs_on w h, Bool.true_or]
end GBT
theorem clk_1 : Cond.classLink RX9 250 nISE ∈ gws := gw (mt_5 (List.mem_of_getElem? (i := 203) rfl)) rfl
theorem clk_2 : Cond.classLink RX9 257 nIAE ∈ gws := gw (mt_6 (List.mem_of_getElem? (i := 29) rfl)) rfl
theorem cin_1 : Cond.initialized nISE ∈ gws := gw (mt_1 (List.mem_of_getElem? (i := 20) rfl)) rfl
theorem cin_2 : Cond.initialized nIAE ∈ gws := gw (mt_1 (List.mem_of_getElem? (i := 21) rfl)) rfl
def f_X9_beat (a1 a2 : Int32) (M : gM) : Option ((Nat × Int32) × gM) := (g_b (f_X8_standsIn M) (fun r2 M1 => (if r2 < 0 then (some ((1, 0), M1)) else (g_or 3 12 (M1.2.2 0 4) (fun t3 => (g_b (f_X4_isOver t3 r2 M1) (fun r5 M4 => (if r5 then (some ((1, 0), M4)) else (if (M4.1 66 0) < (200 : Int32) then (g_or 3 12 (M4.2.2 0 4) (fun t6 => (g_b (f_X4_hasAct t6 a1 M4) (fun r8 M7 => (if r8 then (g_b (f_X0_allows r2 a1 M7) (fun r10 M9 => (if r10 then (g_b (f_X0_least r2 M9) (fun r12 M11 => (if a2 < r12 then (some ((2, 0), M11)) else (g_b (f_X0_greatest r2 M11) (fun r14 M13 => (if a2 ≤ r14 then (g_b (f_X0_after r2 a1 a2 M13) (fun r16 M15 => (g_b (f_X8_go a1 a2 r16 M15) (fun r18 M17 => (some ((0, r16), M17)))))) else (some ((2, 0), M13)))))))) else (some ((2, 0), M9))))) else (some ((2, 0), M7))))))) else (some ((1, 0), M4)))))))))))
set_option maxRecDepth 100000 in
set_option maxHeartbeats 4000000 in
theorem gok_X9_beat {X : gX} (hE : g_ex (xA X) (xl X) (xs X) (xs X).heap) (hT : ∀ x ∈ (xc X).exceptionTable.toList, False) (a1 a2 : Int32) (M : gM) : G Y1 jX9_beat X g_fx 0 [(0, .ref (ad X 0)), (1, .int a1), (2, .int a2)] [] M (f_X9_beat a1 a2 M) := by
  rw [f_X9_beat]
  refine G_aload_n 0 dX9_beat_0 rfl rfl ?_
  refine G_get 11 clX9 (y1_0) fl_X9_75 dX9_beat_1 (by decide) rfl rfl ?_
  refine G_cVi (As := []) (rest := []) (ok_X8_standsIn M) rfl (y1_66) rfl mv_X9_241 dX9_beat_4 rfl rfl (Nat.le_of_ble_eq_true rfl) ⟨⟨by decide, by decide⟩, rfl, rfl⟩ (fun r2 M1 => ?_)
  refine G_istore_n (lv' := [(3, .int r2), (0, .ref (ad X 0)), (1, .int a1), (2, .int a2)]) dX9_beat_7 rfl (by decide) rfl ?_
  refine G_iload_n 0 dX9_beat_8 rfl rfl ?_
  refine G_if_lt (tgt := 36) dX9_beat_9 (by decide) ?_ ?_
  · exact G_thrS (cls := nISE) hE hT ⟨rfl, by decide, by decide, rfl, rfl⟩ (Or.inl ⟨rfl, rfl⟩) (by decide) clk_1 cin_1 hE.2.1 at_1 dX9_beat_36 dX9_beat_39 dX9_beat_40 dX9_beat_42 dX9_beat_45
  · refine G_aload_n 1 dX9_beat_12 rfl rfl ?_
    refine G_getO 4 clX9 (y1_0) fl_X9_31 dX9_beat_13 (by decide) rfl (by decide) (fun t3 ht3 => ?_)
    refine G_iload_n 0 dX9_beat_16 rfl rfl ?_
    refine G_cVb (As := [.int r2]) (rest := []) (ok_X4_isOver ht3 r2 M1) rfl (ro_0 ht3) rfl mv_X9_244 dX9_beat_17 rfl rfl (Nat.le_of_ble_eq_true rfl) ⟨⟨by decide, by decide⟩, rfl, rfl⟩ (fun r5 M4 => ?_)
    refine G_ifB_ne (tgt := 36) dX9_beat_20 (by decide) ?_ ?_
    · exact G_thrS (cls := nISE) hE hT ⟨rfl, by decide, by decide, rfl, rfl⟩ (Or.inl ⟨rfl, rfl⟩) (by decide) clk_1 cin_1 hE.2.1 at_1 dX9_beat_36 dX9_beat_39 dX9_beat_40 dX9_beat_42 dX9_beat_45
    · refine G_aload_n 1 dX9_beat_23 rfl rfl ?_
      refine G_get 11 clX9 (y1_0) fl_X9_75 dX9_beat_24 (by decide) rfl rfl ?_
      refine G_get 0 clX8 (y1_66) fl_X9_247 dX9_beat_27 (by decide) rfl rfl ?_
      refine G_sipush (v := 200) dX9_beat_30 (by decide) ?_
      refine G_icmp_lt (tgt := 46) dX9_beat_33 (by decide) ?_ ?_
      · refine G_aload_n 1 dX9_beat_46 rfl rfl ?_
        refine G_getO 4 clX9 (y1_0) fl_X9_31 dX9_beat_47 (by decide) rfl (by decide) (fun t6 ht6 => ?_)
        refine G_iload_n 2 dX9_beat_50 rfl rfl ?_
        refine G_cVb (As := [.int a1]) (rest := []) (ok_X4_hasAct ht6 a1 M4) rfl (ro_0 ht6) rfl mv_X9_126 dX9_beat_51 rfl rfl (Nat.le_of_ble_eq_true rfl) ⟨⟨by decide, by decide⟩, rfl, rfl⟩ (fun r8 M7 => ?_)
        refine G_ifB_eq (tgt := 69) dX9_beat_54 (by decide) ?_ ?_
        · exact G_thrSW (cls := nIAE) hE hT ⟨rfl, by decide, by decide, rfl, rfl⟩ (Or.inr ⟨rfl, rfl⟩) (by decide) clk_2 cin_2 hE.2.2.1 at_2 dX9_beat_69 dX9_beat_72 dX9_beat_73 dX9_beat_76 dX9_beat_79
        · refine G_aload_n 1 dX9_beat_57 rfl rfl ?_
          refine G_get 7 clX9 (y1_0) fl_X9_45 dX9_beat_58 (by decide) rfl rfl ?_
          refine G_iload_n 0 dX9_beat_61 rfl rfl ?_
          refine G_iload_n 2 dX9_beat_62 rfl rfl ?_
          refine G_cVb (As := [.int r2, .int a1]) (rest := []) (ok_X0_allows r2 a1 M7) rfl (y1_27) rfl mv_X9_129 dX9_beat_63 rfl rfl (Nat.le_of_ble_eq_true rfl) ⟨⟨by decide, by decide⟩, rfl, rfl⟩ (fun r10 M9 => ?_)
          refine G_ifB_ne (tgt := 80) dX9_beat_66 (by decide) ?_ ?_
          · refine G_iload_n 3 dX9_beat_80 rfl rfl ?_
            refine G_aload_n 1 dX9_beat_81 rfl rfl ?_
            refine G_get 7 clX9 (y1_0) fl_X9_45 dX9_beat_82 (by decide) rfl rfl ?_
            refine G_iload_n 0 dX9_beat_85 rfl rfl ?_
            refine G_cVi (As := [.int r2]) (rest := [.int a2]) (ok_X0_least r2 M9) rfl (y1_27) rfl mv_X9_137 dX9_beat_86 rfl rfl (Nat.le_of_ble_eq_true rfl) ⟨⟨by decide, by decide⟩, rfl, rfl⟩ (fun r12 M11 => ?_)
            refine G_icmp_lt (tgt := 104) dX9_beat_89 (by decide) ?_ ?_
            · exact G_thrSW (cls := nIAE) hE hT ⟨rfl, by decide, by decide, rfl, rfl⟩ (Or.inr ⟨rfl, rfl⟩) (by decide) clk_2 cin_2 hE.2.2.2.1 at_2 dX9_beat_104 dX9_beat_107 dX9_beat_108 dX9_beat_111 dX9_beat_114
            · refine G_iload_n 3 dX9_beat_92 rfl rfl ?_
              refine G_aload_n 1 dX9_beat_93 rfl rfl ?_
              refine G_get 7 clX9 (y1_0) fl_X9_45 dX9_beat_94 (by decide) rfl rfl ?_
              refine G_iload_n 0 dX9_beat_97 rfl rfl ?_
              refine G_cVi (As := [.int r2]) (rest := [.int a2]) (ok_X0_greatest r2 M11) rfl (y1_27) rfl mv_X9_133 dX9_beat_98 rfl rfl (Nat.le_of_ble_eq_true rfl) ⟨⟨by decide, by decide⟩, rfl, rfl⟩ (fun r14 M13 => ?_)
              refine G_icmp_le (tgt := 115) dX9_beat_101 (by decide) ?_ ?_
              · refine G_aload_n 1 dX9_beat_115 rfl rfl ?_
                refine G_get 7 clX9 (y1_0) fl_X9_45 dX9_beat_116 (by decide) rfl rfl ?_
                refine G_iload_n 0 dX9_beat_119 rfl rfl ?_
                refine G_iload_n 2 dX9_beat_120 rfl rfl ?_
                refine G_iload_n 3 dX9_beat_121 rfl rfl ?_
                refine G_cVi (As := [.int r2, .int a1, .int a2]) (rest := []) (ok_X0_after r2 a1 a2 M13) rfl (y1_27) rfl mv_X9_143 dX9_beat_122 rfl rfl (Nat.le_of_ble_eq_true rfl) ⟨⟨by decide, by decide⟩, rfl, rfl⟩ (fun r16 M15 => ?_)
                refine G_istore (lv' := [(4, .int r16), (3, .int r2), (0, .ref (ad X 0)), (1, .int a1), (2, .int a2)]) dX9_beat_125 (by decide) rfl ?_
                refine G_aload_n 2 dX9_beat_127 rfl rfl ?_
                refine G_get 11 clX9 (y1_0) fl_X9_75 dX9_beat_128 (by decide) rfl rfl ?_
                refine G_iload_n 3 dX9_beat_131 rfl rfl ?_
                refine G_iload_n 4 dX9_beat_132 rfl rfl ?_
                refine G_iload 0 dX9_beat_133 rfl ?_
                refine G_cVv (As := [.int a1, .int a2, .int r16]) (rest := []) (ok_X8_go a1 a2 r16 M15) rfl (y1_66) rfl mv_X9_264 dX9_beat_135 rfl rfl (Nat.le_of_ble_eq_true rfl) ⟨⟨by decide, by decide⟩, rfl, rfl⟩ (fun r18 M17 => ?_)
                refine G_iload 0 dX9_beat_138 rfl ?_
                exact G_fxret rfl dX9_beat_140
              · exact G_thrSW (cls := nIAE) hE hT ⟨rfl, by decide, by decide, rfl, rfl⟩ (Or.inr ⟨rfl, rfl⟩) (by decide) clk_2 cin_2 hE.2.2.2.1 at_2 dX9_beat_104 dX9_beat_107 dX9_beat_108 dX9_beat_111 dX9_beat_114
          · exact G_thrSW (cls := nIAE) hE hT ⟨rfl, by decide, by decide, rfl, rfl⟩ (Or.inr ⟨rfl, rfl⟩) (by decide) clk_2 cin_2 hE.2.2.1 at_2 dX9_beat_69 dX9_beat_72 dX9_beat_73 dX9_beat_76 dX9_beat_79
      · exact G_thrS (cls := nISE) hE hT ⟨rfl, by decide, by decide, rfl, rfl⟩ (Or.inl ⟨rfl, rfl⟩) (by decide) clk_1 cin_1 hE.2.1 at_1 dX9_beat_36 dX9_beat_39 dX9_beat_40 dX9_beat_42 dX9_beat_45
