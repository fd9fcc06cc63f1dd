def wch (k : Nat) : Int32 := wBy.getD k 0
abbrev sv (X : gX) : Nat := (xZ X).2.2.2.2.2.2
section GST
variable {β : Type} {Y : gY} {J : gJ} {X : gX} {fi : gY → gX → β → gM → State → Prop} {pc idx : Nat} {lv : List (Nat × Value)} {st : List Value} {M : gM} {o : Option (β × gM)}
theorem G_ldcS (hw : J.2.2.1 = RX7) (hd : decode J.1 pc = .ok (.ldc wIx, 2)) (k : G Y J X fi (pc + 2) lv (.ref (sa X) :: st) M o) : G Y J X fi pc lv st M o := by
  intro hX r M' ho H ls locs hl hP hS
  refine va_ldcS hX.1 hX.2.1 (own := RX7) (tx := wTx) (by rw [← hw]; exact hX.2.2.2.2.1) hX.2.2.2.2.2.2.2.2.2.2.1 hd (k hX r M' ho H ls locs hl hP hS)
theorem G_sval (hw : Cond.fieldLink J.2.2.1 idx "java/lang/String" "value" "[B" ∈ gws) (hd : decode J.1 pc = .ok (.getfield idx, 3)) (k : G Y J X fi (pc + 3) lv (.ref (sv X) :: st) M o) : G Y J X fi pc lv (.ref (sa X) :: st) M o := by
  intro hX r M' ho H ls locs hl hP hS
  exact vk_getf hX.1 hX.2.1 (hX.2.2.2.2.2.2.2.2.2.2.2.1.1 0 (by decide)).2.2.1 hS hX.2.2.2.2.1 (hX.2.2.2.2.2.1 _ hw) (fun _ h => h) hd (k hX r M' ho H ls locs hl hP hS)
theorem G_scod (hw : Cond.fieldLink J.2.2.1 idx "java/lang/String" "coder" "B" ∈ gws) (hd : decode J.1 pc = .ok (.getfield idx, 3)) (k : G Y J X fi (pc + 3) lv (.int 0 :: st) M o) : G Y J X fi pc lv (.ref (sa X) :: st) M o := by
  intro hX r M' ho H ls locs hl hP hS
  exact vk_getf hX.1 hX.2.1 (hX.2.2.2.2.2.2.2.2.2.2.2.1.1 0 (by decide)).2.1 hS hX.2.2.2.2.1 (hX.2.2.2.2.2.1 _ hw) (fun _ h => h) hd (k hX r M' ho H ls locs hl hP hS)
theorem G_gcs (hw : Cond.fieldLink J.2.2.1 idx "java/lang/String" "COMPACT_STRINGS" "Z" ∈ gws) (hd : decode J.1 pc = .ok (.getstatic idx, 3)) (k : G Y J X fi (pc + 3) lv (.int 1 :: st) M o) : G Y J X fi pc lv st M o := by
  intro hX r M' ho H ls locs hl hP hS
  exact va_gets hX.1 hX.2.1 hX.2.2.2.2.2.2.2.2.2.2.2.2.1 hS hX.2.2.2.2.1 (hX.2.2.2.2.2.1 _ hw) (fun _ h => h) hd (k hX r M' ho H ls locs hl hP hS)
theorem G_gsio (hw : Cond.fieldLink J.2.2.1 idx "jdk/internal/util/Preconditions" "SIOOBE_FORMATTER" "Ljava/util/function/BiFunction;" ∈ gws) (hd : decode J.1 pc = .ok (.getstatic idx, 3)) (k : ∀ v : Value, v.category = 1 → G Y J X fi (pc + 3) lv (v :: st) M o) : G Y J X fi pc lv st M o := by
  intro hX r M' ho H ls locs hl hP hS
  rcases hX.2.2.2.2.2.2.2.2.2.2.2.2.2 with h | ⟨t, h⟩
  · exact va_gets hX.1 hX.2.1 h hS hX.2.2.2.2.1 (hX.2.2.2.2.2.1 _ hw) (fun _ h => h) hd (k _ rfl hX r M' ho H ls locs hl hP hS)
  · exact va_gets hX.1 hX.2.1 h hS hX.2.2.2.2.1 (hX.2.2.2.2.2.1 _ hw) (fun _ h => h) hd (k _ rfl hX r M' ho H ls locs hl hP hS)
theorem G_slen (hd : decode J.1 pc = .ok (.arraylength, 1)) (k : G Y J X fi (pc + 1) lv (.int 102 :: st) M o) : G Y J X fi pc lv (.ref (sv X) :: st) M o := by
  intro hX r M' ho H ls locs hl hP hS
  exact va_tlen hX.1 hX.2.1 (hX.2.2.2.2.2.2.2.2.2.2.2.1.1 0 (by decide)).2.2.2 hS rfl hd (k hX r M' ho H ls locs hl hP hS)
theorem G_sbal {i : Int32} (hd : decode J.1 pc = .ok (.baload, 1)) (k : G Y J X fi (pc + 1) lv (.int (wch (tn i)) :: st) M o) : G Y J X fi pc lv (.int i :: .ref (sv X) :: st) M (g_ck i 102 o) := by
  intro hX r M' ho H ls locs hl hP hS
  unfold g_ck at ho
  split at ho
  · cases ho
  · next hne => exact va_tb hX.1 hX.2.1 (hX.2.2.2.2.2.2.2.2.2.2.2.1.1 0 (by decide)).2.2.2 hS hne rfl hd (k hX r M' ho H ls locs hl hP hS)
theorem G_i2c {x : Int32} (hd : decode J.1 pc = .ok (.i2c, 1)) (k : G Y J X fi (pc + 1) lv (.int ((x.toUInt32 % 65536).toInt32) :: st) M o) : G Y J X fi pc lv (.int x :: st) M o := by
  intro hX r M' ho H ls locs hl hP hS
  exact lv_i2c hX.1 hX.2.1 hd rfl (k hX r M' ho H ls locs hl hP hS)
theorem G_tret {ty : FieldType} {x : Int32} (hr : J.2.2.2.1 = some ty) (hn : narrow ty (.int x) = .int x) (hd : decode J.1 pc = .ok (.ireturn, 1)) : G Y J X (g_fin g_ei) pc lv [.int x] M (some (x, M)) := by
  intro hX r M' ho H ls locs hl hP hS
  cases ho
  exact W.zret hX.1 hX.2.1 (hX.2.2.2.1.trans hr) hn (fun t ht _ => ⟨⟨rfl, by rw [ht]; exact hP⟩, hS.F ht⟩) (fun q hq => hS.2.2 q hq) hd hX.2.2.2.2.2.2.1
theorem G_o {o' : Option (β × gM)} (h : o = o') (k : G Y J X fi pc lv st M o') : G Y J X fi pc lv st M o := by rw [h]; exact k
theorem G_cVs {β' : Type} {J' : gJ} {en' : β' → Option Value} {n : Nat} {st0 As rest : List Value} {y : MethodName} {vs : gZ → List Value} {fo : Option (β' × gM)} {kf : β' → gM → Option (β × gM)} (hm : g_met Y y J' en' vs M fo) (hvs : vs (xZ X) = .ref (sa X) :: As) (hcl : y.cls = "java/lang/String") (hw : g_wV J.2.2.1 idx y J' n) (hd : decode J.1 pc = .ok (.invokevirtual idx, 3)) (hn : As.length = n) (hst : st0 = As.reverse ++ .ref (sa X) :: rest) (hc : (rest.map fun v => v.category).sum ≤ 8) (hr : g_fit J' J)
    (kk : ∀ (r : β') (M1 : gM), fo = some (r, M1) → G Y J X fi (pc + 3) lv ((en' r).toList ++ rest) M1 (kf r M1)) : G Y J X fi pc lv st0 M (g_b fo kf) := by
  intro hX r M' ho H ls locs hl hP hS
  cases fo with
  | none => cases ho
  | some q =>
    obtain ⟨r1, M1⟩ := q
    have hmm := hm (xl X) (xZ X) H.size r1 M1 rfl
    obtain ⟨hx, hb, hml, hrt, hown, hts, hlk, hK, hD, hA, hen⟩ := id hX
    have hsub := g_Asub hD hA hS
    refine g_go (va_runV ⟨hx, hb, hml, hown, hts⟩ hmm ⟨g_cb hts hw.1 hr.1 hr.2, hts _ hw.2.1, hts _ hw.2.2⟩ ⟨g_blind, by rw [hcl]; exact vk_recv hen.2.1 (i := 0) (by decide) hS, fun U hU hW => ⟨by rw [hvs], by rw [hU], by rw [hU]; exact hP, va_K.moved hW.alike hK, ⟨hD.1, fun _ _ => trivial⟩, hen.go hW hS hsub hU⟩⟩ rfl hn hl.1 hst (lv_room hc) hd ⟨Nat.zero_le _, Nat.zero_le _⟩) hS (fun q _ h => hsub q h) hsub (fun H1 locs1 hP1 hS1 => ?_)
    exact kk r1 M1 rfl hX r M' ho H1 ls locs1 hl hP1 hS1
end GST
theorem ok_J0_coder {Y : gY} (M : gM) : g_met Y yJ0_coder_7d493 jJ0_coder_7d493 g_ei (fun Z => [.ref Z.2.2.2.2.2.1]) M (some (0, M)) := by
  refine g_enter (fun Z => [(0, .ref Z.2.2.2.2.2.1)]) (by decide) rfl (fun Z => Nat.le_of_ble_eq_true rfl) (fun Z => rfl) (fun X => ?_)
  refine G_gcs fl_J0_38 dJ0_coder_7d493_0 ?_
  refine G_o (o' := if (1 : Int32) = 0 then none else some (0, M)) rfl ?_
  refine G_if_eq (tgt := 13) dJ0_coder_7d493_3 (by decide) G_none ?_
  refine G_aload_n 0 dJ0_coder_7d493_6 rfl rfl ?_
  refine G_scod fl_J0_15 dJ0_coder_7d493_7 ?_
  refine G_goto (tgt := 14) dJ0_coder_7d493_10 (by decide) ?_
  exact G_tret rfl rfl dJ0_coder_7d493_14
theorem ok_J0_isLatin1 {Y : gY} (M : gM) : g_met Y yJ0_isLatin1_aae02 jJ0_isLatin1_aae02 g_eb (fun Z => [.ref Z.2.2.2.2.2.1]) M (some (true, M)) := by
  refine g_enter (fun Z => [(0, .ref Z.2.2.2.2.2.1)]) (by decide) rfl (fun Z => Nat.le_of_ble_eq_true rfl) (fun Z => rfl) (fun X => ?_)
  refine G_gcs fl_J0_38 dJ0_isLatin1_aae02_0 ?_
  refine G_o (o' := if (1 : Int32) = 0 then none else some (true, M)) rfl ?_
  refine G_if_eq (tgt := 17) dJ0_isLatin1_aae02_3 (by decide) G_none ?_
  refine G_aload_n 0 dJ0_isLatin1_aae02_6 rfl rfl ?_
  refine G_scod fl_J0_15 dJ0_isLatin1_aae02_7 ?_
  refine G_o (o' := if (0 : Int32) = 0 then some (true, M) else none) rfl ?_
  refine G_if_ne (tgt := 17) dJ0_isLatin1_aae02_10 (by decide) G_none ?_
  refine G_iconst (v := 1) dJ0_isLatin1_aae02_13 (by decide) ?_
  refine G_goto (tgt := 18) dJ0_isLatin1_aae02_14 (by decide) ?_
  exact G_zret (b := true) rfl dJ0_isLatin1_aae02_18
theorem ok_J0_length {Y : gY} (M : gM) : g_met Y yJ0_length_8abf5 jJ0_length_8abf5 g_ei (fun Z => [.ref Z.2.2.2.2.2.1]) M (some (102, M)) := by
  refine g_enter (fun Z => [(0, .ref Z.2.2.2.2.2.1)]) (by decide) rfl (fun Z => Nat.le_of_ble_eq_true rfl) (fun Z => rfl) (fun X => ?_)
  refine G_aload_n 0 dJ0_length_8abf5_0 rfl rfl ?_
  refine G_sval fl_J0_9 dJ0_length_8abf5_1 ?_
  refine G_slen dJ0_length_8abf5_4 ?_
  refine G_aload_n 0 dJ0_length_8abf5_5 rfl rfl ?_
  refine G_o (o' := g_b (some ((0 : Int32), M)) (fun r M => some (102 >>> (r &&& 31), M))) (by show _ = some ((102 : Int32) >>> ((0 : Int32) &&& 31), M); rw [show (102 : Int32) >>> ((0 : Int32) &&& 31) = 102 by decide]) ?_
  refine G_cVs (As := []) (rest := [.int 102]) (ok_J0_coder M) rfl rfl mv_J0_335 dJ0_length_8abf5_6 rfl rfl (Nat.le_of_ble_eq_true rfl) (g_fitN (by decide) (by decide)) (fun r M1 _ => ?_)
  show G Y _ X _ _ _ [.int r, .int 102] M1 _
  refine G_ishr dJ0_length_8abf5_9 ?_
  exact G_iret rfl dJ0_length_8abf5_10
def f_ckI (i n : Int32) (M : gM) : Option (Int32 × gM) := if i < 0 then none else if i < n then some (i, M) else none
theorem ok_J3_ck {Y : gY} (i n : Int32) (v : Value) (hv : v.category = 1) (M : gM) : g_met Y yJ3_checkIndex_8e157 jJ3_checkIndex_8e157 g_ei (fun _ => [.int i, .int n, v]) M (f_ckI i n M) := by
  refine g_enter (fun _ => [(0, .int i), (1, .int n), (2, v)]) (by decide) rfl (fun Z => ?_) (fun Z => rfl) (fun X => ?_)
  · show (lg_sl [.int i, .int n, v]).length ≤ 3
    simp [lg_sl, hv, show (Value.int i).category = 1 from rfl, show (Value.int n).category = 1 from rfl]
  · rw [f_ckI]
    refine G_iload_n 0 dJ3_checkIndex_8e157_0 rfl rfl ?_
    refine G_if_lt (tgt := 9) dJ3_checkIndex_8e157_1 (by decide) G_none ?_
    refine G_iload_n 0 dJ3_checkIndex_8e157_4 rfl rfl ?_
    refine G_iload_n 1 dJ3_checkIndex_8e157_5 rfl rfl ?_
    refine G_icmp_lt (tgt := 16) dJ3_checkIndex_8e157_6 (by decide) ?_ G_none
    refine G_iload_n 0 dJ3_checkIndex_8e157_16 rfl rfl ?_
    exact G_iret rfl dJ3_checkIndex_8e157_17
theorem ok_J0_ck {Y : gY} (i n : Int32) (M : gM) : g_met Y yJ0_checkIndex_df160 jJ0_checkIndex_df160 g_ev (fun _ => [.int i, .int n]) M (g_b (f_ckI i n M) (fun _ M => some ((), M))) := by
  refine g_enter (fun _ => [(0, .int i), (1, .int n)]) (by decide) rfl (fun Z => Nat.le_of_ble_eq_true rfl) (fun Z => rfl) (fun X => ?_)
  refine G_iload_n 0 dJ0_checkIndex_df160_0 rfl rfl ?_
  refine G_iload_n 1 dJ0_checkIndex_df160_1 rfl rfl ?_
  refine G_gsio fl_J0_1053 dJ0_checkIndex_df160_2 (fun v hv => ?_)
  refine G_cSi (As := [.int i, .int n, v]) (rest := []) (ok_J3_ck i n v hv M) rfl ms_J0_1059 dJ0_checkIndex_df160_5 rfl rfl (Nat.le_of_ble_eq_true rfl) (g_fitN (by decide) (by decide)) (fun r M1 => ?_)
  refine G_pop dJ0_checkIndex_df160_8 rfl ?_
  exact G_vret rfl dJ0_checkIndex_df160_9
def f_chA (i : Int32) (M : gM) : Option (Int32 × gM) := g_b (g_b (f_ckI i 102 M) (fun _ M => some ((), M))) (fun _ M => g_ck i 102 (some (((wch (tn i) &&& 255).toUInt32 % 65536).toInt32, M)))
theorem nar_c (x : Int32) : narrow .char (.int ((x.toUInt32 % 65536).toInt32)) = .int ((x.toUInt32 % 65536).toInt32) := pk_nc x
theorem ok_J1_ch {Y : gY} (i : Int32) (M : gM) : g_met Y yJ1_charAt_3b067 jJ1_charAt_3b067 g_ei (fun Z => [.ref Z.2.2.2.2.2.2, .int i]) M (f_chA i M) := by
  refine g_enter (fun Z => [(0, .ref Z.2.2.2.2.2.2), (1, .int i)]) (by decide) rfl (fun Z => Nat.le_of_ble_eq_true rfl) (fun Z => rfl) (fun X => ?_)
  rw [f_chA]
  refine G_iload_n 1 dJ1_charAt_3b067_0 rfl rfl ?_
  refine G_aload_n 0 dJ1_charAt_3b067_1 rfl rfl ?_
  refine G_slen dJ1_charAt_3b067_2 ?_
  refine G_cSv (As := [.int i, .int 102]) (rest := []) (ok_J0_ck i 102 M) rfl ms_J1_9 dJ1_charAt_3b067_3 rfl rfl (Nat.le_of_ble_eq_true rfl) (g_fitN (by decide) (by decide)) (fun r M1 => ?_)
  refine G_aload_n 0 dJ1_charAt_3b067_6 rfl rfl ?_
  refine G_iload_n 1 dJ1_charAt_3b067_7 rfl rfl ?_
  refine G_sbal dJ1_charAt_3b067_8 ?_
  refine G_sipush (v := 255) dJ1_charAt_3b067_9 (by decide) ?_
  refine G_iand dJ1_charAt_3b067_12 ?_
  refine G_i2c dJ1_charAt_3b067_13 ?_
  exact G_tret rfl (nar_c _) dJ1_charAt_3b067_14
theorem ok_J0_ch {Y : gY} (i : Int32) (M : gM) : g_met Y yJ0_charAt_5068e jJ0_charAt_5068e g_ei (fun Z => [.ref Z.2.2.2.2.2.1, .int i]) M (g_b (some (true, M)) (fun b M => if b then g_b (f_chA i M) (fun r M => if narrow .char (.int r) = .int r then some (r, M) else none) else none)) := by
  refine g_enter (fun Z => [(0, .ref Z.2.2.2.2.2.1), (1, .int i)]) (by decide) rfl (fun Z => Nat.le_of_ble_eq_true rfl) (fun Z => rfl) (fun X => ?_)
  refine G_aload_n 0 dJ0_charAt_5068e_0 rfl rfl ?_
  refine G_cVs (As := []) (rest := []) (ok_J0_isLatin1 M) rfl rfl mv_J0_492 dJ0_charAt_5068e_1 rfl rfl (Nat.le_of_ble_eq_true rfl) (g_fitN (by decide) (by decide)) (fun r M1 _ => ?_)
  show G Y _ X _ _ _ [.int (b2i r)] M1 _
  refine G_ifB_eq (tgt := 16) dJ0_charAt_5068e_4 (by decide) G_none ?_
  refine G_aload_n 0 dJ0_charAt_5068e_7 rfl rfl ?_
  refine G_sval fl_J0_9 dJ0_charAt_5068e_8 ?_
  refine G_iload_n 1 dJ0_charAt_5068e_11 rfl rfl ?_
  refine G_cSi (As := [.ref (sv X), .int i]) (rest := []) (ok_J1_ch i M1) rfl ms_J0_495 dJ0_charAt_5068e_12 rfl rfl (Nat.le_of_ble_eq_true rfl) (g_fitN (by decide) (by decide)) (fun r2 M2 => ?_)
  refine G_ite (fun h => ?_) (fun _ => G_none)
  exact G_tret rfl h dJ0_charAt_5068e_15
section GSU
variable {β : Type} {Y : gY} {J : gJ} {X : gX} {fi : gY → gX → β → gM → State → Prop} {pc idx : Nat} {lv : List (Nat × Value)} {st : List Value} {M : gM} {o : Option (β × gM)}
theorem G_strLen (hj : J.2.2.1 = RX7 ∧ 8 ≤ J.2.2.2.2.frames ∧ 320 ≤ J.2.2.2.2.locals) (hd : decode J.1 pc = .ok (.invokevirtual 71, 3)) (hc : (st.map fun v => v.category).sum ≤ 8) (k : G Y J X fi (pc + 3) lv (.int 102 :: st) M o) : G Y J X fi pc lv (.ref (sa X) :: st) M o := by
  refine G_o (o' := g_b (some ((102 : Int32), M)) (fun _ _ => o)) rfl ?_
  refine G_cVs (As := []) (rest := st) (ok_J0_length M) rfl rfl (by rw [hj.1]; exact mv_X7_71) hd rfl rfl hc ⟨⟨by have := hj.2.1; show 2 + 1 ≤ _; omega, by have := hj.2.2; show 8 + (1 + 11) + 40 * 2 ≤ _; omega⟩, rfl, rfl⟩ (fun r M1 h => ?_)
  cases h
  exact k
theorem wch_c : ∀ k : Nat, ((wch k &&& 255).toUInt32 % 65536).toInt32 = wch k := by
  intro k
  by_cases hk : k < 102
  · have h : ∀ k, k < 102 → ((wch k &&& 255).toUInt32 % 65536).toInt32 = wch k := by decide +kernel
    exact h k hk
  · have h : wch k = 0 := by
      unfold wch
      rw [List.getD_eq_getElem?_getD, List.getElem?_eq_none (show wBy.length ≤ k from Nat.not_lt.mp hk)]
      rfl
    rw [h]
    decide
theorem f_chA_eq (i : Int32) (M : gM) (h : ¬ (i < 0 ∨ 102 ≤ i.toNatClampNeg)) : f_chA i M = some (wch (tn i), M) := by
  have h1 : ¬ i < 0 := fun z => h (Or.inl z)
  have h2 : i < 102 := by
    have h3 : ¬ 102 ≤ i.toNatClampNeg := fun z => h (Or.inr z)
    obtain ⟨j, hj, rfl⟩ := nI_of h1
    rw [nI_clamp hj] at h3
    exact nI_lt (a := j) (b := 102) (by omega) (by decide)
  simp only [f_chA, f_ckI, if_neg h1, if_pos h2, g_b, g_ck, if_neg h, wch_c]
theorem G_strChar {i : Int32} (hj : J.2.2.1 = RX7 ∧ 8 ≤ J.2.2.2.2.frames ∧ 320 ≤ J.2.2.2.2.locals) (hd : decode J.1 pc = .ok (.invokevirtual 77, 3)) (hc : (st.map fun v => v.category).sum ≤ 8) (k : G Y J X fi (pc + 3) lv (.int (wch (tn i)) :: st) M o) : G Y J X fi pc lv (.int i :: .ref (sa X) :: st) M (g_ck i 102 o) := by
  unfold g_ck
  refine G_ite (fun _ => G_none) (fun hi => ?_)
  have hn : narrow .char (.int (wch (tn i))) = .int (wch (tn i)) := by rw [← wch_c]; exact nar_c _
  have e : g_b (some (true, M)) (fun b M => if b then g_b (f_chA i M) (fun r M => if narrow .char (.int r) = .int r then some (r, M) else none) else none) = some (wch (tn i), M) := by
    show g_b (f_chA i M) _ = _
    rw [f_chA_eq i M hi]
    show (if narrow .char (.int (wch (tn i))) = .int (wch (tn i)) then some (wch (tn i), M) else none) = _
    rw [if_pos hn]
  refine G_o (o' := g_b (some (wch (tn i), M)) (fun _ _ => o)) rfl ?_
  refine G_cVs (As := [.int i]) (rest := st) (e ▸ ok_J0_ch i M) rfl rfl (by rw [hj.1]; exact mv_X7_77) hd rfl rfl hc ⟨⟨by have := hj.2.1; show 4 + 1 ≤ _; omega, by have := hj.2.2; show 8 + (2 + 11) + 40 * 4 ≤ _; omega⟩, rfl, rfl⟩ (fun r M1 h => ?_)
  cases h
  exact k
end GSU
