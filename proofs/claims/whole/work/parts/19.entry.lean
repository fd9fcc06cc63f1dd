/-! the start: what the Statement gives of it -/
theorem s_no {s : State} : ∀ a : Nat, a < s.heap.size → ¬ (fun q : Nat => s.heap.size ≤ q) a := fun a h h2 => absurd h (Nat.not_lt.mpr h2)
def tm69 : Term := .string "RopeSchool$Tokens" 69
theorem fl_69 : ∀ j, j < 102 → Cond.eq (.elem (.field tm69 "java/lang/String" "value" "[B") (.int (Int32.ofNat j))) (.int (wBy.getD j 0)) ∈ flatC (Jvm.Cond.and given_1 narrow_1) := by decide +kernel
theorem s_str {s : State} {b : Nat} (hgv : (Jvm.Cond.and given_1 narrow_1).before #[Value.ref b] s = true) (hts : ∀ w ∈ lw_tbl, w.before #[Value.ref b] s = true) : ∃ sa sv : Nat, vk_R RX7 wIx wTx sa s ∧ vk_S 1 [102] [wBy] (fun _ => sa) (fun _ => sv) (fun q => s.heap.size ≤ q) s s.heap := by
  have hs := flat_of_before _ hgv
  have h0 : ∀ i, i < 1 → i = 0 := fun i hi => by omega
  obtain ⟨adK, adV, hS, hE⟩ := vk_Sof (args := #[Value.ref b]) (s := s) (N := 1) (tm := fun _ => tm69) (len := [102]) (byt := [wBy]) (A := fun q => s.heap.size ≤ q) (fun i hi => by rw [h0 i hi]; decide) (fun _ _ => hs _ (by decide +kernel)) (fun _ _ => hs _ (by decide +kernel)) (fun _ _ => hs _ (by decide +kernel)) (fun i hi => by rw [h0 i hi]; exact hs _ (by decide +kernel)) (fun i hi j hj => by rw [h0 i hi] at hj ⊢; exact hs _ (fl_69 j hj)) (fun i j hi hj h => by omega) s_no
  refine ⟨adK 0, adV 0, vk_R.of (hts _ (mt_3 (List.mem_of_getElem? (i := 35) rfl))) (hE 0 (by decide)), fun i hi => ?_, fun i j hi hj _ => by omega⟩
  have : i = 0 := by omega
  subst this
  exact hS.1 0 (by decide)
theorem s_ref {s : State} {args : Array Value} {t : Term} (h : (Cond.exactly t "java/lang/String").before args s = true) : ∃ a, t.eval args s none [] s = some (.ref a) := by
  obtain ⟨a, c, cA, kA, q1, -⟩ := Cond.exactly_spec (args := args) (first := s) (o := none) (s := s) (idx := []) (t := t) (cls := "java/lang/String") h
  exact ⟨a, q1⟩
theorem s_ex {l : Launch} {s : State} {b : Nat} (hl : l.stackTraces = false) (hgv : (Jvm.Cond.and given_1 narrow_1).before #[Value.ref b] s = true) (hts : ∀ w ∈ lw_tbl, w.before #[Value.ref b] s = true) : g_ex (fun q => s.heap.size ≤ q) l s s.heap := by
  have hs := flat_of_before _ hgv
  obtain ⟨a1, h1⟩ := s_ref (hs (.exactly (.string "RopeSchool" 252) "java/lang/String") (by decide +kernel))
  obtain ⟨a2, h2⟩ := s_ref (hs (.exactly (.string "RopeSchool" 259) "java/lang/String") (by decide +kernel))
  obtain ⟨a3, h3⟩ := s_ref (hs (.exactly (.string "RopeSchool" 262) "java/lang/String") (by decide +kernel))
  refine ⟨hl, ⟨a1, vk_R.of (hts _ (mt_6 (List.mem_of_getElem? (i := 3) rfl))) h1⟩, ⟨a2, vk_R.of (hts _ (mt_6 (List.mem_of_getElem? (i := 38) rfl))) h2⟩, ⟨a3, vk_R.of (hts _ (mt_6 (List.mem_of_getElem? (i := 45) rfl))) h3⟩, vx_Zqof (hts _ (mt_5 (List.mem_of_getElem? (i := 230) rfl))) (hts _ (mt_1 (List.mem_of_getElem? (i := 17) rfl))) (hs _ (by decide +kernel)) s_no, vx_Zqof (hts _ (mt_5 (List.mem_of_getElem? (i := 232) rfl))) (hts _ (mt_1 (List.mem_of_getElem? (i := 17) rfl))) (hs _ (by decide +kernel)) s_no, va_Nc.of (hs _ (by decide +kernel)), fun w hw => va_Nw.of (nGs_on w hw) (hts w ?_)⟩
  have h : ∀ w ∈ nGs, w ∈ lw_tbl := by decide +kernel
  exact h w hw
theorem s_en {s : State} {b : Nat} {Z : gZ} (hgv : (Jvm.Cond.and given_1 narrow_1).before #[Value.ref b] s = true) (hts : ∀ w ∈ lw_tbl, w.before #[Value.ref b] s = true) (h1 : vk_R RX7 wIx wTx Z.2.2.2.2.2.1 s) (h2 : vk_S 1 [102] [wBy] (fun _ => Z.2.2.2.2.2.1) (fun _ => Z.2.2.2.2.2.2) (fun q => s.heap.size ≤ q) s s.heap) : g_en Z (fun q => s.heap.size ≤ q) s s.heap := by
  have hs := flat_of_before _ hgv
  exact ⟨h1, h2, va_Zof (hts _ (mt_3 (List.mem_of_getElem? (i := 45) rfl))) (hts _ (mt_1 (List.mem_of_getElem? (i := 12) rfl))) (va_eqt (hs _ (by decide +kernel))) s_no, va_Zqof (hts _ (mt_3 (List.mem_of_getElem? (i := 61) rfl))) (hts _ (mt_1 (List.mem_of_getElem? (i := 14) rfl))) (hs _ (by decide +kernel)) s_no⟩
theorem s_ns {s : State} {b : Nat} (hts : ∀ w ∈ lw_tbl, w.before #[Value.ref b] s = true) : g_ns s := ⟨va_Nw.of rfl (hts _ (mt_1 (List.mem_of_getElem? (i := 128) rfl))), va_Nw.of rfl (hts _ (mt_1 (List.mem_of_getElem? (i := 188) rfl)))⟩
theorem s_arr {s : State} {args : Array Value} {ty : FieldType} (h : (Cond.arrayClass ty).before args s = true) (ht : ∀ U c, va_RA U c ty ↔ U.vm.findClass ("[" ++ ty.toString) = some c) : ∃ c, ArrOfT s c ty ∧ va_RA s c ty := by
  obtain ⟨c, k, comp, h1, h2, h3⟩ := Cond.arrayClass_spec h
  exact ⟨c, fun n z => ⟨fun k h => (by cases h), k, h2, comp, h3⟩, (ht s c).mpr h1⟩
theorem s_kn {s : State} {b : Nat} (hts : ∀ w ∈ lw_tbl, w.before #[Value.ref b] s = true) : ∃ D : va_G, ∀ (k : Nat) (q : vw_C), vwCl[k]? = some q → u_Kn s q.1 q.2.1 q.2.2 (D.1 k) (D.2 k) := by
  obtain ⟨c0, i0, h0⟩ := u_known (C := RX0) (T := TX0) (N := 10) (n := 10) hts (fun w h => (List.mem_filter.mp (clX0.2.1 w h)).1) (hts (.instantiable RX0 10) (mt_1 (List.mem_of_getElem? (i := 121) rfl)))
  obtain ⟨c1, i1, h1⟩ := u_known (C := RX1) (T := TX1) (N := 10) (n := 10) hts (fun w h => (List.mem_filter.mp (clX1.2.1 w h)).1) (hts (.instantiable RX1 10) (mt_1 (List.mem_of_getElem? (i := 181) rfl)))
  obtain ⟨c2, i2, h2⟩ := u_known (C := RX2) (T := TX2) (N := 3) (n := 3) hts (fun w h => (List.mem_filter.mp (clX2.2.1 w h)).1) (hts (.instantiable RX2 3) (mt_1 (List.mem_of_getElem? (i := 127) rfl)))
  obtain ⟨c3, i3, h3⟩ := u_known (C := RX3) (T := TX3) (N := 15) (n := 15) hts (fun w h => (List.mem_filter.mp (clX3.2.1 w h)).1) (hts (.instantiable RX3 15) (mt_2 (List.mem_of_getElem? (i := 61) rfl)))
  obtain ⟨c4, i4, h4⟩ := u_known (C := RX4) (T := TX4) (N := 17) (n := 17) hts (fun w h => (List.mem_filter.mp (clX4.2.1 w h)).1) (hts (.instantiable RX4 17) (mt_1 (List.mem_of_getElem? (i := 31) rfl)))
  obtain ⟨c5, i5, h5⟩ := u_known (C := RX5) (T := TX5) (N := 14) (n := 14) hts (fun w h => (List.mem_filter.mp (clX5.2.1 w h)).1) (hts (.instantiable RX5 14) (mt_2 (List.mem_of_getElem? (i := 7) rfl)))
  obtain ⟨c6, i6, h6⟩ := u_known (C := RX6) (T := TX6) (N := 13) (n := 13) hts (fun w h => (List.mem_filter.mp (clX6.2.1 w h)).1) (hts (.instantiable RX6 13) (mt_2 (List.mem_of_getElem? (i := 115) rfl)))
  obtain ⟨c7, i7, h7⟩ := u_known (C := RX7) (T := TX7) (N := 6) (n := 6) hts (fun w h => (List.mem_filter.mp (clX7.2.1 w h)).1) (hts (.instantiable RX7 6) (mt_1 (List.mem_of_getElem? (i := 187) rfl)))
  obtain ⟨c8, i8, h8⟩ := u_known (C := RX8) (T := TX8) (N := 4) (n := 4) hts (fun w h => (List.mem_filter.mp (clX8.2.1 w h)).1) (hts (.instantiable RX8 4) (mt_2 (List.mem_of_getElem? (i := 164) rfl)))
  obtain ⟨c9, i9, h9⟩ := u_known (C := RX9) (T := TX9) (N := 13) (n := 13) hts (fun w h => (List.mem_filter.mp (clX9.2.1 w h)).1) (hts (.instantiable RX9 13) (mt_1 (List.mem_of_getElem? (i := 23) rfl)))
  obtain ⟨c10, i10, h10⟩ := u_known (C := RX10) (T := TX10) (N := 93) (n := 93) hts (fun w h => (List.mem_filter.mp (clX10.2.1 w h)).1) (hts (.instantiable RX10 93) (mt_6 (List.mem_of_getElem? (i := 51) rfl)))
  refine ⟨(fun k => match k with | 0 => c0 | 1 => c1 | 2 => c2 | 3 => c3 | 4 => c4 | 5 => c5 | 6 => c6 | 7 => c7 | 8 => c8 | 9 => c9 | _ => c10, fun k => match k with | 0 => i0 | 1 => i1 | 2 => i2 | 3 => i3 | 4 => i4 | 5 => i5 | 6 => i6 | 7 => i7 | 8 => i8 | 9 => i9 | _ => i10), ?_⟩
  intro k q hq
  match k, hq with
  | 0, hq => cases hq; exact h0
  | 1, hq => cases hq; exact h1
  | 2, hq => cases hq; exact h2
  | 3, hq => cases hq; exact h3
  | 4, hq => cases hq; exact h4
  | 5, hq => cases hq; exact h5
  | 6, hq => cases hq; exact h6
  | 7, hq => cases hq; exact h7
  | 8, hq => cases hq; exact h8
  | 9, hq => cases hq; exact h9
  | 10, hq => cases hq; exact h10
  | k + 11, hq => simp [vwCl] at hq
