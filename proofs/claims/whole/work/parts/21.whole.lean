theorem mi_L_17 : n_wI RL 17 yX9_init jX9_init 0 := ⟨⟨gw (mt_1 (List.mem_of_getElem? (i := 24) rfl)) rfl, in_X9, gw (mt_1 (List.mem_of_getElem? (i := 26) rfl)) rfl, by decide, by decide, by decide +kernel⟩, rfl, gw (mt_1 (List.mem_of_getElem? (i := 25) rfl)) rfl⟩
theorem mi_L_20 : n_wI RL 20 yX10_init jX10_init 0 := ⟨⟨gw (mt_6 (List.mem_of_getElem? (i := 52) rfl)) rfl, in_X10, gw (mt_6 (List.mem_of_getElem? (i := 54) rfl)) rfl, by decide, by decide, by decide +kernel⟩, rfl, gw (mt_6 (List.mem_of_getElem? (i := 53) rfl)) rfl⟩
theorem s_world2 {X : gXL} {w1 w2 wo : va_W} {H : Heap} (hm : pos9.map (fun i => w1[i]?) = (g_ws Y1 (lZ X) M10).map some) (hlen : w1.length = 71) (h2 : w2 = g_ws Y2 (lZ2 X) M20) (ho : wo = l_out X 0) (hP : va_P (lZ X).1 vwCl (([] ++ w1 ++ w2) ++ wo) H) (hD : va_D (lA X) (([] ++ w1 ++ w2) ++ wo)) : va_P (lZ X).1 vwCl (l_ws X M10 M20 0) H ∧ ∀ M1 M2 ov, va_D (lA X) (l_ws X M1 M2 ov) := by
  rw [List.nil_append, h2, ho] at hP hD
  exact s_world hm hlen hP hD
set_option maxRecDepth 100000 in
set_option maxHeartbeats 4000000 in
/-- the law from its entry, when its loop as a function answers true -/
theorem whole_open {p : Program} {e : Env} {s : State} {m : MethodId} {below : List Frame} {meth : Method} {c : Code} (l : Launch) (hlt : l.stackTraces = false) {b L : Nat} {xs : Nat → Int32} (hL : L ≤ 3072) (hgoal : f_law L xs FU 0 0 M10 M20 0 = some true) (C0 : lw_At p s m meth c b L xs) : W p l e room_1 s m #[Value.ref b] below meth c s.heap [] 0 0 (lw_Z below #[Value.ref b] s) (entryFrame m ([Value.ref b] : List Value).toArray 7) := by
  obtain ⟨hx, hb, hr, hml, hown, hts, hX, hbl, hlocks, hgv⟩ := id C0
  have htg := l_hts hts
  have hown2 : s.vm.findClass RL = some m.cls := hown
  obtain ⟨D, hKn⟩ := s_kn hts
  obtain ⟨cI, hI1, hI2⟩ := s_arr (ty := .int) (htg _ ac_int) (fun _ _ => Iff.rfl)
  obtain ⟨cL, hL1, hL2⟩ := s_arr (ty := .long) (htg _ ac_long) (fun _ _ => Iff.rfl)
  obtain ⟨cZ, hZ1, hZ2⟩ := s_arr (ty := .boolean) (htg _ ac_boolean) (fun _ _ => Iff.rfl)
  obtain ⟨sa, sv, hsr, hss⟩ := s_str hgv hts
  have hen : ∀ ad, g_en (D, ad, cI, cL, cZ, sa, sv) (fun q => s.heap.size ≤ q) s s.heap := fun ad => s_en (Z := (D, ad, cI, cL, cZ, sa, sv)) hgv hts hsr hss
  have hex := s_ex hlt hgv hts
  have hns := s_ns hts
  have hK : ∀ ad, va_K D vwCl (g_ty (D, ad, cI, cL, cZ, sa, sv)) s := fun ad => ⟨hKn, fun k q hk => by
    match k, hk with
    | 0, hk => cases hk; exact ⟨hI1, hI2⟩
    | 1, hk => cases hk; exact ⟨hL1, hL2⟩
    | 2, hk => cases hk; exact ⟨hZ1, hZ2⟩
    | k + 3, hk => simp [g_ty] at hk⟩
  have hA : ∀ q : Nat, s.heap.size ≤ q → (fun q : Nat => s.heap.size ≤ q) q := fun _ h => h
  have hS : va_S (fun q : Nat => s.heap.size ≤ q) s.heap s.heap [] := va_S.rf
  have hP : va_P D vwCl [] s.heap := fun k q h => by simp at h
  have hD : va_D (fun q : Nat => s.heap.size ≤ q) [] := ⟨fun i j p q h => by simp at h, fun k q h => by simp at h⟩
  have hl := lv_entry ([.ref b]) (n := 7) (Nat.le_of_ble_eq_true rfl)
  rw [lg_entry_eq]
  generalize (lg_sl ([.ref b]) ++ List.replicate (7 - (lg_sl ([.ref b])).length) Slot.unset).toArray = ls at hl ⊢
  have hl : lv_has ls 7 [(0, .ref b)] := hl
  have SF : CallFix p m c code 7 s #[Value.ref b] gws RL := ⟨hx, hb, hml, hown2, htg⟩
  refine va_new (ci := 9) (fs := d_X9) hx hb htg clX9.2.1 tyX9 clX9.2.2.1 hown2 (hts (.classLink RL 8 RX9) (mt_1 (List.mem_of_getElem? (i := 22) rfl))) (hts (.instantiable RX9 13) (mt_1 (List.mem_of_getElem? (i := 23) rfl))) (htg _ in_X9) (hK (fun _ => 0)) hP hD hS hA clX9.1 df_X9 (by have := rm_c; show 0 + 1 ≤ room_1.cells; omega) (by have := rm_s; show 0 + 13 ≤ room_1.slots; omega) dL_law_0 (fun q0 H hP hD hS => ?_)
  refine lv_dup hx hb dL_law_3 rfl ?_
  refine W_ctor (Z := (D, (fun _ => 0), cI, cL, cZ, sa, sv)) (wa := []) (rest := [.ref q0]) SF (hK _) hns (hen _) hA hP hD hS (nX9_init _ q0) mi_L_17 rfl dL_law_4 hl.1 (Nat.le_of_ble_eq_true rfl) ⟨⟨by decide +kernel, by decide +kernel⟩, by decide +kernel, by decide +kernel⟩ (fun w1 H locs hw1 hP hD hS => ?_)
  refine lv_astore_n (lv' := [(1, .ref q0), (0, .ref b)]) hx hb dL_law_7 rfl hl (by decide) rfl (fun ls hl => ?_)
  refine va_new (ci := 10) (fs := d_X10) hx hb htg clX10.2.1 tyX10 clX10.2.2.1 hown2 (hts (.classLink RL 18 RX10) (mt_6 (List.mem_of_getElem? (i := 50) rfl))) (hts (.instantiable RX10 93) (mt_6 (List.mem_of_getElem? (i := 51) rfl))) (htg _ in_X10) (hK (fun _ => 0)) hP hD hS hA clX10.1 df_X10 (by decide +kernel) (by decide +kernel) dL_law_8 (fun q1 H hP hD hS => ?_)
  refine lv_dup hx hb dL_law_11 rfl ?_
  refine W_ctor (Z := (D, (fun _ => 0), cI, cL, cZ, sa, sv)) (rest := [.ref q1]) SF (hK _) hns (hen _) hA hP hD hS (nX10_init _ q1) mi_L_20 rfl dL_law_12 hl.1 (Nat.le_of_ble_eq_true rfl) ⟨⟨by decide +kernel, by decide +kernel⟩, by decide +kernel, by decide +kernel⟩ (fun w2 H locs hw2 hP hD hS => ?_)
  obtain ⟨ad2, hw2⟩ := hw2
  have had2 := hw2.1
  have hw22 := hw2.2
  clear hw2
  have h9 := wX9 _ _ _ hw1
  obtain ⟨ad1, h9⟩ := h9
  have had1 := h9.1
  have hm9 := h9.2.1
  have hlen9 := h9.2.2
  clear h9
  refine lv_astore_n (lv' := [(2, .ref q1), (1, .ref q0), (0, .ref b)]) hx hb dL_law_15 rfl hl (by decide) rfl (fun ls hl => ?_)
  refine lv_iconst (v := 1) hx hb dL_law_16 (by decide) ?_
  refine va_newa (atype := .long) hx hb (ty := .long) (a0 := (1, .inr (.inl (fun _ => 0)))) (htg _ ac_long) rfl (hK (fun _ => 0)) hP hD hS hA (fun _ => rfl) (by decide) (by decide) (by decide) (by decide +kernel) (by decide +kernel) dL_law_17 (fun ao cA H9 hK2 hP9 hD9 hS9 => ?_)
  have ecA : cA = cL := n_cA (Z := (D, (fun _ => 0), cI, cL, cZ, sa, sv)) (i := 1) (hK _) hK2 rfl (fun _ _ => Iff.rfl)
  subst ecA
  refine lv_astore_n (lv' := [(3, .ref ao), (2, .ref q1), (1, .ref q0), (0, .ref b)]) hx hb dL_law_19 rfl hl (by decide) rfl (fun ls hl => ?_)
  refine lv_iconst (v := 0) hx hb dL_law_20 (by decide) ?_
  refine lv_istore (lv' := [(4, .int 0), (3, .ref ao), (2, .ref q1), (1, .ref q0), (0, .ref b)]) hx hb dL_law_21 hl (by decide) rfl (fun ls9 hl9 => ?_)
  refine W.widen (k := 200) (n := 800000) (by decide +kernel) (by decide +kernel) ?_
  subst had1
  subst had2
  have hw2 : w2 = g_ws Y2 (D, ad2, cI, cA, cZ, sa, sv) M20 := hw22
  clear hw22
  obtain ⟨hPw, hDw⟩ := s_world2 (X := ((p, l, e, s, m), (b, below, meth, c), ((D, ad1, cI, cA, cZ, sa, sv), ad2, ao), (L, xs))) (w1 := w1) (w2 := w2) (wo := [(ao, .inl (cA, 1, .inr (.inl (fun _ => 0))))]) (H := H9) hm9 hlen9 hw2 rfl hP9 hD9
  exact o_law (X := ((p, l, e, s, m), (b, below, meth, c), ((D, ad1, cI, cA, cZ, sa, sv), ad2, ao), (L, xs))) FU 0 0 M10 M20 0 ⟨hx, hb, hr, hml, hown2, hts, hX, hbl, hlocks, hK ad1, hDw, hen ad1, hex, hL⟩ (by decide) hgoal H9 ls9 _ (lv_sub hl9 [4, 3, 2, 1, 0] rfl) hPw hS9
