theorem vok_X9_beat (a1 a2 : Int32) (M : gM) (l : Launch) (Z : gZ) (sz : Nat) (r : Nat × Int32) (M' : gM) (ho : f_X9_beat a1 a2 M = some (r, M')) :
    vx_Met l yX9_beat (Cond.code yX9_beat jX9_beat.1 jX9_beat.2.1 jX9_beat.2.2.2.1 :: gws) jX9_beat.2.2.2.2 (va_Pc [.ref (Z.2.1 0), .int a1, .int a2] (fun U => U.heap.size = sz ∧ va_P Z.1 vwCl (g_ws Y1 Z M) U.heap ∧ va_K Z.1 vwCl (g_ty Z) U ∧ g_D Y1 Z.2.1 (fun _ => True) ∧ g_en Z (g_A Y1 Z.2.1 sz) U U.heap ∧ g_ex (g_A Y1 Z.2.1 sz) l U U.heap)) (b_Qc Y1 Z (g_A Y1 Z.2.1 sz) r M') (b_XC Y1 Z (g_A Y1 Z.2.1 sz) r M') 1 6 (g_A Y1 Z.2.1 sz) := by
  refine vx_ofW (cc := jX9_beat.1) (maxL := jX9_beat.2.1) (ret := jX9_beat.2.2.2.1) (by decide) rfl ?_
  intro p e s m args below meth c s₁ B hml hT hv
  obtain ⟨rfl, hsz, hP, hK, hD, hen, hex⟩ := hv
  subst hsz
  have hts := atoms_spec (ws := Cond.code yX9_beat jX9_beat.1 jX9_beat.2.1 jX9_beat.2.2.2.1 :: gws) B.pre
  have hown : s.vm.findClass RX9 = some m.cls := findClass_of_methodNamed B.named
  have hl := lv_entry ([.ref (Z.2.1 0), .int a1, .int a2]) (n := jX9_beat.2.1) (Nat.le_of_ble_eq_true rfl)
  rw [lg_entry_eq]
  exact gok_X9_beat (X := (p, l, e, s, m, ([.ref (Z.2.1 0), .int a1, .int a2] : List Value).toArray, below, meth, c, Z, g_A Y1 Z.2.1 s.heap.size)) hex hT a1 a2 M ⟨B.exec, B.bytes, hml, B.returns, hown, fun w h => hts w (List.mem_cons_of_mem _ h), B.notSynchronized, hK, ⟨hD.1, fun k hk => Or.inl ⟨k, hk, rfl⟩⟩, fun q h => Or.inr h, hen⟩ r M' ho s.heap _ [] hl hP va_S.rf
theorem bx_go {p : Program} {l : Launch} {e : Env} {R : Room} {s : State} {m : MethodId} {args : Array Value} {below : List Frame} {meth : Method} {c : Code} {H : Heap} {locs : List Loc} {cells slots mc ms : Nat} {Q : State → Prop} {pc : Nat} {ls : Array Slot} {rest st0 : List Value} {a : Array Value} {A0 A1 : Nat → Prop} {H0 : Heap} {free : Addr → Prop} {Y : gY} {Z : gZ} {r : Nat × Int32} {M' : gM}
    (hr : vx_Run p l e R s m args below meth c H locs cells slots mc ms (F0 m pc ls st0) rest (b_Qc Y Z A1 r M' a) (b_XC Y Z A1 r M') free) (hS : va_S A0 H0 H locs) (hA : ∀ q, q < H.size → A1 q → A0 q) (hf : ∀ q, free q → A0 q)
    (kx : ∀ (E : String) (ce : Cell) (q9 : Addr) (H1 : Heap) (locs1 : List Loc), ((r.1 = 1 ∧ E = nISE) ∨ (r.1 = 2 ∧ E = nIAE)) → va_P Z.1 vwCl (g_ws Y Z M') H1 → (∀ q : Nat, q < H.size → ¬ A1 q → H1[q]? = H[q]?) → va_S A0 H0 H1 locs1 → H1[q9]? = some ce → ce.vm = .none → s.vm.findClass E = some ce.cls → vx_W p l e R s m args below meth c H1 locs1 (cells + mc) (slots + ms) Q (F0 m pc ls rest) q9)
    (kk : ∀ (H1 : Heap) (locs1 : List Loc), r.1 = 0 → va_P Z.1 vwCl (g_ws Y Z M') H1 → (∀ q : Nat, q < H.size → ¬ A1 q → H1[q]? = H[q]?) → va_S A0 H0 H1 locs1 → W p l e R s m args below meth c H1 locs1 (cells + mc) (slots + ms) Q (F0 m (pc + 3) ls (.int r.2 :: rest))) : W p l e R s m args below meth c H locs cells slots Q (F0 m pc ls st0) := by
  intro T hT X
  rcases hr T hT X with ⟨v, st₀, t, T', L, h0, X', hL, e1, e2, ⟨⟨h1, hv, hp⟩, hF⟩, st⟩ | ⟨q, st₀, t, T', L, E, ce, h0, X', hL, e1, e2, ⟨h1, hp, hF⟩, hce, hcv, hcl, st⟩
  · cases hv
    obtain ⟨k1, k2, k3⟩ := vx_keep h0 e1 hS hA hf hL hF
    obtain ⟨t2, a1, b1⟩ := kk T'.heap (locs ++ L) h1 (by rw [e1]; exact hp) k2 k3 T' rfl X'
    exact ⟨t2, st t2 a1, b1⟩
  · obtain ⟨k1, k2, k3⟩ := vx_keep h0 e1 hS hA hf hL hF
    obtain ⟨t2, a1, b1⟩ := kx E ce q T'.heap (locs ++ L) h1 (by rw [e1]; exact hp) k2 k3 (by rw [e1]; exact hce) hcv hcl T' rfl X'
    exact ⟨t2, st.trans a1, b1⟩
/-! the law's own beat: the call in a try -/
def hhL : List (Nat × Nat × Nat × Nat) := [(0, 10, 13, 13), (0, 10, 17, 15)]
def lbo (Z : gZ) (ao : Nat) (ov : Int64) : Nat × va_E := (ao, .inl (Z.2.2.2.1, 1, .inr (.inl (fun _ => ov))))
def lb_ws (Z : gZ) (M : gM) (ao : Nat) (ov : Int64) : va_W := g_ws Y1 Z M ++ [lbo Z ao ov]
def lb_A (Z : gZ) (ao sz : Nat) : Nat → Prop := fun q => (∃ k, k < Y1.length ∧ q = Z.2.1 k) ∨ q = ao ∨ sz ≤ q
def lb_rm : Room := { frames := 30, cells := 1, slots := 6, locals := 1200 }
def lb_ov (r : Nat × Int32) (ov : Int64) : Int64 := if r.1 = 0 then r.2.toInt64 else ov
def lb_Qc (Z : gZ) (A : Nat → Prop) (r : Nat × Int32) (M' : gM) (ao : Nat) (ov : Int64) : Array Value → State → Outcome → State → Prop := fun _ st oc t => (oc = .returned (some (.int (nI r.1))) ∧ va_P Z.1 vwCl (lb_ws Z M' ao ov) t.heap) ∧ va_F A st t
theorem lb_o {Z : gZ} {M : gM} {ao : Nat} {ov : Int64} : (lb_ws Z M ao ov)[Y1.length]? = some (lbo Z ao ov) := by
  rw [lb_ws, List.getElem?_append_right (by rw [g_len]; omega), g_len, Nat.sub_self]
  rfl
theorem lb_i {Z : gZ} {M : gM} {ao k : Nat} {ov : Int64} (hk : k < Y1.length) : (lb_ws Z M ao ov)[k]? = (g_ws Y1 Z M)[k]? := by
  rw [lb_ws, List.getElem?_append_left (by rw [g_len]; exact hk)]
def lb_D (Z : gZ) (ao : Nat) (A : Nat → Prop) : Prop := g_D Y1 Z.2.1 A ∧ A ao ∧ ∀ k, k < Y1.length → Z.2.1 k ≠ ao
theorem lb_D.va {Z : gZ} {ao : Nat} {A : Nat → Prop} (h : lb_D Z ao A) (M : gM) (ov : Int64) : va_D A (lb_ws Z M ao ov) := by
  refine va_D.app (h.1.va M) ⟨fun i j p q hp hq e => ?_, fun k q hq => ?_⟩ (fun i j x y hx hy e => ?_)
  · have h1 := (List.getElem?_eq_some_iff.mp hp).1
    have h2 := (List.getElem?_eq_some_iff.mp hq).1
    simp at h1 h2
    omega
  · have h1 := (List.getElem?_eq_some_iff.mp hq).1
    simp at h1
    subst h1
    cases hq
    exact h.2.1
  · have h1 := (List.getElem?_eq_some_iff.mp hy).1
    simp at h1
    subst h1
    cases hy
    obtain ⟨h2, h3⟩ := g_inv hx
    exact h.2.2 i h2 (by rw [← h3]; exact e)
theorem lb_join {Z : gZ} {M M' : gM} {ao : Nat} {ov : Int64} {A : Nat → Prop} {H H1 : Heap} (hD : lb_D Z ao A) (hP : va_P Z.1 vwCl (lb_ws Z M ao ov) H) (hP1 : va_P Z.1 vwCl (g_ws Y1 Z M') H1) (hk : ∀ q : Nat, q < H.size → ¬ g_A Y1 Z.2.1 H.size q → H1[q]? = H[q]?) : va_P Z.1 vwCl (lb_ws Z M' ao ov) H1 := by
  refine va_P.app hP1 (fun k q hq => ?_)
  have h1 := (List.getElem?_eq_some_iff.mp hq).1
  simp at h1
  subst h1
  cases hq
  have hl := (hP _ _ lb_o).lt
  refine (hP _ _ lb_o).kept (hk ao hl (fun h => ?_))
  rcases h with ⟨k, hk2, e⟩ | h
  · exact hD.2.2 k hk2 e.symm
  · exact absurd h (Nat.not_le.mpr hl)
theorem lb_P1 {Z : gZ} {M : gM} {ao : Nat} {ov : Int64} {H : Heap} (hP : va_P Z.1 vwCl (lb_ws Z M ao ov) H) : va_P Z.1 vwCl (g_ws Y1 Z M) H := fun k q hq => hP k q (by rw [lb_i (g_inv hq).1]; exact hq)
theorem g_ofWH {l : Launch} {y : MethodName} {ws ws' : List Cond} {rm : Room} {Pc : Array Value → State → Prop} {Qc : Array Value → State → Outcome → State → Prop} {mc ms : Nat} {free : Addr → Prop} {cc : ByteArray} {maxL : Nat} {ret : Option FieldType} {hh : List (Nat × Nat × Nat × Nat)}
    (hy : plainName y.cls = true) (hw : ws = Cond.codeWith y cc maxL ret hh :: ws')
    (body : ∀ p e s m args below meth c s₁, BodyLoose p l y (headSpec ws rm) cc maxL ret e s m args below meth c s₁ → c.maxLocals = maxL → Pc args s →
      W p l e (headSpec ws rm).room s m args below meth c s.heap [] 0 0 (MQ below Qc args s mc ms free) (entryFrame m args maxL)) : Met l y ws rm Pc Qc mc ms free := by
  refine MetFree.of_bodyS (code := cc) (maxLocals := maxL) (ret := ret) hy ?_ ?_
  · intro args s m h hn
    obtain ⟨m9, meth, c, hn9, h1, h2, h3, h4, -, h5, h6, -⟩ := Cond.codeWith_spec (atoms_spec (ws := ws) h _ (by rw [hw]; exact List.mem_cons_self))
    cases hn.symm.trans hn9
    exact ⟨meth, c, h1, h2, h3, h4, h5, h6⟩
  · intro p e s m args below meth c s₁ B hml hP _
    have hh0 : s₁.heap = s.heap := by rw [B.state]; rfl
    obtain ⟨t, a1, o, b1, b2, b3⟩ := body p e s m args below meth c s₁ B hml hP s₁ hh0 (Stand.of_body B)
    exact ⟨t, o, a1, b1, b2, ⟨b3.1, b3.2⟩⟩
theorem arrV_one {c : ClassId} {f g : Nat → Value} (h : f 0 = g 0) : arrV c 1 f = arrV c 1 g := by
  unfold arrV
  congr 2
  funext j
  have h0 : j.val = 0 := by omega
  rw [h0]
  exact h
theorem lb_Asub {Z : gZ} {ao : Nat} {A : Nat → Prop} {H0 H : Heap} {locs : List Loc} (hD : lb_D Z ao A) (hA : ∀ q, H0.size ≤ q → A q) (hS : va_S A H0 H locs) : ∀ q, lb_A Z ao H.size q → A q := by
  intro q h
  rcases h with ⟨k, hk, rfl⟩ | rfl | h
  · exact hD.1.2 k hk
  · exact hD.2.1
  · exact hA q (Nat.le_trans hS.1 h)
theorem lbW_cL_13 : Cond.classLink RL 13 nISE ∈ gws := gw (mt_5 (List.mem_of_getElem? (i := 197) rfl)) rfl
theorem lbW_cL_15 : Cond.classLink RL 15 nIAE ∈ gws := gw (mt_5 (List.mem_of_getElem? (i := 198) rfl)) rfl
theorem lbW_m7 : g_wV RL 7 yX9_beat jX9_beat 2 := mv_L_7
set_option maxRecDepth 100000 in
set_option maxHeartbeats 4000000 in
theorem ok_L_beat (p0 p1 : Int32) (M : gM) (l : Launch) (Z : gZ) (ao : Nat) (ov : Int64) (sz : Nat) (r : Nat × Int32) (M' : gM) (ho : f_X9_beat p0 p1 M = some (r, M')) :
    Met l yL_beat (Cond.codeWith yL_beat cL_beat 5 (some .int) hhL :: gws) lb_rm (va_Pc [.ref (Z.2.1 0), .int p0, .int p1, .ref ao] (fun U => U.heap.size = sz ∧ va_P Z.1 vwCl (lb_ws Z M ao ov) U.heap ∧ va_K Z.1 vwCl (g_ty Z) U ∧ lb_D Z ao (fun _ => True) ∧ g_en Z (lb_A Z ao sz) U U.heap ∧ g_ex (lb_A Z ao sz) l U U.heap)) (lb_Qc Z (lb_A Z ao sz) r M' ao (lb_ov r ov)) 1 6 (lb_A Z ao sz) := by
  refine g_ofWH (cc := cL_beat) (maxL := 5) (ret := some .int) (hh := hhL) (by decide) rfl ?_
  intro p e s m args below meth c s₁ B hml hv
  obtain ⟨rfl, hsz, hP, hK, hD0, hen, hex⟩ := hv
  subst hsz
  have hx := B.exec
  have hb := B.bytes
  have hr := B.returns
  have hts0 := atoms_spec (ws := Cond.codeWith yL_beat cL_beat 5 (some .int) hhL :: gws) B.pre
  have hts : ∀ w ∈ gws, w.before ([.ref (Z.2.1 0), .int p0, .int p1, .ref ao] : List Value).toArray s = true := fun w h => hts0 w (List.mem_cons_of_mem _ h)
  have hown : s.vm.findClass RL = some m.cls := findClass_of_methodNamed B.named
  have hlocks := B.notSynchronized
  have htab : c.exceptionTable.toList = tableOf hhL := vx_table (x := yL_beat) B (hts0 _ List.mem_cons_self)
  have hA : ∀ q : Nat, s.heap.size ≤ q → lb_A Z ao s.heap.size q := fun q h => Or.inr (Or.inr h)
  have hD : lb_D Z ao (lb_A Z ao s.heap.size) := ⟨⟨hD0.1.1, fun k hk => Or.inl ⟨k, hk, rfl⟩⟩, Or.inr (Or.inl rfl), hD0.2.2⟩
  generalize hAe : lb_A Z ao s.heap.size = A at hA hD hen hex ⊢
  have hS : va_S A s.heap s.heap [] := va_S.rf
  have hl := lv_entry ([.ref (Z.2.1 0), .int p0, .int p1, .ref ao]) (n := 5) (Nat.le_of_ble_eq_true rfl)
  rw [lg_entry_eq]
  generalize (lg_sl ([.ref (Z.2.1 0), .int p0, .int p1, .ref ao]) ++ List.replicate (5 - (lg_sl ([.ref (Z.2.1 0), .int p0, .int p1, .ref ao])).length) Slot.unset).toArray = ls at hl ⊢
  have hl : lv_has ls 5 [(0, .ref (Z.2.1 0)), (1, .int p0), (2, .int p1), (3, .ref ao)] := hl
  refine lv_aload_n hx hb dL_beat_0 rfl (lv_at hl 3 rfl) ?_
  refine lv_iconst (v := 0) hx hb dL_beat_1 (by decide) ?_
  refine lv_aload_n hx hb dL_beat_2 rfl (lv_at hl 0 rfl) ?_
  refine lv_iload_n hx hb dL_beat_3 rfl (lv_at hl 1 rfl) ?_
  refine lv_iload_n hx hb dL_beat_4 rfl (lv_at hl 2 rfl) ?_
  have hsub : ∀ q, g_A Y1 Z.2.1 s.heap.size q → A q := by
    intro q h
    rw [← hAe]
    rcases h with h | h
    · exact Or.inl h
    · exact Or.inr (Or.inr h)
  have hM := vok_X9_beat p0 p1 M l Z s.heap.size r M' ho
  refine bx_go (vx_runV (As := [.int p0, .int p1]) (rest := [.int 0, .ref ao]) ⟨hx, hb, hml, hown, hts⟩ hM ⟨callB_of 2 hts (g_good yX9_beat jX9_beat lbW_m7.1.2.2.1) rfl rfl rfl (hts _ lbW_m7.1.2.1) (hts _ lbW_m7.1.1) lbW_m7.1.2.2.2 ⟨Nat.le_of_ble_eq_true rfl, Nat.le_of_ble_eq_true rfl⟩, hts _ lbW_m7.2.1, hts _ lbW_m7.2.2⟩ ⟨fun a U g mk q => ⟨q.1, q.2.1, q.2.2.1, va_K.moved (u := U) (U := U.calling g mk a) (Vm.Alike.refl U.vm) q.2.2.2.1, q.2.2.2.2.1, g_en.call (U := U) (V := U.calling g mk a) rfl q.2.2.2.2.2.1, g_ex.call (U := U) (V := U.calling g mk a) rfl q.2.2.2.2.2.2⟩, va_recv hK (lb_P1 hP) (ci := 9) rfl (g_at y1_0), fun U hU hW => ⟨rfl, by rw [hU], by rw [hU]; exact lb_P1 hP, va_K.moved hW.alike hK, ⟨hD.1.1, fun _ _ => trivial⟩, hen.go hW hS hsub hU, hex.go hW hS hsub hU⟩⟩ rfl rfl hl.1 rfl (lv_room (Nat.le_of_ble_eq_true rfl)) dL_beat_5 ⟨Nat.le_of_ble_eq_true rfl, Nat.le_of_ble_eq_true rfl⟩) hS (fun q _ h => hsub q h) hsub ?_ ?_
  · intro E ce q9 H1 locs1 hE hP1 hk1 hS1 hce hcv hcl
    have hP2 := lb_join hD hP hP1 hk1
    rcases hE with ⟨h1, rfl⟩ | ⟨h1, rfl⟩
    · have e1 : lb_ov r ov = ov := by unfold lb_ov; rw [if_neg (by rw [h1]; decide)]
      rw [e1]
      refine vx_catch (own := RL) (name := nISE) hown [] _ _ htab (fun z hz => by cases hz) (by rfl) (by decide) (hts _ lbW_cL_13) ((hex.2.2.2.2.2.2.2 _ (by simp [nGs])).use rfl) hce hcv hcl ?_
      refine lv_astore (lv' := [(4, .ref q9), (0, .ref (Z.2.1 0)), (1, .int p0), (2, .int p1), (3, .ref ao)]) hx hb dL_beat_13 hl (by decide) rfl (fun ls hl => ?_)
      refine lv_iconst (v := 1) hx hb dL_beat_15 (by decide) ?_
      exact W.iret hx hb hr (fun t ht _ => ⟨⟨by rw [h1]; rfl, by rw [ht]; exact hP2⟩, hS1.F ht⟩) (fun q hq => hS1.2.2 q hq) dL_beat_16 hlocks
    · have e1 : lb_ov r ov = ov := by unfold lb_ov; rw [if_neg (by rw [h1]; decide)]
      rw [e1]
      refine vx_catch (own := RL) (name := nIAE) hown [_] _ _ htab (fun z hz => ?_) (by rfl) (by decide) (hts _ lbW_cL_15) ((hex.2.2.2.2.2.2.2 _ (by simp [nGs])).use rfl) hce hcv hcl ?_
      · rcases List.mem_singleton.mp hz with rfl
        exact Or.inr ⟨by decide, nISE, hts _ lbW_cL_13, hex.2.2.2.2.2.2.1⟩
      refine lv_astore (lv' := [(4, .ref q9), (0, .ref (Z.2.1 0)), (1, .int p0), (2, .int p1), (3, .ref ao)]) hx hb dL_beat_17 hl (by decide) rfl (fun ls hl => ?_)
      refine lv_iconst (v := 2) hx hb dL_beat_19 (by decide) ?_
      exact W.iret hx hb hr (fun t ht _ => ⟨⟨by rw [h1]; rfl, by rw [ht]; exact hP2⟩, hS1.F ht⟩) (fun q hq => hS1.2.2 q hq) dL_beat_20 hlocks
  · intro H1 locs1 h1 hP1 hk1 hS1
    have hP2 := lb_join hD hP hP1 hk1
    have e1 : lb_ov r ov = r.2.toInt64 := by unfold lb_ov; rw [if_pos h1]
    rw [e1]
    refine lv_i2l hx hb dL_beat_8 rfl ?_
    refine va_last hx hb hK hP2 (hD.va M' ov) hS1 Y1.length 1 lb_o rfl (show vp_in 0 1 by unfold vp_in; decide) dL_beat_9 (fun H2 locs2 hP3 hD3 hS2 => ?_)
    have hP4 : va_P Z.1 vwCl (lb_ws Z M' ao r.2.toInt64) H2 := by
      intro k q hq
      by_cases hk : k < Y1.length
      · refine hP3 k q ?_
        rw [List.getElem?_set_ne (by omega), lb_i hk]
        rw [lb_i hk] at hq
        exact hq
      · have hk2 : k = Y1.length := by
          have := (List.getElem?_eq_some_iff.mp hq).1
          simp only [lb_ws, List.length_append, g_len, List.length_singleton] at this
          omega
        subst hk2
        rw [lb_o] at hq
        cases hq
        have h5 := hP3 Y1.length _ (by rw [List.getElem?_set_self (by simp only [lb_ws, List.length_append, g_len, List.length_singleton]; omega)])
        have h6 : (vp_updL (fun _ => ov) ((0 : Int32).toNatClampNeg) r.2.toInt64) 0 = r.2.toInt64 := rfl
        refine Eq.trans h5 ?_
        congr 1
    refine lv_goto (tgt := 21) hx hb dL_beat_10 (by decide) ?_
    refine lv_iconst (v := 0) hx hb dL_beat_21 (by decide) ?_
    exact W.iret hx hb hr (fun t ht _ => ⟨⟨by rw [h1]; rfl, by rw [ht]; exact hP4⟩, hS2.F ht⟩) (fun q hq => hS2.2.2 q hq) dL_beat_22 hlocks
