/-! calls: by contract, the whole memory goes along -/
theorem g_go {p : Program} {l : Launch} {e : Env} {R : Room} {s : State} {m : MethodId} {args : Array Value} {below : List Frame} {meth : Method} {c : Code} {H : Heap} {locs : List Loc} {Q : State → Prop} {pc : Nat} {ls : Array Slot} {rest st0 : List Value} {a : Array Value} {A0 A1 : Nat → Prop} {H0 : Heap} {free : Addr → Prop} {Y : gY} {Z : gZ} {rv : Option Value} {M1 : gM}
    (hr : va_Run p l e R s m args below meth c H locs 0 0 0 0 (F0 m pc ls st0) rest (g_Qc Y Z A1 rv M1 a) free) (hS : va_S A0 H0 H locs) (hA : ∀ q, q < H.size → A1 q → A0 q) (hf : ∀ q, free q → A0 q)
    (kk : ∀ (H1 : Heap) (locs1 : List Loc), va_P Z.1 vwCl (g_ws Y Z M1) H1 → va_S A0 H0 H1 locs1 → W p l e R s m args below meth c H1 locs1 0 0 Q (F0 m (pc + 3) ls (rv.toList ++ rest))) : W p l e R s m args below meth c H locs 0 0 Q (F0 m pc ls st0) := by
  intro T hT X
  obtain ⟨v, st₀, t, T', L, h0, X', hL, e1, e2, ⟨⟨hv, hp⟩, hz, hk⟩, st⟩ := hr T hT X
  cases hv
  rw [h0] at hz hk
  obtain ⟨t2, a1, b1⟩ := kk T'.heap (locs ++ L) (by rw [e1]; exact hp)
    ⟨Nat.le_trans hS.1 (by rw [e1]; exact hz), fun q h1 h2 => by rw [e1, hk q (Nat.lt_of_lt_of_le h1 hS.1) (fun z => h2 (hA q (Nat.lt_of_lt_of_le h1 hS.1) z))]; exact hS.2.1 q h1 h2, fun q hq => by
      rcases List.mem_append.mp hq with h | h
      · exact hS.2.2 q h
      · exact hf _ (hL q h)⟩ T' rfl X'
  exact ⟨t2, st t2 a1, b1⟩
theorem g_good (y : MethodName) (J : gJ) (h : Cond.code y J.1 J.2.1 J.2.2.2.1 ∈ gws) : GoodIn gws (Cond.code y J.1 J.2.1 J.2.2.2.1 :: gws) := by
  intro w hw
  have h1 : w ∈ gws := by
    rcases List.mem_cons.mp hw with e | e
    · rw [e]; exact h
    · exact e
  exact ⟨h1, good_of_word (List.mem_filter.mp h1).2⟩
def g_wc (own : String) (idx : Nat) (y : MethodName) (J : gJ) (n : Nat) : Prop := Cond.methodLink own idx y ∈ gws ∧ Cond.initialized y.cls ∈ gws ∧ Cond.code y J.1 J.2.1 J.2.2.2.1 ∈ gws ∧ (y.cls ≠ "java/lang/invoke/MethodHandle" ∧ y.cls ≠ "java/lang/invoke/VarHandle" ∧ (parseMethodDescriptor y.desc).map (fun d => d.parameters.length) = some n)
def g_wV (own : String) (idx : Nat) (y : MethodName) (J : gJ) (n : Nat) : Prop := g_wc own idx y J n ∧ Cond.instanceMethod y ∈ gws ∧ Cond.selects y.cls y y ∈ gws
def g_wS (own : String) (idx : Nat) (y : MethodName) (J : gJ) (n : Nat) : Prop := g_wc own idx y J n ∧ Cond.static y ∈ gws
theorem g_cb {R : Room} {s : State} {args : Array Value} {own : String} {idx n : Nat} {y : MethodName} {J' : gJ} (hts : ∀ w ∈ gws, w.before args s = true) (hw : g_wc own idx y J' n) (hR : J'.2.2.2.2.frames + 1 ≤ R.frames ∧ 8 + (J'.2.1 + 11) + J'.2.2.2.2.locals ≤ R.locals) (h0 : J'.2.2.2.2.cells = 0 ∧ J'.2.2.2.2.slots = 0) :
    CallB R s args own idx y J'.1 J'.2.1 J'.2.2.2.1 (Cond.code y J'.1 J'.2.1 J'.2.2.2.1 :: gws) J'.2.2.2.2 0 0 n :=
  callB_of n hts (g_good y J' hw.2.2.1) rfl h0.1 h0.2 (hts _ hw.2.1) (hts _ hw.1) hw.2.2.2 hR
theorem g_blind {Y : gY} {Z : gZ} {vs : List Value} {M : gM} {sz : Nat} : FrameBlind (va_Pc vs (fun U => U.heap.size = sz ∧ va_P Z.1 vwCl (g_ws Y Z M) U.heap ∧ va_K Z.1 vwCl (g_ty Z) U ∧ g_D Y Z.2.1 (fun _ => True) ∧ g_en Z (g_A Y Z.2.1 sz) U U.heap)) :=
  fun a U g mk q => ⟨q.1, q.2.1, q.2.2.1, va_K.moved (u := U) (U := U.calling g mk a) (Vm.Alike.refl U.vm) q.2.2.2.1, q.2.2.2.2.1, g_en.call (U := U) (V := U.calling g mk a) rfl q.2.2.2.2.2⟩
theorem g_Asub {Y : gY} {ad : Nat → Nat} {A : Nat → Prop} {H0 H : Heap} {locs : List Loc} (hD : g_D Y ad A) (hA : ∀ q, H0.size ≤ q → A q) (hS : va_S A H0 H locs) : ∀ q, g_A Y ad H.size q → A q := by
  intro q h
  rcases h with ⟨k, hk, rfl⟩ | h
  · exact hD.2 k hk
  · exact hA q (Nat.le_trans hS.1 h)
def g_fit (J' J : gJ) : Prop := (J'.2.2.2.2.frames + 1 ≤ J.2.2.2.2.frames ∧ 8 + (J'.2.1 + 11) + J'.2.2.2.2.locals ≤ J.2.2.2.2.locals) ∧ J'.2.2.2.2.cells = 0 ∧ J'.2.2.2.2.slots = 0
theorem g_fitN {d d' nL nL' : Nat} {c c' : ByteArray} {o o' : String} {r r' : Option FieldType} (h : d' + 1 ≤ d) (hn : nL' ≤ 21) : g_fit (c', nL', o', r', g_room d') (c, nL, o, r, g_room d) := by
  refine ⟨⟨h, ?_⟩, rfl, rfl⟩
  show 8 + (nL' + 11) + 40 * d' ≤ 40 * d
  omega
section GC
variable {β β' : Type} {Y : gY} {J J' : gJ} {X : gX} {fi : gY → gX → β → gM → State → Prop} {en' : β' → Option Value} {pc idx n : Nat} {lv : List (Nat × Value)} {st0 As rest : List Value} {M : gM} {y : MethodName} {vs : gZ → List Value} {fo : Option (β' × gM)} {kf : β' → gM → Option (β × gM)}
theorem G_callV {b ci : Nat} {cs : List Nat} {T : u_T} {N : Nat} (hm : g_met Y y J' en' vs M fo) (hvs : vs (xZ X) = .ref (ad X b) :: As) (hob : Y[b]? = some (0, ci, cs)) (hcl : vwCl[ci]? = some (y.cls, T, N)) (hw : g_wV J.2.2.1 idx y J' n) (hd : decode J.1 pc = .ok (.invokevirtual idx, 3)) (hn : As.length = n) (hst : st0 = As.reverse ++ .ref (ad X b) :: rest) (hc : (rest.map fun v => v.category).sum ≤ 8) (hr : g_fit J' J)
    (kk : ∀ (r : β') (M1 : gM), G Y J X fi (pc + 3) lv ((en' r).toList ++ rest) M1 (kf r M1)) : G Y J X fi pc lv st0 M (g_b fo kf) := by
  intro hX r M' ho H ls locs hl hP hS
  cases fo with
  | none => cases ho
  | some q =>
    obtain ⟨r1, M1⟩ := q
    have hmm := hm (xl X) (xZ X) H.size r1 M1 rfl
    obtain ⟨hx, hb, hml, hrt, hown, hts, hlk, hK, hD, hA, hen⟩ := id hX
    have hsub := g_Asub hD hA hS
    refine g_go (va_runV ⟨hx, hb, hml, hown, hts⟩ hmm ⟨g_cb hts hw.1 hr.1 hr.2, hts _ hw.2.1, hts _ hw.2.2⟩ ⟨g_blind, va_recv hK hP hcl (g_at hob), fun U hU hW => ⟨by rw [hvs], by rw [hU], by rw [hU]; exact hP, va_K.moved hW.alike hK, ⟨hD.1, fun _ _ => trivial⟩, hen.go hW hS hsub hU⟩⟩ rfl hn hl.1 hst (lv_room hc) hd ⟨Nat.zero_le _, Nat.zero_le _⟩) hS (fun q _ h => hsub q h) hsub (fun H1 locs1 hP1 hS1 => ?_)
    exact kk r1 M1 hX r M' ho H1 ls locs1 hl hP1 hS1
theorem G_callS (hm : g_met Y y J' en' vs M fo) (hvs : vs (xZ X) = As) (hw : g_wS J.2.2.1 idx y J' n) (hd : decode J.1 pc = .ok (.invokestatic idx, 3)) (hn : As.length = n) (hst : st0 = As.reverse ++ rest) (hc : (rest.map fun v => v.category).sum ≤ 8) (hr : g_fit J' J)
    (kk : ∀ (r : β') (M1 : gM), G Y J X fi (pc + 3) lv ((en' r).toList ++ rest) M1 (kf r M1)) : G Y J X fi pc lv st0 M (g_b fo kf) := by
  intro hX r M' ho H ls locs hl hP hS
  cases fo with
  | none => cases ho
  | some q =>
    obtain ⟨r1, M1⟩ := q
    have hmm := hm (xl X) (xZ X) H.size r1 M1 rfl
    obtain ⟨hx, hb, hml, hrt, hown, hts, hlk, hK, hD, hA, hen⟩ := id hX
    have hsub := g_Asub hD hA hS
    refine g_go (va_runS ⟨hx, hb, hml, hown, hts⟩ hmm ⟨g_cb hts hw.1 hr.1 hr.2, hts _ hw.2⟩ ⟨g_blind, fun U hU hW => ⟨by rw [hvs], by rw [hU], by rw [hU]; exact hP, va_K.moved hW.alike hK, ⟨hD.1, fun _ _ => trivial⟩, hen.go hW hS hsub hU⟩⟩ rfl hn hl.1 hst (lv_room hc) hd ⟨Nat.zero_le _, Nat.zero_le _⟩) hS (fun q _ h => hsub q h) hsub (fun H1 locs1 hP1 hS1 => ?_)
    exact kk r1 M1 hX r M' ho H1 ls locs1 hl hP1 hS1
end GC
theorem g_enter {β : Type} {Y : gY} {y : MethodName} {J : gJ} {en : β → Option Value} {vs : gZ → List Value} {M : gM} {o : Option (β × gM)} (lv0 : gZ → List (Nat × Value)) (hy : plainName y.cls = true) (hcl : y.cls = J.2.2.1) (hlen : ∀ Z, (lg_sl (vs Z)).length ≤ J.2.1) (hlv : ∀ Z, lv_args 0 (vs Z) = lv0 Z)
    (k : ∀ X : gX, G Y J X (g_fin en) 0 (lv0 (xZ X)) [] M o) : g_met Y y J en vs M o := by
  intro l Z sz r M' ho
  refine Met.ofW (cc := J.1) (maxL := J.2.1) (ret := J.2.2.2.1) hy rfl ?_
  intro p e s m args below meth c s₁ B hml hv
  obtain ⟨rfl, hsz, hP, hK, hD, hen⟩ := hv
  subst hsz
  have hts := atoms_spec (ws := Cond.code y J.1 J.2.1 J.2.2.2.1 :: gws) B.pre
  have hown : s.vm.findClass y.cls = some m.cls := findClass_of_methodNamed B.named
  have hl := lv_entry (vs Z) (n := J.2.1) (hlen Z)
  rw [hlv] at hl
  rw [lg_entry_eq]
  refine k (p, l, e, s, m, (vs Z).toArray, below, meth, c, Z, g_A Y Z.2.1 s.heap.size) ⟨B.exec, B.bytes, hml, B.returns, by rw [← hcl]; exact hown, fun w h => hts w (List.mem_cons_of_mem _ h), B.notSynchronized, hK, ⟨hD.1, fun k hk => Or.inl ⟨k, hk, rfl⟩⟩, fun q h => Or.inr h, hen⟩ r M' ho s.heap _ [] hl hP va_S.rf
def g_m {β : Type} (M : gM) (k : gM → Option β) : Option β := k M
def g_v {α β : Type} (x : α) (k : α → Option β) : Option β := k x
section GD
variable {β β' : Type} {Y : gY} {J J' : gJ} {X : gX} {fi : gY → gX → β → gM → State → Prop} {pc idx n : Nat} {lv : List (Nat × Value)} {st st0 As rest : List Value} {M : gM} {y : MethodName} {vs : gZ → List Value}
theorem G_m {k : gM → Option (β × gM)} (h : ∀ M1, G Y J X fi pc lv st M1 (k M1)) : G Y J X fi pc lv st M (g_m M k) := h M
theorem G_vi {k : Int32 → Option (β × gM)} {x : Int32} (h : ∀ y, G Y J X fi pc lv (.int y :: st) M (k y)) : G Y J X fi pc lv (.int x :: st) M (g_v x k) := h x
theorem G_vl {k : Int64 → Option (β × gM)} {x : Int64} (h : ∀ y, G Y J X fi pc lv (.long y :: st) M (k y)) : G Y J X fi pc lv (.long x :: st) M (g_v x k) := h x
theorem G_cVi {fo : Option (Int32 × gM)} {kf : Int32 → gM → Option (β × gM)} {b ci : Nat} {cs : List Nat} {T : u_T} {N : Nat} (hm : g_met Y y J' g_ei vs M fo) (hvs : vs (xZ X) = .ref (ad X b) :: As) (hob : Y[b]? = some (0, ci, cs)) (hcl : vwCl[ci]? = some (y.cls, T, N)) (hw : g_wV J.2.2.1 idx y J' n) (hd : decode J.1 pc = .ok (.invokevirtual idx, 3)) (hn : As.length = n) (hst : st0 = As.reverse ++ .ref (ad X b) :: rest) (hc : (rest.map fun v => v.category).sum ≤ 8) (hr : g_fit J' J)
    (kk : ∀ (r : Int32) (M1 : gM), G Y J X fi (pc + 3) lv (.int r :: rest) M1 (kf r M1)) : G Y J X fi pc lv st0 M (g_b fo kf) := G_callV hm hvs hob hcl hw hd hn hst hc hr kk
theorem G_cVl {fo : Option (Int64 × gM)} {kf : Int64 → gM → Option (β × gM)} {b ci : Nat} {cs : List Nat} {T : u_T} {N : Nat} (hm : g_met Y y J' g_el vs M fo) (hvs : vs (xZ X) = .ref (ad X b) :: As) (hob : Y[b]? = some (0, ci, cs)) (hcl : vwCl[ci]? = some (y.cls, T, N)) (hw : g_wV J.2.2.1 idx y J' n) (hd : decode J.1 pc = .ok (.invokevirtual idx, 3)) (hn : As.length = n) (hst : st0 = As.reverse ++ .ref (ad X b) :: rest) (hc : (rest.map fun v => v.category).sum ≤ 8) (hr : g_fit J' J)
    (kk : ∀ (r : Int64) (M1 : gM), G Y J X fi (pc + 3) lv (.long r :: rest) M1 (kf r M1)) : G Y J X fi pc lv st0 M (g_b fo kf) := G_callV hm hvs hob hcl hw hd hn hst hc hr kk
theorem G_cVb {fo : Option (Bool × gM)} {kf : Bool → gM → Option (β × gM)} {b ci : Nat} {cs : List Nat} {T : u_T} {N : Nat} (hm : g_met Y y J' g_eb vs M fo) (hvs : vs (xZ X) = .ref (ad X b) :: As) (hob : Y[b]? = some (0, ci, cs)) (hcl : vwCl[ci]? = some (y.cls, T, N)) (hw : g_wV J.2.2.1 idx y J' n) (hd : decode J.1 pc = .ok (.invokevirtual idx, 3)) (hn : As.length = n) (hst : st0 = As.reverse ++ .ref (ad X b) :: rest) (hc : (rest.map fun v => v.category).sum ≤ 8) (hr : g_fit J' J)
    (kk : ∀ (r : Bool) (M1 : gM), G Y J X fi (pc + 3) lv (.int (b2i r) :: rest) M1 (kf r M1)) : G Y J X fi pc lv st0 M (g_b fo kf) := G_callV hm hvs hob hcl hw hd hn hst hc hr kk
theorem G_cVv {fo : Option (Unit × gM)} {kf : Unit → gM → Option (β × gM)} {b ci : Nat} {cs : List Nat} {T : u_T} {N : Nat} (hm : g_met Y y J' g_ev vs M fo) (hvs : vs (xZ X) = .ref (ad X b) :: As) (hob : Y[b]? = some (0, ci, cs)) (hcl : vwCl[ci]? = some (y.cls, T, N)) (hw : g_wV J.2.2.1 idx y J' n) (hd : decode J.1 pc = .ok (.invokevirtual idx, 3)) (hn : As.length = n) (hst : st0 = As.reverse ++ .ref (ad X b) :: rest) (hc : (rest.map fun v => v.category).sum ≤ 8) (hr : g_fit J' J)
    (kk : ∀ (r : Unit) (M1 : gM), G Y J X fi (pc + 3) lv rest M1 (kf r M1)) : G Y J X fi pc lv st0 M (g_b fo kf) := G_callV hm hvs hob hcl hw hd hn hst hc hr kk
theorem G_cSi {fo : Option (Int32 × gM)} {kf : Int32 → gM → Option (β × gM)} (hm : g_met Y y J' g_ei vs M fo) (hvs : vs (xZ X) = As) (hw : g_wS J.2.2.1 idx y J' n) (hd : decode J.1 pc = .ok (.invokestatic idx, 3)) (hn : As.length = n) (hst : st0 = As.reverse ++ rest) (hc : (rest.map fun v => v.category).sum ≤ 8) (hr : g_fit J' J)
    (kk : ∀ (r : Int32) (M1 : gM), G Y J X fi (pc + 3) lv (.int r :: rest) M1 (kf r M1)) : G Y J X fi pc lv st0 M (g_b fo kf) := G_callS hm hvs hw hd hn hst hc hr kk
theorem G_cSb {fo : Option (Bool × gM)} {kf : Bool → gM → Option (β × gM)} (hm : g_met Y y J' g_eb vs M fo) (hvs : vs (xZ X) = As) (hw : g_wS J.2.2.1 idx y J' n) (hd : decode J.1 pc = .ok (.invokestatic idx, 3)) (hn : As.length = n) (hst : st0 = As.reverse ++ rest) (hc : (rest.map fun v => v.category).sum ≤ 8) (hr : g_fit J' J)
    (kk : ∀ (r : Bool) (M1 : gM), G Y J X fi (pc + 3) lv (.int (b2i r) :: rest) M1 (kf r M1)) : G Y J X fi pc lv st0 M (g_b fo kf) := G_callS hm hvs hw hd hn hst hc hr kk
theorem G_cSv {fo : Option (Unit × gM)} {kf : Unit → gM → Option (β × gM)} (hm : g_met Y y J' g_ev vs M fo) (hvs : vs (xZ X) = As) (hw : g_wS J.2.2.1 idx y J' n) (hd : decode J.1 pc = .ok (.invokestatic idx, 3)) (hn : As.length = n) (hst : st0 = As.reverse ++ rest) (hc : (rest.map fun v => v.category).sum ≤ 8) (hr : g_fit J' J)
    (kk : ∀ (r : Unit) (M1 : gM), G Y J X fi (pc + 3) lv rest M1 (kf r M1)) : G Y J X fi pc lv st0 M (g_b fo kf) := G_callS hm hvs hw hd hn hst hc hr kk
end GD
