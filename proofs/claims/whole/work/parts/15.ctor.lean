/-! constructors: the object at the head of its world, what it makes behind it -/
/-- private constructors among nest mates -/
def g_ns (U : State) : Prop := va_Nw (.methodLinkNest RX0 11 yX2_init "RopeSchool") U ∧ va_Nw (.methodLinkNest RX1 17 yX7_init "RopeSchool") U
theorem g_ns.warm {s U : State} (hW : s.WarmedH U.vm) (h : g_ns s) : g_ns U := ⟨h.1.warmM hW, h.2.warmM hW⟩
theorem g_ns.same {u U : State} (hv : u.vm = U.vm) (h : g_ns u) : g_ns U := ⟨h.1.same rfl hv, h.2.same rfl hv⟩
def n_ok (J : gJ) (X : gX) : Prop := (xp X).tables.exec = Jvm.exec ∧ (xc X).code = J.1 ∧ (xc X).maxLocals = J.2.1 ∧ (xt X).sig.returnType = none ∧ (xs X).vm.findClass J.2.2.1 = some (xm X).cls ∧ (∀ w ∈ gws, w.before (xa X) (xs X) = true) ∧ (xt X).locks = false ∧ va_K (xZ X).1 vwCl (g_ty (xZ X)) (xs X) ∧ (xt X).name = "<init>" ∧ (∀ q, (xs X).heap.size ≤ q → (xA X) q) ∧ g_ns (xs X) ∧ g_en (xZ X) (xA X) (xs X) (xs X).heap
def N (J : gJ) (X : gX) (Q : State → Prop) (pc : Nat) (lv : List (Nat × Value)) (st : List Value) (h0 ci : Nat) (fs : List Value) (wr : va_W) (cells slots : Nat) : Prop :=
  n_ok J X → ∀ (H : Heap) (ls : Array Slot) (locs : List Loc), lv_has ls J.2.1 lv → va_P (xZ X).1 vwCl ((h0, .inr (ci, fs)) :: wr) H → va_D (xA X) ((h0, .inr (ci, fs)) :: wr) → va_S (xA X) (xs X).heap H locs →
    W (xp X) (xl X) (xe X) J.2.2.2.2 (xs X) (xm X) (xa X) (xb X) (xt X) (xc X) H locs cells slots Q (F0 (xm X) pc ls st)
def n_Qc (Z : gZ) (PX : va_W → Prop) (A : Nat → Prop) : Array Value → State → Outcome → State → Prop := fun _ st oc t => (oc = .returned none ∧ ∃ w, PX w ∧ va_P Z.1 vwCl w t.heap ∧ va_D A w) ∧ va_F A st t
section NR
variable {J : gJ} {X : gX} {Q : State → Prop} {pc : Nat} {lv : List (Nat × Value)} {st : List Value} {h0 ci : Nat} {fs : List Value} {wr : va_W} {cells slots : Nat}
theorem N_iconst {n : Int} {v : Int32} (hd : decode J.1 pc = .ok (.iconst n, 1)) (hv : Int32.ofInt n = v) (k : N J X Q (pc + 1) lv (.int v :: st) h0 ci fs wr cells slots) : N J X Q pc lv st h0 ci fs wr cells slots := fun hX H ls locs hl hP hD hS => lv_iconst hX.1 hX.2.1 hd hv (k hX H ls locs hl hP hD hS)
theorem N_bipush {n : Int} {v : Int32} (hd : decode J.1 pc = .ok (.bipush n, 2)) (hv : (Int8.ofInt n).toInt32 = v) (k : N J X Q (pc + 2) lv (.int v :: st) h0 ci fs wr cells slots) : N J X Q pc lv st h0 ci fs wr cells slots := fun hX H ls locs hl hP hD hS => lv_bipush hX.1 hX.2.1 hd hv (k hX H ls locs hl hP hD hS)
theorem N_sipush {n : Int} {v : Int32} (hd : decode J.1 pc = .ok (.sipush n, 3)) (hv : (Int16.ofInt n).toInt32 = v) (k : N J X Q (pc + 3) lv (.int v :: st) h0 ci fs wr cells slots) : N J X Q pc lv st h0 ci fs wr cells slots := fun hX H ls locs hl hP hD hS => lv_sipush hX.1 hX.2.1 hd hv (k hX H ls locs hl hP hD hS)
theorem N_ldc {index : Nat} {v : Int32} (hw : Cond.constant J.2.2.1 index v ∈ gws) (hd : decode J.1 pc = .ok (.ldc index, 2)) (k : N J X Q (pc + 2) lv (.int v :: st) h0 ci fs wr cells slots) : N J X Q pc lv st h0 ci fs wr cells slots := fun hX H ls locs hl hP hD hS => lv_ldc hX.1 hX.2.1 hX.2.2.2.2.1 (hX.2.2.2.2.2.1 _ hw) hd (k hX H ls locs hl hP hD hS)
theorem N_aload_n {n : Fin 4} {i x : Nat} (q : Nat) (hd : decode J.1 pc = .ok (.aload_n n, 1)) (hi : (n : Nat) = i) (h : lv[q]? = some (i, .ref x)) (k : N J X Q (pc + 1) lv (.ref x :: st) h0 ci fs wr cells slots) : N J X Q pc lv st h0 ci fs wr cells slots := fun hX H ls locs hl hP hD hS => lv_aload_n hX.1 hX.2.1 hd hi (lv_at hl q h) (k hX H ls locs hl hP hD hS)
theorem N_astore_n {n : Fin 4} {i x : Nat} {lv' : List (Nat × Value)} (hd : decode J.1 pc = .ok (.astore_n n, 1)) (hi : (n : Nat) = i) (hn : i < J.2.1) (hl2 : (i, Value.ref x) :: lv.filter (fun q => !(q.1 == i) && !(q.1 + 1 == i && q.2.category == 2)) = lv') (k : N J X Q (pc + 1) lv' st h0 ci fs wr cells slots) : N J X Q pc lv (.ref x :: st) h0 ci fs wr cells slots := fun hX H ls locs hl hP hD hS => lv_astore_n hX.1 hX.2.1 hd hi hl hn hl2 (fun ls2 hl2 => k hX H ls2 locs hl2 hP hD hS)
theorem N_dup {v : Value} (hd : decode J.1 pc = .ok (.dup, 1)) (hv : v.category = 1) (k : N J X Q (pc + 1) lv (v :: v :: st) h0 ci fs wr cells slots) : N J X Q pc lv (v :: st) h0 ci fs wr cells slots := fun hX H ls locs hl hP hD hS => lv_dup hX.1 hX.2.1 hd hv (k hX H ls locs hl hP hD hS)
theorem N_obj {idx a : Nat} (hw : Cond.methodLink J.2.2.1 idx Lib.objectInit ∈ gws) (hw2 : Cond.instanceMethod Lib.objectInit ∈ gws) (hw3 : Cond.code Lib.objectInit ⟨#[0xb1]⟩ 1 none ∈ gws) (hd : decode J.1 pc = .ok (.invokespecial idx, 3)) (hr : 1 ≤ J.2.2.2.2.frames ∧ 40 ≤ J.2.2.2.2.locals) (hc : (st.map fun v => v.category).sum ≤ 8) (k : N J X Q (pc + 3) lv st h0 ci fs wr cells slots) : N J X Q pc lv (.ref a :: st) h0 ci fs wr cells slots := fun hX H ls locs hl hP hD hS => W.objInit hX.1 hX.2.1 hX.2.2.2.2.1 (hX.2.2.2.2.2.1 _ hw) (hX.2.2.2.2.2.1 _ hw2) (hX.2.2.2.2.2.1 _ hw3) rfl (hl.1.trans hX.2.2.1.symm) rfl hd hr.1 (by have := lv_room (m := xm X) (pc := pc) (ls := ls) (rest := .ref a :: st) hc; omega) (k hX H ls locs hl hP hD hS)
theorem n_cA {Z : gZ} {s : State} {cA : ClassId} {ty : FieldType} {i : Nat} {cB : ClassId} (hK : va_K Z.1 vwCl (g_ty Z) s) (hK2 : va_K Z.1 vwCl (g_ty Z ++ [(cA, ty)]) s) (hi : (g_ty Z)[i]? = some (cB, ty)) (ht : ∀ U c, va_RA U c ty ↔ U.vm.findClass ("[" ++ ty.toString) = some c) : cA = cB := by
  have h1 := (ht _ _).mp (hK.2 i _ hi).2
  have h2 := (ht _ _).mp (hK2.2 3 (cA, ty) rfl).2
  exact Option.some.inj (h2.symm.trans h1)
theorem N_newI {n : Int32} {K : Nat} (hw : Cond.arrayClass .int ∈ gws) (hd : decode J.1 pc = .ok (.newarray .int, 2)) (hn : ¬ n < 0) (hN : n.toNatClampNeg = K) (hK0 : K * 4 ≤ 536870912) (hR : cells + 1 ≤ J.2.2.2.2.cells ∧ slots + K ≤ J.2.2.2.2.slots) (k : ∀ q, N J X Q (pc + 2) lv (.ref q :: st) h0 ci fs (wr ++ [(q, .inl ((xZ X).2.2.1, K, .inl (fun _ => 0)))]) (cells + 1) (slots + K)) : N J X Q pc lv (.int n :: st) h0 ci fs wr cells slots := by
  intro hX H ls locs hl hP hD hS
  refine va_newa (atype := .int) hX.1 hX.2.1 (ty := .int) (a0 := (K, .inl (fun _ => 0))) (hX.2.2.2.2.2.1 _ hw) rfl hX.2.2.2.2.2.2.2.1 hP hD hS hX.2.2.2.2.2.2.2.2.2.1 (fun _ => rfl) hn hN hK0 hR.1 hR.2 hd (fun q cA H1 hK2 hP2 hD2 hS2 => ?_)
  have e : cA = (xZ X).2.2.1 := n_cA (i := 0) hX.2.2.2.2.2.2.2.1 hK2 rfl (fun _ _ => Iff.rfl)
  subst e
  exact k q hX H1 ls locs hl hP2 hD2 hS2
theorem N_newL {n : Int32} {K : Nat} (hw : Cond.arrayClass .long ∈ gws) (hd : decode J.1 pc = .ok (.newarray .long, 2)) (hn : ¬ n < 0) (hN : n.toNatClampNeg = K) (hK0 : K * 8 ≤ 536870912) (hR : cells + 1 ≤ J.2.2.2.2.cells ∧ slots + K ≤ J.2.2.2.2.slots) (k : ∀ q, N J X Q (pc + 2) lv (.ref q :: st) h0 ci fs (wr ++ [(q, .inl ((xZ X).2.2.2.1, K, .inr (.inl (fun _ => 0))))]) (cells + 1) (slots + K)) : N J X Q pc lv (.int n :: st) h0 ci fs wr cells slots := by
  intro hX H ls locs hl hP hD hS
  refine va_newa (atype := .long) hX.1 hX.2.1 (ty := .long) (a0 := (K, .inr (.inl (fun _ => 0)))) (hX.2.2.2.2.2.1 _ hw) rfl hX.2.2.2.2.2.2.2.1 hP hD hS hX.2.2.2.2.2.2.2.2.2.1 (fun _ => rfl) hn hN hK0 hR.1 hR.2 hd (fun q cA H1 hK2 hP2 hD2 hS2 => ?_)
  have e : cA = (xZ X).2.2.2.1 := n_cA (i := 1) hX.2.2.2.2.2.2.2.1 hK2 rfl (fun _ _ => Iff.rfl)
  subst e
  exact k q hX H1 ls locs hl hP2 hD2 hS2
theorem N_newZ {n : Int32} {K : Nat} (hw : Cond.arrayClass .boolean ∈ gws) (hd : decode J.1 pc = .ok (.newarray .boolean, 2)) (hn : ¬ n < 0) (hN : n.toNatClampNeg = K) (hK0 : K * 1 ≤ 536870912) (hR : cells + 1 ≤ J.2.2.2.2.cells ∧ slots + K ≤ J.2.2.2.2.slots) (k : ∀ q, N J X Q (pc + 2) lv (.ref q :: st) h0 ci fs (wr ++ [(q, .inl ((xZ X).2.2.2.2.1, K, .inl (fun _ => 0)))]) (cells + 1) (slots + K)) : N J X Q pc lv (.int n :: st) h0 ci fs wr cells slots := by
  intro hX H ls locs hl hP hD hS
  refine va_newa (atype := .boolean) hX.1 hX.2.1 (ty := .boolean) (a0 := (K, .inl (fun _ => 0))) (hX.2.2.2.2.2.1 _ hw) rfl hX.2.2.2.2.2.2.2.1 hP hD hS hX.2.2.2.2.2.2.2.2.2.1 (fun _ => rfl) hn hN hK0 hR.1 hR.2 hd (fun q cA H1 hK2 hP2 hD2 hS2 => ?_)
  have e : cA = (xZ X).2.2.2.2.1 := n_cA (i := 2) hX.2.2.2.2.2.2.2.1 hK2 rfl (fun _ _ => Iff.rfl)
  subst e
  exact k q hX H1 ls locs hl hP2 hD2 hS2
theorem N_putF {idx : Nat} {C : String} {T : u_T} {K : Nat} {ty : Nat → FieldType} {v : Value} {t : FieldType} {fs' : List Value} (j : Nat) (cl : g_cls ci C T K ty) (hw : Cond.fieldLink J.2.2.1 idx (T j).1 (T j).2.1 (T j).2.2.1 ∈ gws) (hd : decode J.1 pc = .ok (.putfield idx, 3)) (hj : j < K) (hfin : (T j).2.2.2 = true) (hdecl : (T j).1 = J.2.2.1) (hty : ty j = t) (hn : narrow t v = v) (hfit : fits t v = true) (hl0 : j < fs.length) (he : fs.set j v = fs') (k : N J X Q (pc + 3) lv st h0 ci fs' wr cells slots) : N J X Q pc lv (v :: .ref h0 :: st) h0 ci fs wr cells slots := by
  intro hX H ls locs hl hP hD hS
  subst he
  exact va_putF hX.1 hX.2.1 hX.2.2.2.2.2.1 cl.2.1 ty cl.2.2.1 cl.2.2.2 hX.2.2.2.2.1 hX.2.2.2.2.2.2.2.1 hP hD hS 0 rfl cl.1 j hj (hX.2.2.2.2.2.1 _ hw) (fun _ h => h) hfin hX.2.2.2.2.2.2.2.2.1 hdecl ((cl.2.2.1 j hj).trans (congrArg some hty)) hn hfit hl0 hd (fun H1 locs1 hP1 hD1 hS1 => k hX H1 ls locs1 hl hP1 hD1 hS1)
theorem N_put {idx : Nat} {C : String} {T : u_T} {K : Nat} {ty : Nat → FieldType} {v : Value} {t : FieldType} {fs' : List Value} (j : Nat) (cl : g_cls ci C T K ty) (hw : Cond.fieldLink J.2.2.1 idx (T j).1 (T j).2.1 (T j).2.2.1 ∈ gws) (hd : decode J.1 pc = .ok (.putfield idx, 3)) (hj : j < K) (hfin : (T j).2.2.2 = false) (hty : ty j = t) (hn : narrow t v = v) (hfit : fits t v = true) (hl0 : j < fs.length) (he : fs.set j v = fs') (k : N J X Q (pc + 3) lv st h0 ci fs' wr cells slots) : N J X Q pc lv (v :: .ref h0 :: st) h0 ci fs wr cells slots := by
  intro hX H ls locs hl hP hD hS
  subst he
  exact va_put hX.1 hX.2.1 hX.2.2.2.2.2.1 cl.2.1 ty cl.2.2.1 cl.2.2.2 hX.2.2.2.2.1 hX.2.2.2.2.2.2.2.1 hP hD hS 0 rfl cl.1 j hj (hX.2.2.2.2.2.1 _ hw) (fun _ h => h) hfin ((cl.2.2.1 j hj).trans (congrArg some hty)) hn hfit hl0 hd (fun H1 locs1 hP1 hD1 hS1 => k hX H1 ls locs1 hl hP1 hD1 hS1)
theorem N_get {idx : Nat} {C : String} {T : u_T} {K : Nat} {ty : Nat → FieldType} {v : Value} (j : Nat) (cl : g_cls ci C T K ty) (hw : Cond.fieldLink J.2.2.1 idx (T j).1 (T j).2.1 (T j).2.2.1 ∈ gws) (hd : decode J.1 pc = .ok (.getfield idx, 3)) (hj : j < K) (hv : fs[j]? = some v) (k : N J X Q (pc + 3) lv (v :: st) h0 ci fs wr cells slots) : N J X Q pc lv (.ref h0 :: st) h0 ci fs wr cells slots := fun hX H ls locs hl hP hD hS => va_get hX.1 hX.2.1 hX.2.2.2.2.2.1 cl.2.1 hX.2.2.2.2.1 hX.2.2.2.2.2.2.2.1 hP 0 rfl cl.1 j hj (hX.2.2.2.2.2.1 _ hw) (fun _ h => h) hv hd (k hX H ls locs hl hP hD hS)
theorem N_iast {i x : Int32} {a K : Nat} {f : Nat → Int32} {wr' : va_W} (p : Nat) (ha : wr[p]? = some (a, .inl ((xZ X).2.2.1, K, .inl f))) (hin : vp_in i K) (hd : decode J.1 pc = .ok (.iastore, 1)) (he : wr.set p (a, .inl ((xZ X).2.2.1, K, .inl (upd f i.toNatClampNeg x))) = wr') (k : N J X Q (pc + 1) lv st h0 ci fs wr' cells slots) : N J X Q pc lv (.int x :: .int i :: .ref a :: st) h0 ci fs wr cells slots := by
  intro hX H ls locs hl hP hD hS
  subst he
  exact va_iast hX.1 hX.2.1 hX.2.2.2.2.2.2.2.1 hP hD hS (p + 1) 0 ha rfl hin hd (fun H1 locs1 hP1 hD1 hS1 => k hX H1 ls locs1 hl hP1 hD1 hS1)
theorem N_new {idx ci2 : Nat} {C : String} {T : u_T} {K : Nat} {ty : Nat → FieldType} {fs2 : List Value} (cl : g_cls ci2 C T K ty) (hw1 : Cond.classLink J.2.2.1 idx C ∈ gws) (hw2 : Cond.instantiable C K ∈ gws) (hw3 : Cond.initialized C ∈ gws) (hd : decode J.1 pc = .ok (.new idx, 3)) (hfs : ∀ j, j < K → defaultValue (ty j) = vp_V fs2 j) (hR : cells + 1 ≤ J.2.2.2.2.cells ∧ slots + K ≤ J.2.2.2.2.slots) (k : ∀ q, N J X Q (pc + 3) lv (.ref q :: st) h0 ci fs (wr ++ [(q, .inr (ci2, fs2))]) (cells + 1) (slots + K)) : N J X Q pc lv st h0 ci fs wr cells slots := by
  intro hX H ls locs hl hP hD hS
  exact va_new hX.1 hX.2.1 hX.2.2.2.2.2.1 cl.2.1 ty cl.2.2.1 hX.2.2.2.2.1 (hX.2.2.2.2.2.1 _ hw1) (hX.2.2.2.2.2.1 _ hw2) (hX.2.2.2.2.2.1 _ hw3) hX.2.2.2.2.2.2.2.1 hP hD hS hX.2.2.2.2.2.2.2.2.2.1 cl.1 hfs hR.1 hR.2 hd (fun q H1 hP1 hD1 hS1 => k q hX H1 ls locs hl hP1 hD1 hS1)
end NR
def n_wI (own : String) (idx : Nat) (y : MethodName) (J : gJ) (n : Nat) : Prop := g_wc own idx y J n ∧ y.name = "<init>" ∧ Cond.instanceMethod y ∈ gws
def n_met (y : MethodName) (J : gJ) (ci : Nat) (fs : List Value) (av : List Value) (Z : gZ) (h0 : Nat) (PX : va_W → Prop) : Prop :=
  ∀ (l : Launch) (sz : Nat), Met l y (Cond.code y J.1 J.2.1 J.2.2.2.1 :: gws) J.2.2.2.2 (va_Pc (.ref h0 :: av) (fun U => U.heap.size = sz ∧ va_P Z.1 vwCl [(h0, .inr (ci, fs))] U.heap ∧ va_K Z.1 vwCl (g_ty Z) U ∧ g_ns U ∧ g_en Z (va_A [(h0, .inr (ci, fs))] sz) U U.heap)) (n_Qc Z PX (va_A [(h0, .inr (ci, fs))] sz)) J.2.2.2.2.cells J.2.2.2.2.slots (va_A [(h0, .inr (ci, fs))] sz)
theorem n_join {D : va_G} {A : Nat → Prop} {wa w1 : va_W} {q : Nat} {e : va_E} {H H1 : Heap} (hP : va_P D vwCl (wa ++ [(q, e)]) H) (hD : va_D A (wa ++ [(q, e)])) (hP1 : va_P D vwCl w1 H1) (hD1 : va_D (va_A [(q, e)] H.size) w1) (hA : ∀ z, va_A [(q, e)] H.size z → A z) (hk : ∀ z : Nat, z < H.size → ¬ va_A [(q, e)] H.size z → H1[z]? = H[z]?) : va_P D vwCl (wa ++ w1) H1 ∧ va_D A (wa ++ w1) := by
  have key : ∀ (k : Nat) (z : Nat × va_E), wa[k]? = some z → z.1 < H.size ∧ ¬ va_A [(q, e)] H.size z.1 := by
    intro k z hz
    have hlt := (List.getElem?_eq_some_iff.mp hz).1
    have h1 : (wa ++ [(q, e)])[k]? = some z := by rw [List.getElem?_append_left hlt]; exact hz
    have hl := (hP k z h1).lt
    refine ⟨hl, fun h => ?_⟩
    rcases h with ⟨j, e2, h⟩ | h
    · have hj := (List.getElem?_eq_some_iff.mp h).1
      simp at hj
      subst hj
      cases h
      have := hD.1 k wa.length z (z.1, e) h1 (by rw [List.getElem?_append_right (Nat.le_refl _), Nat.sub_self]; rfl) rfl
      omega
    · omega
  refine ⟨va_P.app (fun k z hz => ?_) hP1, va_D.app ⟨fun i j p z hp hz he => ?_, fun k z hz => ?_⟩ (hD1.weaken (fun k z _ h => hA z.1 h)) (fun i j x y hx hy hxy => ?_)⟩
  · have hlt := (List.getElem?_eq_some_iff.mp hz).1
    obtain ⟨g1, g2⟩ := key k z hz
    exact (hP k z (by rw [List.getElem?_append_left hlt]; exact hz)).kept (hk z.1 g1 g2)
  · have h1 := (List.getElem?_eq_some_iff.mp hp).1
    have h2 := (List.getElem?_eq_some_iff.mp hz).1
    exact hD.1 i j p z (by rw [List.getElem?_append_left h1]; exact hp) (by rw [List.getElem?_append_left h2]; exact hz) he
  · have h1 := (List.getElem?_eq_some_iff.mp hz).1
    exact hD.2 k z (by rw [List.getElem?_append_left h1]; exact hz)
  · exact (key i x hx).2 (by rw [hxy]; exact hD1.2 j y hy)
theorem n_go {p : Program} {l : Launch} {e : Env} {R : Room} {s : State} {m : MethodId} {args : Array Value} {below : List Frame} {meth : Method} {c : Code} {H : Heap} {locs : List Loc} {cells slots mc ms : Nat} {Q : State → Prop} {pc : Nat} {ls : Array Slot} {rest st0 : List Value} {a : Array Value} {A0 A1 : Nat → Prop} {H0 : Heap} {free : Addr → Prop} {Z : gZ} {PX : va_W → Prop}
    (hr : va_Run p l e R s m args below meth c H locs cells slots mc ms (F0 m pc ls st0) rest (n_Qc Z PX A1 a) free) (hS : va_S A0 H0 H locs) (hA : ∀ q, q < H.size → A1 q → A0 q) (hf : ∀ q, free q → A0 q)
    (kk : ∀ (w : va_W) (H1 : Heap) (locs1 : List Loc), PX w → va_P Z.1 vwCl w H1 → va_D A1 w → (∀ q : Nat, q < H.size → ¬ A1 q → H1[q]? = H[q]?) → va_S A0 H0 H1 locs1 → W p l e R s m args below meth c H1 locs1 (cells + mc) (slots + ms) Q (F0 m (pc + 3) ls rest)) : W p l e R s m args below meth c H locs cells slots Q (F0 m pc ls st0) := by
  intro T hT X
  obtain ⟨v, st₀, t, T', L, h0, X', hL, e1, e2, ⟨⟨hv, w, hw, hp, hd⟩, hF⟩, st⟩ := hr T hT X
  cases hv
  obtain ⟨k1, k2, k3⟩ := vx_keep h0 e1 hS hA hf hL hF
  obtain ⟨t2, a1, b1⟩ := kk w T'.heap (locs ++ L) hw (by rw [e1]; exact hp) hd k2 k3 T' rfl X'
  exact ⟨t2, st t2 a1, b1⟩
theorem N_call {J J' : gJ} {X : gX} {Q : State → Prop} {pc idx n : Nat} {lv : List (Nat × Value)} {st0 rest : List Value} {h0 ci : Nat} {fs : List Value} {wr : va_W} {cells slots : Nat} {q ci2 : Nat} {fs2 av : List Value} {PX : va_W → Prop} {y : MethodName} (hM : n_met y J' ci2 fs2 av (xZ X) q PX) (hw : n_wI J.2.2.1 idx y J' n) (hret : J'.2.2.2.1 = none) (hd : decode J.1 pc = .ok (.invokespecial idx, 3)) (hn : av.length = n) (hst : st0 = av.reverse ++ .ref q :: rest) (hc : (rest.map fun v => v.category).sum ≤ 8) (hr : (J'.2.2.2.2.frames + 1 ≤ J.2.2.2.2.frames ∧ 8 + (J'.2.1 + 11) + J'.2.2.2.2.locals ≤ J.2.2.2.2.locals) ∧ cells + J'.2.2.2.2.cells ≤ J.2.2.2.2.cells ∧ slots + J'.2.2.2.2.slots ≤ J.2.2.2.2.slots)
    (kk : ∀ w, PX w → N J X Q (pc + 3) lv rest h0 ci fs (wr ++ w) (cells + J'.2.2.2.2.cells) (slots + J'.2.2.2.2.slots)) : N J X Q pc lv st0 h0 ci fs (wr ++ [(q, .inr (ci2, fs2))]) cells slots := by
  intro hX H ls locs hl hP hD hS
  obtain ⟨hx, hb, hml, hrt, hown, hts, hlk, hK, hnm, hA, hns, hen⟩ := id hX
  have hP' : va_P (xZ X).1 vwCl (((h0, .inr (ci, fs)) :: wr) ++ [(q, .inr (ci2, fs2))]) H := hP
  have hD' : va_D (xA X) (((h0, .inr (ci, fs)) :: wr) ++ [(q, .inr (ci2, fs2))]) := hD
  have hq : (((h0, .inr (ci, fs)) :: wr) ++ [(q, .inr (ci2, fs2))])[((h0, (.inr (ci, fs) : va_E)) :: wr).length]? = some (q, .inr (ci2, fs2)) := by
    rw [List.getElem?_append_right (Nat.le_refl _), Nat.sub_self]
    rfl
  have hPc : va_P (xZ X).1 vwCl [(q, .inr (ci2, fs2))] H := by
    intro k z hz
    have hk := (List.getElem?_eq_some_iff.mp hz).1
    simp at hk
    subst hk
    cases hz
    exact hP' _ _ hq
  have hsub : ∀ z, va_A [(q, .inr (ci2, fs2))] H.size z → (xA X) z := by
    intro z h
    rcases h with ⟨k, e, h⟩ | h
    · have hk := (List.getElem?_eq_some_iff.mp h).1
      simp at hk
      subst hk
      cases h
      exact hD'.2 _ _ hq
    · exact hA z (Nat.le_trans hS.1 h)
  have hcb : CallB J.2.2.2.2 (xs X) (xa X) J.2.2.1 idx y J'.1 J'.2.1 none (Cond.code y J'.1 J'.2.1 J'.2.2.2.1 :: gws) J'.2.2.2.2 J'.2.2.2.2.cells J'.2.2.2.2.slots n := by
    rw [← hret]
    exact callB_of n hts (g_good y J' hw.1.2.2.1) rfl rfl rfl (hts _ hw.1.2.1) (hts _ hw.1.1) hw.1.2.2.2 hr.1
  refine n_go (va_runI (As := av) (rest := rest) ⟨hx, hb, hml, hown, hts⟩ (hM (xl X) H.size) ⟨hcb, hw.2.1, hts _ hw.2.2⟩ ⟨fun a U g mk z => ⟨z.1, z.2.1, z.2.2.1, va_K.moved (u := U) (U := U.calling g mk a) (Vm.Alike.refl U.vm) z.2.2.2.1, z.2.2.2.2.1.same rfl, g_en.call (U := U) (V := U.calling g mk a) rfl z.2.2.2.2.2⟩, fun U hU hW => ⟨rfl, by rw [hU], by rw [hU]; exact hPc, va_K.moved hW.alike hK, hns.warm hW, hen.go hW hS hsub hU⟩⟩ rfl hn hl.1 hst (lv_room hc) hd hr.2) hS (fun z _ h => hsub z h) hsub (fun w H1 locs1 hw1 hP1 hD1 hk1 hS1 => ?_)
  obtain ⟨hP2, hD2⟩ := n_join hP' hD' hP1 hD1 hsub hk1
  exact kk w hw1 hX H1 ls locs1 hl hP2 hD2 hS1
theorem N_callN {J J' : gJ} {X : gX} {Q : State → Prop} {pc idx n : Nat} {lv : List (Nat × Value)} {st0 rest : List Value} {h0 ci : Nat} {fs : List Value} {wr : va_W} {cells slots : Nat} {q ci2 : Nat} {fs2 av : List Value} {PX : va_W → Prop} {y : MethodName} (hM : n_met y J' ci2 fs2 av (xZ X) q PX) (hnw : g_ns (xs X) → va_Nw (.methodLinkNest J.2.2.1 idx y "RopeSchool") (xs X)) (hw : (Cond.initialized y.cls ∈ gws ∧ Cond.code y J'.1 J'.2.1 J'.2.2.2.1 ∈ gws ∧ (y.cls ≠ "java/lang/invoke/MethodHandle" ∧ y.cls ≠ "java/lang/invoke/VarHandle" ∧ (parseMethodDescriptor y.desc).map (fun d => d.parameters.length) = some n)) ∧ y.name = "<init>" ∧ Cond.instanceMethod y ∈ gws) (hret : J'.2.2.2.1 = none) (hd : decode J.1 pc = .ok (.invokespecial idx, 3)) (hn : av.length = n) (hst : st0 = av.reverse ++ .ref q :: rest) (hc : (rest.map fun v => v.category).sum ≤ 8) (hr : (J'.2.2.2.2.frames + 1 ≤ J.2.2.2.2.frames ∧ 8 + (J'.2.1 + 11) + J'.2.2.2.2.locals ≤ J.2.2.2.2.locals) ∧ cells + J'.2.2.2.2.cells ≤ J.2.2.2.2.cells ∧ slots + J'.2.2.2.2.slots ≤ J.2.2.2.2.slots)
    (kk : ∀ w, PX w → N J X Q (pc + 3) lv rest h0 ci fs (wr ++ w) (cells + J'.2.2.2.2.cells) (slots + J'.2.2.2.2.slots)) : N J X Q pc lv st0 h0 ci fs (wr ++ [(q, .inr (ci2, fs2))]) cells slots := by
  intro hX H ls locs hl hP hD hS
  obtain ⟨hx, hb, hml, hrt, hown, hts, hlk, hK, hnm, hA, hns, hen⟩ := id hX
  have hP' : va_P (xZ X).1 vwCl (((h0, .inr (ci, fs)) :: wr) ++ [(q, .inr (ci2, fs2))]) H := hP
  have hD' : va_D (xA X) (((h0, .inr (ci, fs)) :: wr) ++ [(q, .inr (ci2, fs2))]) := hD
  have hq : (((h0, .inr (ci, fs)) :: wr) ++ [(q, .inr (ci2, fs2))])[((h0, (.inr (ci, fs) : va_E)) :: wr).length]? = some (q, .inr (ci2, fs2)) := by
    rw [List.getElem?_append_right (Nat.le_refl _), Nat.sub_self]
    rfl
  have hPc : va_P (xZ X).1 vwCl [(q, .inr (ci2, fs2))] H := by
    intro k z hz
    have hk := (List.getElem?_eq_some_iff.mp hz).1
    simp at hk
    subst hk
    cases hz
    exact hP' _ _ hq
  have hsub : ∀ z, va_A [(q, .inr (ci2, fs2))] H.size z → (xA X) z := by
    intro z h
    rcases h with ⟨k, e, h⟩ | h
    · have hk := (List.getElem?_eq_some_iff.mp h).1
      simp at hk
      subst hk
      cases h
      exact hD'.2 _ _ hq
    · exact hA z (Nat.le_trans hS.1 h)
  have hcb : va_CN J.2.2.2.2 (xs X) (xa X) J.2.2.1 idx y "RopeSchool" J'.1 J'.2.1 none (Cond.code y J'.1 J'.2.1 J'.2.2.2.1 :: gws) J'.2.2.2.2 J'.2.2.2.2.cells J'.2.2.2.2.slots n := by
    rw [← hret]
    exact va_cnB n hts (g_good y J' hw.1.2.1) rfl rfl rfl (hnw hns) (hts _ hw.1.1) hw.1.2.2 hr.1
  refine n_go (va_runIN (As := av) (rest := rest) ⟨hx, hb, hml, hown, hts⟩ (hM (xl X) H.size) ⟨hcb, hw.2.1, hts _ hw.2.2⟩ ⟨fun a U g mk z => ⟨z.1, z.2.1, z.2.2.1, va_K.moved (u := U) (U := U.calling g mk a) (Vm.Alike.refl U.vm) z.2.2.2.1, z.2.2.2.2.1.same rfl, g_en.call (U := U) (V := U.calling g mk a) rfl z.2.2.2.2.2⟩, fun U hU hW => ⟨rfl, by rw [hU], by rw [hU]; exact hPc, va_K.moved hW.alike hK, hns.warm hW, hen.go hW hS hsub hU⟩⟩ rfl hn hl.1 hst (lv_room hc) hd hr.2) hS (fun z _ h => hsub z h) hsub (fun w H1 locs1 hw1 hP1 hD1 hk1 hS1 => ?_)
  obtain ⟨hP2, hD2⟩ := n_join hP' hD' hP1 hD1 hsub hk1
  exact kk w hw1 hX H1 ls locs1 hl hP2 hD2 hS1
theorem N_ret {J : gJ} {X : gX} {pc : Nat} {lv : List (Nat × Value)} {h0 ci : Nat} {fs : List Value} {wr : va_W} {PX : va_W → Prop} (hd : decode J.1 pc = .ok (.return_, 1)) (hPX : PX ((h0, .inr (ci, fs)) :: wr)) {cells slots : Nat} : N J X (MQ (xb X) (n_Qc (xZ X) PX (xA X)) (xa X) (xs X) cells slots (xA X)) pc lv [] h0 ci fs wr cells slots := by
  intro hX H ls locs hl hP hD hS
  exact W.vret hX.1 hX.2.1 hX.2.2.2.1 (fun t ht _ => ⟨⟨rfl, _, hPX, by rw [ht]; exact hP, hD⟩, hS.F ht⟩) (fun q hq => hS.2.2 q hq) hd hX.2.2.2.2.2.2.1
theorem n_enter {y : MethodName} {J : gJ} {ci : Nat} {fs av : List Value} {Z : gZ} {h0 : Nat} {PX : va_W → Prop} (lv0 : List (Nat × Value)) (hy : plainName y.cls = true) (hcl : y.cls = J.2.2.1) (hnm : y.name = "<init>") (hret : J.2.2.2.1 = none) (hlen : (lg_sl (.ref h0 :: av)).length ≤ J.2.1) (hlv : lv_args 0 (.ref h0 :: av) = lv0)
    (k : ∀ X : gX, xZ X = Z → N J X (MQ (xb X) (n_Qc (xZ X) PX (xA X)) (xa X) (xs X) J.2.2.2.2.cells J.2.2.2.2.slots (xA X)) 0 lv0 [] h0 ci fs [] 0 0) : n_met y J ci fs av Z h0 PX := by
  intro l sz
  refine Met.ofW (cc := J.1) (maxL := J.2.1) (ret := J.2.2.2.1) hy rfl ?_
  intro p e s m args below meth c s₁ B hml hv
  obtain ⟨rfl, hsz, hP, hK, hns, hen⟩ := hv
  subst hsz
  have hts := atoms_spec (ws := Cond.code y J.1 J.2.1 J.2.2.2.1 :: gws) B.pre
  have hown : s.vm.findClass y.cls = some m.cls := findClass_of_methodNamed B.named
  have hin : meth.name = y.name := (name_of_methodNamed B.named B.method).1
  have hl := lv_entry (.ref h0 :: av) (n := J.2.1) hlen
  rw [hlv] at hl
  rw [lg_entry_eq]
  have hD : va_D (va_A [(h0, .inr (ci, fs))] s.heap.size) [(h0, (.inr (ci, fs) : va_E))] := by
    refine ⟨fun i j a b ha hb _ => ?_, fun k q hk => va_A.in hk⟩
    have h1 := (List.getElem?_eq_some_iff.mp ha).1
    have h2 := (List.getElem?_eq_some_iff.mp hb).1
    simp at h1 h2
    omega
  exact k (p, l, e, s, m, (.ref h0 :: av).toArray, below, meth, c, Z, va_A [(h0, .inr (ci, fs))] s.heap.size) rfl ⟨B.exec, B.bytes, hml, B.returns.trans hret, by rw [← hcl]; exact hown, fun w h => hts w (List.mem_cons_of_mem _ h), B.notSynchronized, hK, hin.trans hnm, fun q h => Or.inr h, hns, hen⟩ s.heap _ [] hl hP hD va_S.rf
