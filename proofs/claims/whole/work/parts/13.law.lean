def R_law : String := "RopeSchoolLaw"
theorem rm_c : 600000 ≤ room_1.cells := by decide
theorem rm_s : 7000000 ≤ room_1.slots := by decide
def lw_Q (_ : Array Value) (s : State) (o : Outcome) (t : State) : Prop := o = .returned (some (.int 1)) ∧ Framed s o t [] room_1.cells room_1.slots
def lw_Z (below : List Frame) (a : Array Value) (s : State) : State → Prop := fun t => ∃ o, t.status = .running ∧ Ended t below o ∧ lw_Q a s o t
theorem lw_ret {p : Program} {l : Launch} {e : Env} {s : State} {m : MethodId} {below : List Frame} {meth : Method} {c : Code} {b : Nat} (hx : p.tables.exec = Jvm.exec) (hb : c.code = code) (hr : meth.sig.returnType = ret) (hlocks : meth.locks = false) {pc : Nat} {H : Heap} {ls : Array Slot} (hdg : decode code pc = .ok (.ireturn, 1)) : W p l e room_1 s m #[Value.ref b] below meth c H [] room_1.cells room_1.slots (lw_Z below #[Value.ref b] s) (F0 m pc ls [.int 1]) := by
  intro T hT X
  obtain ⟨fs, hret, hrun, hended, hW, hframe⟩ := X.leave (v := some (.int 1)) (hlocks := hlocks) (fun h => by rw [hr] at h; cases h)
  have hmeth' : T.vm.method? m = some meth := X.method'
  refine ⟨T.setFrames fs, ?_, .returned (some (.int 1)), hrun, hended, rfl, ⟨_, rfl⟩, hW, hframe⟩
  jvm_step X.here [X.here.top, hx, hb, hdg, hmeth', hr, ret, narrow_b1]
  (try refine ⟨rfl, ?_⟩); (try refine ⟨rfl, ?_⟩)
  first | (intro acts; rw [hret _ acts rfl rfl rfl]) | rw [hret _ _ rfl rfl rfl]
  exact Steps.refl _
/-! the law's walk: two systems side by side, and the array of one long -/
abbrev gXL := (Program × Launch × Env × State × MethodId) × (Nat × List Frame × Method × Code) × (gZ × (Nat → Nat) × Nat) × (Nat × (Nat → Int32))
abbrev lp (X : gXL) : Program := X.1.1
abbrev ll (X : gXL) : Launch := X.1.2.1
abbrev le (X : gXL) : Env := X.1.2.2.1
abbrev lS (X : gXL) : State := X.1.2.2.2.1
abbrev lm (X : gXL) : MethodId := X.1.2.2.2.2
abbrev lb (X : gXL) : Nat := X.2.1.1
abbrev lbel (X : gXL) : List Frame := X.2.1.2.1
abbrev lmt (X : gXL) : Method := X.2.1.2.2.1
abbrev lc (X : gXL) : Code := X.2.1.2.2.2
abbrev lZ (X : gXL) : gZ := X.2.2.1.1
abbrev lad2 (X : gXL) : Nat → Nat := X.2.2.1.2.1
abbrev lo (X : gXL) : Nat := X.2.2.1.2.2
abbrev lL (X : gXL) : Nat := X.2.2.2.1
abbrev lxs (X : gXL) : Nat → Int32 := X.2.2.2.2
abbrev lad (X : gXL) : Nat → Nat := (lZ X).2.1
abbrev lZ2 (X : gXL) : gZ := ((lZ X).1, lad2 X, (lZ X).2.2)
def l_out (X : gXL) (ov : Int64) : va_W := [(lo X, .inl ((lZ X).2.2.2.1, 1, .inr (.inl (fun _ => ov))))]
def l_ws (X : gXL) (M1 M2 : gM) (ov : Int64) : va_W := g_ws Y1 (lZ X) M1 ++ (g_ws Y2 (lZ2 X) M2 ++ l_out X ov)
def lA (X : gXL) : Nat → Prop := fun q => (lS X).heap.size ≤ q
def l_ok (X : gXL) : Prop := (lp X).tables.exec = Jvm.exec ∧ (lc X).code = code ∧ (lmt X).sig.returnType = ret ∧ (lc X).maxLocals = 7 ∧ (lS X).vm.findClass RL = some (lm X).cls ∧ (∀ w ∈ lw_tbl, w.before #[Value.ref (lb X)] (lS X) = true) ∧ va_X (lb X) (lL X) (lxs X) (lS X) (lS X).heap ∧ lb X < (lS X).heap.size ∧ (lmt X).locks = false ∧ va_K (lZ X).1 vwCl (g_ty (lZ X)) (lS X) ∧ (∀ M1 M2 ov, va_D (lA X) (l_ws X M1 M2 ov)) ∧ g_en (lZ X) (lA X) (lS X) (lS X).heap ∧ g_ex (lA X) (ll X) (lS X) (lS X).heap ∧ lL X ≤ 3072
def GL (X : gXL) (k pc : Nat) (lv : List (Nat × Value)) (st : List Value) (M1 M2 : gM) (ov : Int64) (o : Option Bool) : Prop :=
  l_ok X → k ≤ 513 → o = some true → ∀ (H : Heap) (ls : Array Slot) (locs : List Loc), lv_has ls 7 lv → va_P (lZ X).1 vwCl (l_ws X M1 M2 ov) H → va_S (lA X) (lS X).heap H locs →
    W (lp X) (ll X) (le X) room_1 (lS X) (lm X) #[Value.ref (lb X)] (lbel X) (lmt X) (lc X) H locs (200 + k) (800000 + 8 * k) (lw_Z (lbel X) #[Value.ref (lb X)] (lS X)) (F0 (lm X) pc ls st)
theorem l_not {D : va_G} {cl : List vw_C} {A : Nat → Prop} {ws : va_W} {H : Heap} (hD : va_D A ws) (hP : va_P D cl ws H) (off : Nat) (Y : gY) (ad : Nat → Nat) (hsub : ∀ k, k < Y.length → ∃ e, ws[off + k]? = some (ad k, e)) {i : Nat} {q : Nat × va_E} (hi : ws[i]? = some q) (hr : i < off ∨ off + Y.length ≤ i) : q.1 < H.size ∧ ¬ g_A Y ad H.size q.1 := by
  have hl := (hP i q hi).lt
  refine ⟨hl, fun h => ?_⟩
  rcases h with ⟨k, hk, e⟩ | h
  · obtain ⟨e2, h2⟩ := hsub k hk
    have := hD.1 i (off + k) q (ad k, e2) hi h2 e
    omega
  · omega
theorem l_go {p : Program} {l : Launch} {e : Env} {R : Room} {s : State} {m : MethodId} {args : Array Value} {below : List Frame} {meth : Method} {c : Code} {H : Heap} {locs : List Loc} {cells slots : Nat} {Q : State → Prop} {pc : Nat} {ls : Array Slot} {rest st0 : List Value} {a : Array Value} {A0 A1 : Nat → Prop} {H0 : Heap} {free : Addr → Prop} {Y : gY} {Z : gZ} {rv : Option Value} {M1 : gM}
    (hr : va_Run p l e R s m args below meth c H locs cells slots 0 0 (F0 m pc ls st0) rest (g_Qc Y Z A1 rv M1 a) free) (hS : va_S A0 H0 H locs) (hA : ∀ q, q < H.size → A1 q → A0 q) (hf : ∀ q, free q → A0 q)
    (kk : ∀ (H1 : Heap) (locs1 : List Loc), va_P Z.1 vwCl (g_ws Y Z M1) H1 → (∀ q : Nat, q < H.size → ¬ A1 q → H1[q]? = H[q]?) → va_S A0 H0 H1 locs1 → W p l e R s m args below meth c H1 locs1 cells slots Q (F0 m (pc + 3) ls (rv.toList ++ rest))) : W p l e R s m args below meth c H locs cells slots Q (F0 m pc ls st0) := by
  intro T hT X
  obtain ⟨v, st₀, t, T', L, h0, X', hL, e1, e2, ⟨⟨hv, hp⟩, hz, hk⟩, st⟩ := hr T hT X
  cases hv
  rw [h0] at hz hk
  obtain ⟨t2, a1, b1⟩ := kk T'.heap (locs ++ L) (by rw [e1]; exact hp) (fun q h1 h2 => by rw [e1]; exact hk q h1 h2)
    ⟨Nat.le_trans hS.1 (by rw [e1]; exact hz), fun q h1 h2 => by rw [e1, hk q (Nat.lt_of_lt_of_le h1 hS.1) (fun z => h2 (hA q (Nat.lt_of_lt_of_le h1 hS.1) z))]; exact hS.2.1 q h1 h2, fun q hq => by
      rcases List.mem_append.mp hq with h | h
      · exact hS.2.2 q h
      · exact hf _ (hL q h)⟩ T' rfl X'
  exact ⟨t2, st t2 a1, b1⟩
theorem l_in1 {X : gXL} {M1 M2 : gM} {ov : Int64} {k : Nat} (hk : k < Y1.length) : (l_ws X M1 M2 ov)[0 + k]? = (g_ws Y1 (lZ X) M1)[k]? := by
  rw [Nat.zero_add, l_ws, List.getElem?_append_left (by rw [g_len]; exact hk)]
theorem l_in2 {X : gXL} {M1 M2 : gM} {ov : Int64} {k : Nat} (hk : k < Y2.length) : (l_ws X M1 M2 ov)[Y1.length + k]? = (g_ws Y2 (lZ2 X) M2)[k]? := by
  rw [l_ws, List.getElem?_append_right (by rw [g_len]; omega), g_len, Nat.add_sub_cancel_left, List.getElem?_append_left (by rw [g_len]; exact hk)]
theorem g_some {Y : gY} {Z : gZ} {M : gM} {k : Nat} (hk : k < Y.length) : ∃ e, (g_ws Y Z M)[k]? = some (Z.2.1 k, e) := by
  obtain ⟨c, hc⟩ : ∃ c, Y[k]? = some c := ⟨Y[k], List.getElem?_eq_some_iff.mpr ⟨hk, rfl⟩⟩
  exact ⟨_, g_at hc⟩
theorem l_P1 {X : gXL} {M1 M2 : gM} {ov : Int64} {H : Heap} (hP : va_P (lZ X).1 vwCl (l_ws X M1 M2 ov) H) : va_P (lZ X).1 vwCl (g_ws Y1 (lZ X) M1) H := fun k q hq => hP (0 + k) q (by rw [l_in1 (g_inv hq).1]; exact hq)
theorem l_P2 {X : gXL} {M1 M2 : gM} {ov : Int64} {H : Heap} (hP : va_P (lZ X).1 vwCl (l_ws X M1 M2 ov) H) : va_P (lZ X).1 vwCl (g_ws Y2 (lZ2 X) M2) H := fun k q hq => hP (Y1.length + k) q (by rw [l_in2 (g_inv hq).1]; exact hq)
theorem l_D1 {X : gXL} {A : Nat → Prop} (hD : ∀ M1 M2 ov, va_D A (l_ws X M1 M2 ov)) : g_D Y1 (lad X) A := by
  have h := hD (fun _ _ => 0, fun _ _ => 0, fun _ _ => 0) (fun _ _ => 0, fun _ _ => 0, fun _ _ => 0) 0
  refine ⟨fun i j hi hj e => ?_, fun k hk => ?_⟩
  · obtain ⟨e1, h1⟩ := g_some (Z := lZ X) (M := (fun _ _ => 0, fun _ _ => 0, fun _ _ => 0)) hi
    obtain ⟨e2, h2⟩ := g_some (Z := lZ X) (M := (fun _ _ => 0, fun _ _ => 0, fun _ _ => 0)) hj
    have := h.1 (0 + i) (0 + j) _ _ (by rw [l_in1 hi]; exact h1) (by rw [l_in1 hj]; exact h2) e
    omega
  · obtain ⟨e1, h1⟩ := g_some (Z := lZ X) (M := (fun _ _ => 0, fun _ _ => 0, fun _ _ => 0)) hk
    exact h.2 (0 + k) _ (by rw [l_in1 hk]; exact h1)
theorem l_D2 {X : gXL} {A : Nat → Prop} (hD : ∀ M1 M2 ov, va_D A (l_ws X M1 M2 ov)) : g_D Y2 (lad2 X) A := by
  have h := hD (fun _ _ => 0, fun _ _ => 0, fun _ _ => 0) (fun _ _ => 0, fun _ _ => 0, fun _ _ => 0) 0
  refine ⟨fun i j hi hj e => ?_, fun k hk => ?_⟩
  · obtain ⟨e1, h1⟩ := g_some (Z := lZ2 X) (M := (fun _ _ => 0, fun _ _ => 0, fun _ _ => 0)) hi
    obtain ⟨e2, h2⟩ := g_some (Z := lZ2 X) (M := (fun _ _ => 0, fun _ _ => 0, fun _ _ => 0)) hj
    have := h.1 (Y1.length + i) (Y1.length + j) _ _ (by rw [l_in2 hi]; exact h1) (by rw [l_in2 hj]; exact h2) e
    omega
  · obtain ⟨e1, h1⟩ := g_some (Z := lZ2 X) (M := (fun _ _ => 0, fun _ _ => 0, fun _ _ => 0)) hk
    exact h.2 (Y1.length + k) _ (by rw [l_in2 hk]; exact h1)
/-- the first system's cells anew, the rest kept -/
theorem l_J1 {X : gXL} {M1 M1' M2 : gM} {ov : Int64} {H H1 : Heap} (hD : ∀ M1 M2 ov, va_D (lA X) (l_ws X M1 M2 ov)) (hP : va_P (lZ X).1 vwCl (l_ws X M1 M2 ov) H) (hP1 : va_P (lZ X).1 vwCl (g_ws Y1 (lZ X) M1') H1) (hk : ∀ q : Nat, q < H.size → ¬ g_A Y1 (lad X) H.size q → H1[q]? = H[q]?) : va_P (lZ X).1 vwCl (l_ws X M1' M2 ov) H1 := by
  refine va_P.app hP1 (fun k q hq => ?_)
  have hi : (l_ws X M1 M2 ov)[Y1.length + k]? = some q := by
    rw [l_ws, List.getElem?_append_right (by rw [g_len]; omega), g_len, Nat.add_sub_cancel_left]
    exact hq
  obtain ⟨h1, h2⟩ := l_not (hD M1 M2 ov) hP 0 Y1 (lad X) (fun k hk => by rw [l_in1 hk]; exact g_some hk) hi (by omega)
  exact (hP _ q hi).kept (hk q.1 h1 h2)
theorem l_J2 {X : gXL} {M1 M2 M2' : gM} {ov : Int64} {H H1 : Heap} (hD : ∀ M1 M2 ov, va_D (lA X) (l_ws X M1 M2 ov)) (hP : va_P (lZ X).1 vwCl (l_ws X M1 M2 ov) H) (hP1 : va_P (lZ X).1 vwCl (g_ws Y2 (lZ2 X) M2') H1) (hk : ∀ q : Nat, q < H.size → ¬ g_A Y2 (lad2 X) H.size q → H1[q]? = H[q]?) : va_P (lZ X).1 vwCl (l_ws X M1 M2' ov) H1 := by
  refine va_P.app (fun k q hq => ?_) (va_P.app hP1 (fun k q hq => ?_))
  · have hi : (l_ws X M1 M2 ov)[0 + k]? = some q := by rw [l_in1 (g_inv hq).1]; exact hq
    obtain ⟨h1, h2⟩ := l_not (hD M1 M2 ov) hP Y1.length Y2 (lad2 X) (fun k hk => by rw [l_in2 hk]; exact g_some (Z := lZ2 X) hk) hi (Or.inl (by have := (g_inv hq).1; omega))
    exact (hP _ q hi).kept (hk q.1 h1 h2)
  · have hi : (l_ws X M1 M2 ov)[Y1.length + (Y2.length + k)]? = some q := by
      rw [l_ws, List.getElem?_append_right (by rw [g_len]; omega), g_len, Nat.add_sub_cancel_left, List.getElem?_append_right (by rw [g_len]; omega), g_len, Nat.add_sub_cancel_left]
      exact hq
    obtain ⟨h1, h2⟩ := l_not (hD M1 M2 ov) hP Y1.length Y2 (lad2 X) (fun k hk => by rw [l_in2 hk]; exact g_some (Z := lZ2 X) hk) hi (Or.inr (by omega))
    exact (hP _ q hi).kept (hk q.1 h1 h2)
theorem l_hts {args : Array Value} {s : State} (h : ∀ w ∈ lw_tbl, w.before args s = true) : ∀ w ∈ gws, w.before args s = true := fun w hw => h w (List.mem_filter.mp hw).1
section LC
variable {β' : Type} {J' : gJ} {X : gXL} {en' : β' → Option Value} {k pc idx n : Nat} {lv : List (Nat × Value)} {st0 As rest : List Value} {M1 M2 : gM} {ov : Int64} {y : MethodName} {vs : gZ → List Value} {fo : Option (β' × gM)} {kf : β' → gM → Option Bool}
theorem L_c1 {b ci : Nat} {cs : List Nat} {T : u_T} {N : Nat} (hm : g_met Y1 y J' en' vs M1 fo) (hvs : vs (lZ X) = .ref (lad X b) :: As) (hob : Y1[b]? = some (0, ci, cs)) (hcl : vwCl[ci]? = some (y.cls, T, N)) (hw : g_wV RL idx y J' n) (hd : decode code pc = .ok (.invokevirtual idx, 3)) (hn : As.length = n) (hst : st0 = As.reverse ++ .ref (lad X b) :: rest) (hc : (rest.map fun v => v.category).sum ≤ 8) (hr : (J'.2.2.2.2.frames + 1 ≤ 2048 ∧ 8 + (J'.2.1 + 11) + J'.2.2.2.2.locals ≤ 84000) ∧ J'.2.2.2.2.cells = 0 ∧ J'.2.2.2.2.slots = 0)
    (kk : ∀ (r : β') (M : gM), GL X k (pc + 3) lv ((en' r).toList ++ rest) M M2 ov (kf r M)) : GL X k pc lv st0 M1 M2 ov (g_b fo kf) := by
  intro hX hk ho H ls locs hl hP hS
  cases fo with
  | none => cases ho
  | some q =>
    obtain ⟨r1, M'⟩ := q
    have hmm := hm (ll X) (lZ X) H.size r1 M' rfl
    obtain ⟨hx, hb, hrt, hml, hown, hts0, hsc, hbl, hlk, hK, hD, hen, hex, hL⟩ := id hX
    have hts := l_hts hts0
    have hD1 := l_D1 hD
    have hsub := g_Asub hD1 (fun q h => h) hS
    refine l_go (va_runV ⟨hx, hb, hml, hown, hts⟩ hmm ⟨g_cb hts hw.1 hr.1 hr.2, hts _ hw.2.1, hts _ hw.2.2⟩ ⟨g_blind, va_recv hK (l_P1 hP) hcl (g_at hob), fun U hU hW => ⟨by rw [hvs], by rw [hU], by rw [hU]; exact l_P1 hP, va_K.moved hW.alike hK, ⟨hD1.1, fun _ _ => trivial⟩, hen.go hW hS hsub hU⟩⟩ rfl hn hl.1 hst (lv_room hc) hd ⟨by have := rm_c; show 200 + k + 0 ≤ room_1.cells; omega, by have := rm_s; show 800000 + 8 * k + 0 ≤ room_1.slots; omega⟩) hS (fun q _ h => hsub q h) hsub (fun H1 locs1 hP1 hk1 hS1 => ?_)
    exact kk r1 M' hX hk ho H1 ls locs1 hl (l_J1 hD hP hP1 hk1) hS1
theorem L_c2 {b ci : Nat} {cs : List Nat} {T : u_T} {N : Nat} (hm : g_met Y2 y J' en' vs M2 fo) (hvs : vs (lZ2 X) = .ref (lad2 X b) :: As) (hob : Y2[b]? = some (0, ci, cs)) (hcl : vwCl[ci]? = some (y.cls, T, N)) (hw : g_wV RL idx y J' n) (hd : decode code pc = .ok (.invokevirtual idx, 3)) (hn : As.length = n) (hst : st0 = As.reverse ++ .ref (lad2 X b) :: rest) (hc : (rest.map fun v => v.category).sum ≤ 8) (hr : (J'.2.2.2.2.frames + 1 ≤ 2048 ∧ 8 + (J'.2.1 + 11) + J'.2.2.2.2.locals ≤ 84000) ∧ J'.2.2.2.2.cells = 0 ∧ J'.2.2.2.2.slots = 0)
    (kk : ∀ (r : β') (M : gM), GL X k (pc + 3) lv ((en' r).toList ++ rest) M1 M ov (kf r M)) : GL X k pc lv st0 M1 M2 ov (g_b fo kf) := by
  intro hX hk ho H ls locs hl hP hS
  cases fo with
  | none => cases ho
  | some q =>
    obtain ⟨r1, M'⟩ := q
    have hmm := hm (ll X) (lZ2 X) H.size r1 M' rfl
    obtain ⟨hx, hb, hrt, hml, hown, hts0, hsc, hbl, hlk, hK, hD, hen, hex, hL⟩ := id hX
    have hts := l_hts hts0
    have hD2 := l_D2 hD
    have hsub := g_Asub hD2 (fun q h => h) hS
    refine l_go (Z := lZ2 X) (va_runV ⟨hx, hb, hml, hown, hts⟩ hmm ⟨g_cb hts hw.1 hr.1 hr.2, hts _ hw.2.1, hts _ hw.2.2⟩ ⟨g_blind, va_recv hK (l_P2 hP) hcl (g_at (Z := lZ2 X) hob), fun U hU hW => ⟨by rw [hvs], by rw [hU], by rw [hU]; exact l_P2 hP, va_K.moved hW.alike hK, ⟨hD2.1, fun _ _ => trivial⟩, hen.go hW hS hsub hU⟩⟩ rfl hn hl.1 hst (lv_room hc) hd ⟨by have := rm_c; show 200 + k + 0 ≤ room_1.cells; omega, by have := rm_s; show 800000 + 8 * k + 0 ≤ room_1.slots; omega⟩) hS (fun q _ h => hsub q h) hsub (fun H1 locs1 hP1 hk1 hS1 => ?_)
    exact kk r1 M' hX hk ho H1 ls locs1 hl (l_J2 hD hP hP1 hk1) hS1
end LC
theorem L_iconst {X : gXL} {k pc : Nat} {lv : List (Nat × Value)} {st : List Value} {M1 M2 : gM} {ov : Int64} {o : Option Bool} {n : Int} {v : Int32} (hd : decode code pc = .ok (.iconst n, 1)) (hv : Int32.ofInt n = v) (kk : GL X k (pc + 1) lv (.int v :: st) M1 M2 ov o) : GL X k pc lv st M1 M2 ov o := by
  intro hX hk ho H ls locs hl hP hS
  exact lv_iconst hX.1 hX.2.1 hd hv (kk hX hk ho H ls locs hl hP hS)
theorem L_bipush {X : gXL} {k pc : Nat} {lv : List (Nat × Value)} {st : List Value} {M1 M2 : gM} {ov : Int64} {o : Option Bool} {n : Int} {v : Int32} (hd : decode code pc = .ok (.bipush n, 2)) (hv : (Int8.ofInt n).toInt32 = v) (kk : GL X k (pc + 2) lv (.int v :: st) M1 M2 ov o) : GL X k pc lv st M1 M2 ov o := by
  intro hX hk ho H ls locs hl hP hS
  exact lv_bipush hX.1 hX.2.1 hd hv (kk hX hk ho H ls locs hl hP hS)
theorem L_iload_n {X : gXL} {k pc : Nat} {lv : List (Nat × Value)} {st : List Value} {M1 M2 : gM} {ov : Int64} {o : Option Bool} {n : Fin 4} {i : Nat} {x : Int32} (q : Nat) (hd : decode code pc = .ok (.iload_n n, 1)) (hi : (n : Nat) = i) (h : lv[q]? = some (i, .int x)) (kk : GL X k (pc + 1) lv (.int x :: st) M1 M2 ov o) : GL X k pc lv st M1 M2 ov o := by
  intro hX hk ho H ls locs hl hP hS
  exact lv_iload_n hX.1 hX.2.1 hd hi (lv_at hl q h) (kk hX hk ho H ls locs hl hP hS)
theorem L_iload {X : gXL} {k pc : Nat} {lv : List (Nat × Value)} {st : List Value} {M1 M2 : gM} {ov : Int64} {o : Option Bool} {i : Nat} {x : Int32} (q : Nat) (hd : decode code pc = .ok (.iload i, 2)) (h : lv[q]? = some (i, .int x)) (kk : GL X k (pc + 2) lv (.int x :: st) M1 M2 ov o) : GL X k pc lv st M1 M2 ov o := by
  intro hX hk ho H ls locs hl hP hS
  exact lv_iload hX.1 hX.2.1 hd (lv_at hl q h) (kk hX hk ho H ls locs hl hP hS)
theorem L_aload_n {X : gXL} {k pc : Nat} {lv : List (Nat × Value)} {st : List Value} {M1 M2 : gM} {ov : Int64} {o : Option Bool} {n : Fin 4} {i : Nat} {x : Nat} (q : Nat) (hd : decode code pc = .ok (.aload_n n, 1)) (hi : (n : Nat) = i) (h : lv[q]? = some (i, .ref x)) (kk : GL X k (pc + 1) lv (.ref x :: st) M1 M2 ov o) : GL X k pc lv st M1 M2 ov o := by
  intro hX hk ho H ls locs hl hP hS
  exact lv_aload_n hX.1 hX.2.1 hd hi (lv_at hl q h) (kk hX hk ho H ls locs hl hP hS)
theorem L_aload {X : gXL} {k pc : Nat} {lv : List (Nat × Value)} {st : List Value} {M1 M2 : gM} {ov : Int64} {o : Option Bool} {i : Nat} {x : Nat} (q : Nat) (hd : decode code pc = .ok (.aload i, 2)) (h : lv[q]? = some (i, .ref x)) (kk : GL X k (pc + 2) lv (.ref x :: st) M1 M2 ov o) : GL X k pc lv st M1 M2 ov o := by
  intro hX hk ho H ls locs hl hP hS
  exact lv_aload hX.1 hX.2.1 hd (lv_at hl q h) (kk hX hk ho H ls locs hl hP hS)
theorem L_istore {X : gXL} {k pc : Nat} {lv : List (Nat × Value)} {st : List Value} {M1 M2 : gM} {ov : Int64} {o : Option Bool} {i : Nat} {x : Int32} {lv' : List (Nat × Value)} (hd : decode code pc = .ok (.istore i, 2)) (hn : i < 7) (hl2 : (i, Value.int x) :: lv.filter (fun q => !(q.1 == i) && !(q.1 + 1 == i && q.2.category == 2)) = lv') (kk : GL X k (pc + 2) lv' st M1 M2 ov o) : GL X k pc lv (.int x :: st) M1 M2 ov o := by
  intro hX hk ho H ls locs hl hP hS
  exact lv_istore hX.1 hX.2.1 hd hl hn hl2 (fun ls2 hl => kk hX hk ho H ls2 locs hl hP hS)
theorem L_iinc {X : gXL} {k pc : Nat} {lv : List (Nat × Value)} {st : List Value} {M1 M2 : gM} {ov : Int64} {o : Option Bool} {i : Nat} {n : Int} {x v : Int32} {lv' : List (Nat × Value)} (q : Nat) (hd : decode code pc = .ok (.iinc i n, 3)) (h : lv[q]? = some (i, .int x)) (hv : x + Int32.ofInt n = v) (hn : i < 7) (hl2 : (i, Value.int v) :: lv.filter (fun q => !(q.1 == i) && !(q.1 + 1 == i && q.2.category == 2)) = lv') (kk : GL X k (pc + 3) lv' st M1 M2 ov o) : GL X k pc lv st M1 M2 ov o := by
  intro hX hk ho H ls locs hl hP hS
  exact lv_iinc hX.1 hX.2.1 hd hl h hv hn hl2 (fun ls2 hl => kk hX hk ho H ls2 locs hl hP hS)
theorem L_iadd {X : gXL} {k pc : Nat} {lv : List (Nat × Value)} {st : List Value} {M1 M2 : gM} {ov : Int64} {o : Option Bool} {x y : Int32} (hd : decode code pc = .ok (.iadd, 1))  (kk : GL X k (pc + 1) lv (.int (x + y) :: st) M1 M2 ov o) : GL X k pc lv (.int y :: .int x :: st) M1 M2 ov o := by
  intro hX hk ho H ls locs hl hP hS
  exact lv_iadd hX.1 hX.2.1 hd  (kk hX hk ho H ls locs hl hP hS)
theorem L_isub {X : gXL} {k pc : Nat} {lv : List (Nat × Value)} {st : List Value} {M1 M2 : gM} {ov : Int64} {o : Option Bool} {x y : Int32} (hd : decode code pc = .ok (.isub, 1))  (kk : GL X k (pc + 1) lv (.int (x - y) :: st) M1 M2 ov o) : GL X k pc lv (.int y :: .int x :: st) M1 M2 ov o := by
  intro hX hk ho H ls locs hl hP hS
  exact lv_isub hX.1 hX.2.1 hd  (kk hX hk ho H ls locs hl hP hS)
theorem L_iand {X : gXL} {k pc : Nat} {lv : List (Nat × Value)} {st : List Value} {M1 M2 : gM} {ov : Int64} {o : Option Bool} {x y : Int32} (hd : decode code pc = .ok (.iand, 1))  (kk : GL X k (pc + 1) lv (.int (x &&& y) :: st) M1 M2 ov o) : GL X k pc lv (.int y :: .int x :: st) M1 M2 ov o := by
  intro hX hk ho H ls locs hl hP hS
  exact lv_iand hX.1 hX.2.1 hd  (kk hX hk ho H ls locs hl hP hS)
theorem L_i2l {X : gXL} {k pc : Nat} {lv : List (Nat × Value)} {st : List Value} {M1 M2 : gM} {ov : Int64} {o : Option Bool} {x : Int32} (hd : decode code pc = .ok (.i2l, 1))  (kk : GL X k (pc + 1) lv (.long x.toInt64 :: st) M1 M2 ov o) : GL X k pc lv (.int x :: st) M1 M2 ov o := by
  intro hX hk ho H ls locs hl hP hS
  exact lv_i2l hX.1 hX.2.1 hd rfl (kk hX hk ho H ls locs hl hP hS)
theorem L_lcmp {X : gXL} {k pc : Nat} {lv : List (Nat × Value)} {st : List Value} {M1 M2 : gM} {ov : Int64} {o : Option Bool} {x y : Int64} (hd : decode code pc = .ok (.lcmp, 1))  (kk : GL X k (pc + 1) lv (.int (lg_cmp x y) :: st) M1 M2 ov o) : GL X k pc lv (.long y :: .long x :: st) M1 M2 ov o := by
  intro hX hk ho H ls locs hl hP hS
  exact W.lcmp hX.1 hX.2.1 hd  (kk hX hk ho H ls locs hl hP hS)
theorem L_if_eq {X : gXL} {k pc : Nat} {lv : List (Nat × Value)} {st : List Value} {M1 M2 : gM} {ov : Int64} {oA oB : Option Bool} {x : Int32} {off : Int} {tgt : Nat} (hd : decode code pc = .ok (.ifCond .eq off, 3)) (ht : (pc : Int) + off = (tgt : Int)) (ka : GL X k tgt lv st M1 M2 ov oA) (kb : GL X k (pc + 3) lv st M1 M2 ov oB) : GL X k pc lv (.int x :: st) M1 M2 ov (if x = 0 then oA else oB) := by
  intro hX hk ho H ls locs hl hP hS
  refine lv_if_eq hX.1 hX.2.1 hd ht (fun hc => ?_) (fun hc => ?_)
  · rw [if_pos hc] at ho; exact ka hX hk ho H ls locs hl hP hS
  · rw [if_neg hc] at ho; exact kb hX hk ho H ls locs hl hP hS
theorem L_icmp_eq {X : gXL} {k pc : Nat} {lv : List (Nat × Value)} {st : List Value} {M1 M2 : gM} {ov : Int64} {oA oB : Option Bool} {x y : Int32} {off : Int} {tgt : Nat} (hd : decode code pc = .ok (.if_icmp .eq off, 3)) (ht : (pc : Int) + off = (tgt : Int)) (ka : GL X k tgt lv st M1 M2 ov oA) (kb : GL X k (pc + 3) lv st M1 M2 ov oB) : GL X k pc lv (.int y :: .int x :: st) M1 M2 ov (if x = y then oA else oB) := by
  intro hX hk ho H ls locs hl hP hS
  refine lv_icmp_eq hX.1 hX.2.1 hd ht (fun hc => ?_) (fun hc => ?_)
  · rw [if_pos hc] at ho; exact ka hX hk ho H ls locs hl hP hS
  · rw [if_neg hc] at ho; exact kb hX hk ho H ls locs hl hP hS
theorem L_icmp_gt {X : gXL} {k pc : Nat} {lv : List (Nat × Value)} {st : List Value} {M1 M2 : gM} {ov : Int64} {oA oB : Option Bool} {x y : Int32} {off : Int} {tgt : Nat} (hd : decode code pc = .ok (.if_icmp .gt off, 3)) (ht : (pc : Int) + off = (tgt : Int)) (ka : GL X k tgt lv st M1 M2 ov oA) (kb : GL X k (pc + 3) lv st M1 M2 ov oB) : GL X k pc lv (.int y :: .int x :: st) M1 M2 ov (if y < x then oA else oB) := by
  intro hX hk ho H ls locs hl hP hS
  refine lv_icmp_gt hX.1 hX.2.1 hd ht (fun hc => ?_) (fun hc => ?_)
  · rw [if_pos hc] at ho; exact ka hX hk ho H ls locs hl hP hS
  · rw [if_neg hc] at ho; exact kb hX hk ho H ls locs hl hP hS
theorem L_if_ne {X : gXL} {k pc : Nat} {lv : List (Nat × Value)} {st : List Value} {M1 M2 : gM} {ov : Int64} {oA oB : Option Bool} {x : Int32} {off : Int} {tgt : Nat} (hd : decode code pc = .ok (.ifCond .ne off, 3)) (ht : (pc : Int) + off = (tgt : Int)) (ka : GL X k tgt lv st M1 M2 ov oA) (kb : GL X k (pc + 3) lv st M1 M2 ov oB) : GL X k pc lv (.int x :: st) M1 M2 ov (if x = 0 then oB else oA) := by
  intro hX hk ho H ls locs hl hP hS
  refine lv_if_ne hX.1 hX.2.1 hd ht (fun hc => ?_) (fun hc => ?_)
  · rw [if_neg hc] at ho; exact ka hX hk ho H ls locs hl hP hS
  · rw [if_pos hc] at ho; exact kb hX hk ho H ls locs hl hP hS
theorem L_goto {X : gXL} {k pc : Nat} {lv : List (Nat × Value)} {st : List Value} {M1 M2 : gM} {ov : Int64} {o : Option Bool} {off : Int} {tgt : Nat} (hd : decode code pc = .ok (.goto off, 3)) (ht : (pc : Int) + off = (tgt : Int)) (kk : GL X k tgt lv st M1 M2 ov o) : GL X k pc lv st M1 M2 ov o := by
  intro hX hk ho H ls locs hl hP hS
  exact lv_goto hX.1 hX.2.1 hd ht (kk hX hk ho H ls locs hl hP hS)
theorem L_ite {X : gXL} {k pc : Nat} {lv : List (Nat × Value)} {st : List Value} {M1 M2 : gM} {ov : Int64} {oA oB : Option Bool} {c : Prop} [Decidable c] (ka : c → GL X k pc lv st M1 M2 ov oA) (kb : ¬ c → GL X k pc lv st M1 M2 ov oB) : GL X k pc lv st M1 M2 ov (if c then oA else oB) := by
  by_cases hc : c
  · rw [if_pos hc]; exact ka hc
  · rw [if_neg hc]; exact kb hc
theorem L_none {X : gXL} {k pc : Nat} {lv : List (Nat × Value)} {st : List Value} {M1 M2 : gM} {ov : Int64}  : GL X k pc lv st M1 M2 ov none := fun _ _ ho => by cases ho
theorem L_ret0 {X : gXL} {k pc : Nat} {lv : List (Nat × Value)} {st : List Value} {M1 M2 : gM} {ov : Int64}  : GL X k pc lv st M1 M2 ov (some false) := fun _ _ ho => by cases ho
theorem L_ret1 {X : gXL} {k pc : Nat} {lv : List (Nat × Value)} {M1 M2 : gM} {ov : Int64}  (hd : decode code pc = .ok (.ireturn, 1)) : GL X k pc lv [.int 1] M1 M2 ov (some true) := by
  intro hX hk ho H ls locs hl hP hS
  refine W.widen (k := room_1.cells) (n := room_1.slots) (by have := rm_c; omega) (by have := rm_s; omega) ?_
  refine va_forget (fun q hq => hS.2.2 q hq) ?_
  exact lw_ret hX.1 hX.2.1 hX.2.2.1 hX.2.2.2.2.2.2.2.2.1 hd
theorem L_sub {X : gXL} {k pc : Nat} {lv : List (Nat × Value)} {st : List Value} {M1 M2 : gM} {ov : Int64} {o : Option Bool} {lv' : List (Nat × Value)} (ks : List Nat) (h : lv_pick lv ks = lv') (kk : GL X k pc lv' st M1 M2 ov o) : GL X k pc lv st M1 M2 ov o := by
  intro hX hk ho H ls locs hl hP hS
  exact kk hX hk ho H ls locs (lv_sub hl ks h) hP hS
theorem L_tabIn {X : gXL} {k pc : Nat} {lv : List (Nat × Value)} {st : List Value} {M1 M2 : gM} {ov : Int64} {o : Option Bool} {dflt lo hi : Int} {offs : Array Int} {len : Nat} {x : Int32} {off : Int} {tgt : Nat} (hd : decode code pc = .ok (.tableswitch dflt lo hi offs, len)) (h1 : ¬ x.toInt < lo) (h2 : ¬ hi < x.toInt) (h3 : offs[(x.toInt - lo).toNat]? = some off) (ht : (pc : Int) + off = (tgt : Int)) (kk : GL X k tgt lv st M1 M2 ov o) : GL X k pc lv (.int x :: st) M1 M2 ov o := by
  intro hX hk ho H ls locs hl hP hS
  exact lv_tableIn hX.1 hX.2.1 hd h1 h2 h3 ht (kk hX hk ho H ls locs hl hP hS)
theorem L_tabOut {X : gXL} {k pc : Nat} {lv : List (Nat × Value)} {st : List Value} {M1 M2 : gM} {ov : Int64} {o : Option Bool} {dflt lo hi : Int} {offs : Array Int} {len : Nat} {x : Int32} {tgt : Nat} (hd : decode code pc = .ok (.tableswitch dflt lo hi offs, len)) (h : x.toInt < lo ∨ hi < x.toInt) (ht : (pc : Int) + dflt = (tgt : Int)) (kk : GL X k tgt lv st M1 M2 ov o) : GL X k pc lv (.int x :: st) M1 M2 ov o := by
  intro hX hk ho H ls locs hl hP hS
  exact lv_tableOut hX.1 hX.2.1 hd h ht (kk hX hk ho H ls locs hl hP hS)
theorem L_vi {X : gXL} {k pc : Nat} {lv : List (Nat × Value)} {st : List Value} {M1 M2 : gM} {ov : Int64} {kf : Int32 → Option Bool} {x : Int32} (h : ∀ y, GL X k pc lv (.int y :: st) M1 M2 ov (kf y)) : GL X k pc lv (.int x :: st) M1 M2 ov (g_v x kf) := h x
theorem L_sld {X : gXL} {k pc : Nat} {lv : List (Nat × Value)} {st : List Value} {M1 M2 : gM} {ov : Int64} {o : Option Bool} {i : Int32} (hd : decode code pc = .ok (.iaload, 1)) (kk : GL X k (pc + 1) lv (.int (lxs X (tn i)) :: st) M1 M2 ov o) : GL X k pc lv (.int i :: .ref (lb X) :: st) M1 M2 ov (g_ck i (lL X) o) := by
  intro hX hk ho H ls locs hl hP hS
  unfold g_ck at ho
  split at ho
  · cases ho
  · next hne => exact va_sld hX.1 hX.2.1 hX.2.2.2.2.2.2.1 hX.2.2.2.2.2.2.2.1 (Nat.not_le.mpr hX.2.2.2.2.2.2.2.1) hS hne hd (kk hX hk ho H ls locs hl hP hS)
theorem L_slen {X : gXL} {k pc : Nat} {lv : List (Nat × Value)} {st : List Value} {M1 M2 : gM} {ov : Int64} {o : Option Bool} (hd : decode code pc = .ok (.arraylength, 1)) (kk : GL X k (pc + 1) lv (.int (nI (lL X)) :: st) M1 M2 ov o) : GL X k pc lv (.ref (lb X) :: st) M1 M2 ov o := by
  intro hX hk ho H ls locs hl hP hS
  exact va_slen hX.1 hX.2.1 hX.2.2.2.2.2.2.1 hX.2.2.2.2.2.2.2.1 (Nat.not_le.mpr hX.2.2.2.2.2.2.2.1) hS hd (kk hX hk ho H ls locs hl hP hS)
theorem L_old {X : gXL} {k pc : Nat} {lv : List (Nat × Value)} {st : List Value} {M1 M2 : gM} {ov : Int64} {o : Option Bool} (hd : decode code pc = .ok (.laload, 1)) (kk : GL X k (pc + 1) lv (.long ov :: st) M1 M2 ov o) : GL X k pc lv (.int 0 :: .ref (lo X) :: st) M1 M2 ov o := by
  intro hX hk ho H ls locs hl hP hS
  have hi : (l_ws X M1 M2 ov)[Y1.length + (Y2.length + 0)]? = some (lo X, .inl ((lZ X).2.2.2.1, 1, .inr (.inl (fun _ => ov)))) := by
    rw [l_ws, List.getElem?_append_right (by rw [g_len]; omega), g_len, Nat.add_sub_cancel_left, List.getElem?_append_right (by rw [g_len]; omega), g_len, Nat.add_sub_cancel_left]
    rfl
  exact va_lald hX.1 hX.2.1 hX.2.2.2.2.2.2.2.2.2.1 hP _ 1 hi rfl (show vp_in 0 1 by unfold vp_in; decide) hd (kk hX hk ho H ls locs hl hP hS)
theorem L_c1i {X : gXL} {J' : gJ} {k pc idx n : Nat} {lv : List (Nat × Value)} {st0 As rest : List Value} {M1 M2 : gM} {ov : Int64} {y : MethodName} {vs : gZ → List Value} {fo : Option (Int32 × gM)} {kf : Int32 → gM → Option Bool} {b ci : Nat} {cs : List Nat} {T : u_T} {N : Nat} (hm : g_met Y1 y J' g_ei vs M1 fo) (hvs : vs (lZ X) = .ref (lad X b) :: As) (hob : Y1[b]? = some (0, ci, cs)) (hcl : vwCl[ci]? = some (y.cls, T, N)) (hw : g_wV RL idx y J' n) (hd : decode code pc = .ok (.invokevirtual idx, 3)) (hn : As.length = n) (hst : st0 = As.reverse ++ .ref (lad X b) :: rest) (hc : (rest.map fun v => v.category).sum ≤ 8) (hr : (J'.2.2.2.2.frames + 1 ≤ 2048 ∧ 8 + (J'.2.1 + 11) + J'.2.2.2.2.locals ≤ 84000) ∧ J'.2.2.2.2.cells = 0 ∧ J'.2.2.2.2.slots = 0) (kk : ∀ (r : Int32) (M : gM), GL X k (pc + 3) lv (.int r :: rest) M M2 ov (kf r M)) : GL X k pc lv st0 M1 M2 ov (g_b fo kf) := L_c1 hm hvs hob hcl hw hd hn hst hc hr kk
theorem L_c1l {X : gXL} {J' : gJ} {k pc idx n : Nat} {lv : List (Nat × Value)} {st0 As rest : List Value} {M1 M2 : gM} {ov : Int64} {y : MethodName} {vs : gZ → List Value} {fo : Option (Int64 × gM)} {kf : Int64 → gM → Option Bool} {b ci : Nat} {cs : List Nat} {T : u_T} {N : Nat} (hm : g_met Y1 y J' g_el vs M1 fo) (hvs : vs (lZ X) = .ref (lad X b) :: As) (hob : Y1[b]? = some (0, ci, cs)) (hcl : vwCl[ci]? = some (y.cls, T, N)) (hw : g_wV RL idx y J' n) (hd : decode code pc = .ok (.invokevirtual idx, 3)) (hn : As.length = n) (hst : st0 = As.reverse ++ .ref (lad X b) :: rest) (hc : (rest.map fun v => v.category).sum ≤ 8) (hr : (J'.2.2.2.2.frames + 1 ≤ 2048 ∧ 8 + (J'.2.1 + 11) + J'.2.2.2.2.locals ≤ 84000) ∧ J'.2.2.2.2.cells = 0 ∧ J'.2.2.2.2.slots = 0) (kk : ∀ (r : Int64) (M : gM), GL X k (pc + 3) lv (.long r :: rest) M M2 ov (kf r M)) : GL X k pc lv st0 M1 M2 ov (g_b fo kf) := L_c1 hm hvs hob hcl hw hd hn hst hc hr kk
theorem L_c1b {X : gXL} {J' : gJ} {k pc idx n : Nat} {lv : List (Nat × Value)} {st0 As rest : List Value} {M1 M2 : gM} {ov : Int64} {y : MethodName} {vs : gZ → List Value} {fo : Option (Bool × gM)} {kf : Bool → gM → Option Bool} {b ci : Nat} {cs : List Nat} {T : u_T} {N : Nat} (hm : g_met Y1 y J' g_eb vs M1 fo) (hvs : vs (lZ X) = .ref (lad X b) :: As) (hob : Y1[b]? = some (0, ci, cs)) (hcl : vwCl[ci]? = some (y.cls, T, N)) (hw : g_wV RL idx y J' n) (hd : decode code pc = .ok (.invokevirtual idx, 3)) (hn : As.length = n) (hst : st0 = As.reverse ++ .ref (lad X b) :: rest) (hc : (rest.map fun v => v.category).sum ≤ 8) (hr : (J'.2.2.2.2.frames + 1 ≤ 2048 ∧ 8 + (J'.2.1 + 11) + J'.2.2.2.2.locals ≤ 84000) ∧ J'.2.2.2.2.cells = 0 ∧ J'.2.2.2.2.slots = 0) (kk : ∀ (r : Bool) (M : gM), GL X k (pc + 3) lv (.int (b2i r) :: rest) M M2 ov (kf r M)) : GL X k pc lv st0 M1 M2 ov (g_b fo kf) := L_c1 hm hvs hob hcl hw hd hn hst hc hr kk
theorem L_c1v {X : gXL} {J' : gJ} {k pc idx n : Nat} {lv : List (Nat × Value)} {st0 As rest : List Value} {M1 M2 : gM} {ov : Int64} {y : MethodName} {vs : gZ → List Value} {fo : Option (Unit × gM)} {kf : Unit → gM → Option Bool} {b ci : Nat} {cs : List Nat} {T : u_T} {N : Nat} (hm : g_met Y1 y J' g_ev vs M1 fo) (hvs : vs (lZ X) = .ref (lad X b) :: As) (hob : Y1[b]? = some (0, ci, cs)) (hcl : vwCl[ci]? = some (y.cls, T, N)) (hw : g_wV RL idx y J' n) (hd : decode code pc = .ok (.invokevirtual idx, 3)) (hn : As.length = n) (hst : st0 = As.reverse ++ .ref (lad X b) :: rest) (hc : (rest.map fun v => v.category).sum ≤ 8) (hr : (J'.2.2.2.2.frames + 1 ≤ 2048 ∧ 8 + (J'.2.1 + 11) + J'.2.2.2.2.locals ≤ 84000) ∧ J'.2.2.2.2.cells = 0 ∧ J'.2.2.2.2.slots = 0) (kk : ∀ (r : Unit) (M : gM), GL X k (pc + 3) lv rest M M2 ov (kf r M)) : GL X k pc lv st0 M1 M2 ov (g_b fo kf) := L_c1 hm hvs hob hcl hw hd hn hst hc hr kk
theorem L_c2i {X : gXL} {J' : gJ} {k pc idx n : Nat} {lv : List (Nat × Value)} {st0 As rest : List Value} {M1 M2 : gM} {ov : Int64} {y : MethodName} {vs : gZ → List Value} {fo : Option (Int32 × gM)} {kf : Int32 → gM → Option Bool} {b ci : Nat} {cs : List Nat} {T : u_T} {N : Nat} (hm : g_met Y2 y J' g_ei vs M2 fo) (hvs : vs (lZ2 X) = .ref (lad2 X b) :: As) (hob : Y2[b]? = some (0, ci, cs)) (hcl : vwCl[ci]? = some (y.cls, T, N)) (hw : g_wV RL idx y J' n) (hd : decode code pc = .ok (.invokevirtual idx, 3)) (hn : As.length = n) (hst : st0 = As.reverse ++ .ref (lad2 X b) :: rest) (hc : (rest.map fun v => v.category).sum ≤ 8) (hr : (J'.2.2.2.2.frames + 1 ≤ 2048 ∧ 8 + (J'.2.1 + 11) + J'.2.2.2.2.locals ≤ 84000) ∧ J'.2.2.2.2.cells = 0 ∧ J'.2.2.2.2.slots = 0) (kk : ∀ (r : Int32) (M : gM), GL X k (pc + 3) lv (.int r :: rest) M1 M ov (kf r M)) : GL X k pc lv st0 M1 M2 ov (g_b fo kf) := L_c2 hm hvs hob hcl hw hd hn hst hc hr kk
theorem L_c2l {X : gXL} {J' : gJ} {k pc idx n : Nat} {lv : List (Nat × Value)} {st0 As rest : List Value} {M1 M2 : gM} {ov : Int64} {y : MethodName} {vs : gZ → List Value} {fo : Option (Int64 × gM)} {kf : Int64 → gM → Option Bool} {b ci : Nat} {cs : List Nat} {T : u_T} {N : Nat} (hm : g_met Y2 y J' g_el vs M2 fo) (hvs : vs (lZ2 X) = .ref (lad2 X b) :: As) (hob : Y2[b]? = some (0, ci, cs)) (hcl : vwCl[ci]? = some (y.cls, T, N)) (hw : g_wV RL idx y J' n) (hd : decode code pc = .ok (.invokevirtual idx, 3)) (hn : As.length = n) (hst : st0 = As.reverse ++ .ref (lad2 X b) :: rest) (hc : (rest.map fun v => v.category).sum ≤ 8) (hr : (J'.2.2.2.2.frames + 1 ≤ 2048 ∧ 8 + (J'.2.1 + 11) + J'.2.2.2.2.locals ≤ 84000) ∧ J'.2.2.2.2.cells = 0 ∧ J'.2.2.2.2.slots = 0) (kk : ∀ (r : Int64) (M : gM), GL X k (pc + 3) lv (.long r :: rest) M1 M ov (kf r M)) : GL X k pc lv st0 M1 M2 ov (g_b fo kf) := L_c2 hm hvs hob hcl hw hd hn hst hc hr kk
theorem L_c2b {X : gXL} {J' : gJ} {k pc idx n : Nat} {lv : List (Nat × Value)} {st0 As rest : List Value} {M1 M2 : gM} {ov : Int64} {y : MethodName} {vs : gZ → List Value} {fo : Option (Bool × gM)} {kf : Bool → gM → Option Bool} {b ci : Nat} {cs : List Nat} {T : u_T} {N : Nat} (hm : g_met Y2 y J' g_eb vs M2 fo) (hvs : vs (lZ2 X) = .ref (lad2 X b) :: As) (hob : Y2[b]? = some (0, ci, cs)) (hcl : vwCl[ci]? = some (y.cls, T, N)) (hw : g_wV RL idx y J' n) (hd : decode code pc = .ok (.invokevirtual idx, 3)) (hn : As.length = n) (hst : st0 = As.reverse ++ .ref (lad2 X b) :: rest) (hc : (rest.map fun v => v.category).sum ≤ 8) (hr : (J'.2.2.2.2.frames + 1 ≤ 2048 ∧ 8 + (J'.2.1 + 11) + J'.2.2.2.2.locals ≤ 84000) ∧ J'.2.2.2.2.cells = 0 ∧ J'.2.2.2.2.slots = 0) (kk : ∀ (r : Bool) (M : gM), GL X k (pc + 3) lv (.int (b2i r) :: rest) M1 M ov (kf r M)) : GL X k pc lv st0 M1 M2 ov (g_b fo kf) := L_c2 hm hvs hob hcl hw hd hn hst hc hr kk
theorem L_c2v {X : gXL} {J' : gJ} {k pc idx n : Nat} {lv : List (Nat × Value)} {st0 As rest : List Value} {M1 M2 : gM} {ov : Int64} {y : MethodName} {vs : gZ → List Value} {fo : Option (Unit × gM)} {kf : Unit → gM → Option Bool} {b ci : Nat} {cs : List Nat} {T : u_T} {N : Nat} (hm : g_met Y2 y J' g_ev vs M2 fo) (hvs : vs (lZ2 X) = .ref (lad2 X b) :: As) (hob : Y2[b]? = some (0, ci, cs)) (hcl : vwCl[ci]? = some (y.cls, T, N)) (hw : g_wV RL idx y J' n) (hd : decode code pc = .ok (.invokevirtual idx, 3)) (hn : As.length = n) (hst : st0 = As.reverse ++ .ref (lad2 X b) :: rest) (hc : (rest.map fun v => v.category).sum ≤ 8) (hr : (J'.2.2.2.2.frames + 1 ≤ 2048 ∧ 8 + (J'.2.1 + 11) + J'.2.2.2.2.locals ≤ 84000) ∧ J'.2.2.2.2.cells = 0 ∧ J'.2.2.2.2.slots = 0) (kk : ∀ (r : Unit) (M : gM), GL X k (pc + 3) lv rest M1 M ov (kf r M)) : GL X k pc lv st0 M1 M2 ov (g_b fo kf) := L_c2 hm hvs hob hcl hw hd hn hst hc hr kk
theorem L_up {X : gXL} {k pc : Nat} {lv : List (Nat × Value)} {st : List Value} {M1 M2 : gM} {ov : Int64} {o : Option Bool} (hk : k ≤ 512) (kk : GL X (k + 1) pc lv st M1 M2 ov o) : GL X k pc lv st M1 M2 ov o := by
  intro hX _ ho H ls locs hl hP hS
  refine W.widen (k := 200 + (k + 1)) (n := 800000 + 8 * (k + 1)) (by omega) (by omega) ?_
  exact kk hX (by omega) ho H ls locs hl hP hS
theorem l_gob {p : Program} {l : Launch} {e : Env} {R : Room} {s : State} {m : MethodId} {args : Array Value} {below : List Frame} {meth : Method} {c : Code} {H : Heap} {locs : List Loc} {cells slots : Nat} {Q : State → Prop} {pc : Nat} {ls : Array Slot} {rest st0 : List Value} {a : Array Value} {A0 A1 : Nat → Prop} {H0 : Heap} {free : Addr → Prop} {Z : gZ} {r : Nat × Int32} {M' : gM} {ao : Nat} {ov : Int64}
    (hr : va_Run p l e R s m args below meth c H locs cells slots 1 6 (F0 m pc ls st0) rest (lb_Qc Z A1 r M' ao ov a) free) (hS : va_S A0 H0 H locs) (hA : ∀ q, q < H.size → A1 q → A0 q) (hf : ∀ q, free q → A0 q)
    (kk : ∀ (H1 : Heap) (locs1 : List Loc), va_P Z.1 vwCl (lb_ws Z M' ao ov) H1 → (∀ q : Nat, q < H.size → ¬ A1 q → H1[q]? = H[q]?) → va_S A0 H0 H1 locs1 → W p l e R s m args below meth c H1 locs1 (cells + 1) (slots + 6) Q (F0 m (pc + 3) ls (.int (nI r.1) :: rest))) : W p l e R s m args below meth c H locs cells slots Q (F0 m pc ls st0) := by
  intro T hT X
  obtain ⟨v, st₀, t, T', L, h0, X', hL, e1, e2, ⟨⟨hv, hp⟩, hF⟩, st⟩ := hr T hT X
  cases hv
  obtain ⟨k1, k2, k3⟩ := vx_keep h0 e1 hS hA hf hL hF
  obtain ⟨t2, a1, b1⟩ := kk T'.heap (locs ++ L) (by rw [e1]; exact hp) k2 k3 T' rfl X'
  exact ⟨t2, st t2 a1, b1⟩
theorem l_io {X : gXL} {M1 M2 : gM} {ov : Int64} : (l_ws X M1 M2 ov)[Y1.length + Y2.length]? = some (lbo (lZ X) (lo X) ov) := by
  rw [l_ws, List.getElem?_append_right (by rw [g_len]; omega), g_len, Nat.add_sub_cancel_left, List.getElem?_append_right (by rw [g_len]; omega), g_len, Nat.sub_self]
  rfl
theorem l_lbD {X : gXL} {A : Nat → Prop} (hD : ∀ M1 M2 ov, va_D A (l_ws X M1 M2 ov)) : lb_D (lZ X) (lo X) A := by
  have h := hD (fun _ _ => 0, fun _ _ => 0, fun _ _ => 0) (fun _ _ => 0, fun _ _ => 0, fun _ _ => 0) 0
  refine ⟨l_D1 hD, h.2 _ _ l_io, fun k hk e => ?_⟩
  obtain ⟨e1, h1⟩ := g_some (Z := lZ X) (M := (fun _ _ => 0, fun _ _ => 0, fun _ _ => 0)) hk
  have := h.1 (0 + k) (Y1.length + Y2.length) _ _ (by rw [l_in1 hk]; exact h1) l_io e
  omega
theorem l_lbP {X : gXL} {M1 M2 : gM} {ov : Int64} {H : Heap} (hP : va_P (lZ X).1 vwCl (l_ws X M1 M2 ov) H) : va_P (lZ X).1 vwCl (lb_ws (lZ X) M1 (lo X) ov) H := by
  refine va_P.app (l_P1 hP) (fun k q hq => ?_)
  have h1 := (List.getElem?_eq_some_iff.mp hq).1
  simp at h1
  subst h1
  cases hq
  exact hP _ _ l_io
theorem l_lbJ {X : gXL} {M1 M1' M2 : gM} {ov ov' : Int64} {H H1 : Heap} (hD : ∀ M1 M2 ov, va_D (lA X) (l_ws X M1 M2 ov)) (hP : va_P (lZ X).1 vwCl (l_ws X M1 M2 ov) H) (hP1 : va_P (lZ X).1 vwCl (lb_ws (lZ X) M1' (lo X) ov') H1) (hk : ∀ q : Nat, q < H.size → ¬ lb_A (lZ X) (lo X) H.size q → H1[q]? = H[q]?) : va_P (lZ X).1 vwCl (l_ws X M1' M2 ov') H1 := by
  refine va_P.app (lb_P1 hP1) (va_P.app (fun k q hq => ?_) (fun k q hq => ?_))
  · have hlt := (g_inv hq).1
    have hi : (l_ws X M1 M2 ov)[Y1.length + k]? = some q := by rw [l_in2 hlt]; exact hq
    have hl := (hP _ q hi).lt
    refine (hP _ q hi).kept (hk q.1 hl (fun h => ?_))
    rcases h with ⟨i, hi2, e⟩ | h | h
    · obtain ⟨e1, h1⟩ := g_some (Z := lZ X) (M := M1) hi2
      have := (hD M1 M2 ov).1 (Y1.length + k) (0 + i) q _ hi (by rw [l_in1 hi2]; exact h1) e
      omega
    · have := (hD M1 M2 ov).1 (Y1.length + k) (Y1.length + Y2.length) q _ hi l_io h
      omega
    · omega
  · have h1 := (List.getElem?_eq_some_iff.mp hq).1
    have h1 : k < 1 := h1
    have h1 : k = 0 := by omega
    subst h1
    cases hq
    exact hP1 _ _ lb_o
theorem lbW_good : GoodIn gws (va_wsS RL 161 yL_beat (Cond.codeWith yL_beat cL_beat 5 (some .int) hhL :: gws)) := by
  have w1 : Cond.codeWith yL_beat cL_beat 5 (some .int) hhL ∈ gws := gw (mt_5 (List.mem_of_getElem? (i := 196) rfl)) rfl
  have w2 : Cond.methodLink RL 161 yL_beat ∈ gws := gw (mt_5 (List.mem_of_getElem? (i := 194) rfl)) rfl
  have w3 : Cond.static yL_beat ∈ gws := gw (mt_5 (List.mem_of_getElem? (i := 195) rfl)) rfl
  have w4 : Cond.initialized yL_beat.cls ∈ gws := gw (mt_1 (List.mem_of_getElem? (i := 0) rfl)) rfl
  intro w hw
  have h : w ∈ gws := by
    simp only [va_wsS, List.mem_append, List.mem_cons, List.not_mem_nil, or_false] at hw
    rcases hw with (h | h | h) | h | h
    · rw [h]; exact w2
    · rw [h]; exact w3
    · rw [h]; exact w4
    · rw [h]; exact w1
    · exact h
  exact ⟨h, good_of_word (List.mem_filter.mp h).2⟩
theorem L_beat {X : gXL} {k pc : Nat} {lv : List (Nat × Value)} {rest : List Value} {M1 M2 : gM} {ov : Int64} {p0 p1 : Int32} {kf : Nat × Int32 → gM → Option Bool} (hd : decode code pc = .ok (.invokestatic 161, 3)) (hk : k ≤ 512) (hc : (rest.map fun v => v.category).sum ≤ 8) (kk : ∀ (r : Nat × Int32) (M : gM), GL X (k + 1) (pc + 3) lv (.int (nI r.1) :: rest) M M2 (if r.1 = 0 then r.2.toInt64 else ov) (kf r M)) : GL X k pc lv (.ref (lo X) :: .int p1 :: .int p0 :: .ref (lad X 0) :: rest) M1 M2 ov (g_b (f_X9_beat p0 p1 M1) kf) := by
  intro hX hk2 ho H ls locs hl hP hS
  match hfo : f_X9_beat p0 p1 M1 with
  | none => rw [hfo] at ho; cases ho
  | some (r, M') =>
    rw [hfo] at ho
    have hM := ok_L_beat p0 p1 M1 (ll X) (lZ X) (lo X) ov H.size r M' hfo
    obtain ⟨hx, hb, hrt, hml, hown, hts0, hsc, hbl, hlk, hK, hD, hen, hex, hL⟩ := id hX
    have hts := l_hts hts0
    have hDb := l_lbD hD
    have hsub := lb_Asub hDb (fun q h => h) hS
    refine l_gob (vx_runSW (As := [.ref (lad X 0), .int p0, .int p1, .ref (lo X)]) (rest := rest) ⟨hx, hb, hml, hown, hts⟩ hM (vx_cwSW 4 hts lbW_good rfl rfl rfl (by decide +kernel) ⟨Nat.le_of_ble_eq_true rfl, Nat.le_of_ble_eq_true rfl⟩) ⟨fun a U g mk q => ⟨q.1, q.2.1, q.2.2.1, va_K.moved (u := U) (U := U.calling g mk a) (Vm.Alike.refl U.vm) q.2.2.2.1, q.2.2.2.2.1, g_en.call (U := U) (V := U.calling g mk a) rfl q.2.2.2.2.2.1, g_ex.call (U := U) (V := U.calling g mk a) rfl q.2.2.2.2.2.2⟩, fun U hU hW => ⟨rfl, by rw [hU], by rw [hU]; exact l_lbP hP, va_K.moved hW.alike hK, ⟨⟨hDb.1.1, fun _ _ => trivial⟩, trivial, hDb.2.2⟩, hen.go hW hS hsub hU, hex.go hW hS hsub hU⟩⟩ rfl rfl hl.1 rfl (lv_room hc) hd ⟨by have := rm_c; show 200 + k + 1 ≤ room_1.cells; omega, by have := rm_s; show 800000 + 8 * k + 6 ≤ room_1.slots; omega⟩) hS (fun q _ h => hsub q h) hsub (fun H1 locs1 hP1 hk1 hS1 => ?_)
    refine W.widen (k := 200 + (k + 1)) (n := 800000 + 8 * (k + 1)) (by omega) (by omega) ?_
    exact kk r M' hX (by omega) ho H1 ls locs1 hl (l_lbJ hD hP hP1 hk1) hS1
