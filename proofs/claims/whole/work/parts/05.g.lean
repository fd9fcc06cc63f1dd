/-! the memory of a system: ints, longs, references by cell numbers; the cells: (0, class, field codes), (1, length) ints, (2, length) longs, (3, length) booleans -/
def wIx : Nat := 69
def gws : List Cond := lw_tbl.filter goodWord
theorem gw {w : Cond} (h : w ∈ lw_tbl) (hg : goodWord w = true) : w ∈ gws := List.mem_filter.mpr ⟨h, hg⟩
abbrev gM : Type := (Nat → Nat → Int32) × (Nat → Nat → Int64) × (Nat → Nat → Nat)
abbrev gY : Type := List (Nat × Nat × List Nat)
abbrev gZ : Type := va_G × (Nat → Nat) × ClassId × ClassId × ClassId × Nat × Nat
abbrev gJ : Type := ByteArray × Nat × String × Option FieldType × Room
def g_fv (ad : Nat → Nat) (M : gM) (k j : Nat) : Nat → Value
  | 0 => .int (M.1 k j)
  | 1 => .long (M.2.1 k j)
  | 2 => va_rf (if M.2.2 k j = 0 then none else some (ad (M.2.2 k j)))
  | n + 3 => .ref (ad n)
def g_fs (ad : Nat → Nat) (M : gM) (k : Nat) (cs : List Nat) : List Value := cs.mapIdx (fun j c => g_fv ad M k j c)
def g_ce (Z : gZ) (M : gM) (k : Nat) (c : Nat × Nat × List Nat) : va_E := match c.1 with
  | 0 => .inr (c.2.1, g_fs Z.2.1 M k c.2.2)
  | 1 => .inl (Z.2.2.1, c.2.1, .inl (M.1 k))
  | 2 => .inl (Z.2.2.2.1, c.2.1, .inr (.inl (M.2.1 k)))
  | _ => .inl (Z.2.2.2.2.1, c.2.1, .inl (M.1 k))
def g_ws (Y : gY) (Z : gZ) (M : gM) : va_W := Y.mapIdx (fun k c => (Z.2.1 k, g_ce Z M k c))
def g_ty (Z : gZ) : List (ClassId × FieldType) := [(Z.2.2.1, .int), (Z.2.2.2.1, .long), (Z.2.2.2.2.1, .boolean)]
def sI (M : gM) (k j : Nat) (x : Int32) : gM := (va_up M.1 k (upd (M.1 k) j x), M.2)
def sL (M : gM) (k j : Nat) (x : Int64) : gM := (M.1, va_up M.2.1 k (vp_updL (M.2.1 k) j x), M.2.2)
def sR (M : gM) (k j n : Nat) : gM := (M.1, M.2.1, va_up M.2.2 k (va_up (M.2.2 k) j n))
theorem g_at {Y : gY} {Z : gZ} {M : gM} {k : Nat} {c : Nat × Nat × List Nat} (h : Y[k]? = some c) : (g_ws Y Z M)[k]? = some (Z.2.1 k, g_ce Z M k c) := by
  simp [g_ws, List.getElem?_mapIdx, h]
theorem g_fs_congr {ad : Nat → Nat} {M M' : gM} {k : Nat} {cs : List Nat} (h1 : M'.1 k = M.1 k) (h2 : M'.2.1 k = M.2.1 k) (h3 : M'.2.2 k = M.2.2 k) : g_fs ad M' k cs = g_fs ad M k cs := by
  have h : ∀ j c, g_fv ad M' k j c = g_fv ad M k j c := by
    intro j c
    match c with
    | 0 => simp [g_fv, h1]
    | 1 => simp [g_fv, h2]
    | 2 => simp [g_fv, h3]
    | n + 3 => rfl
  simp only [g_fs, h]
theorem g_ce_congr {Z : gZ} {M M' : gM} {k : Nat} {c : Nat × Nat × List Nat} (h1 : M'.1 k = M.1 k) (h2 : M'.2.1 k = M.2.1 k) (h3 : M'.2.2 k = M.2.2 k) : g_ce Z M' k c = g_ce Z M k c := by
  simp only [g_ce, h1, h2, g_fs_congr h1 h2 h3]
theorem g_len {Y : gY} {Z : gZ} {M : gM} : (g_ws Y Z M).length = Y.length := by simp [g_ws]
theorem g_set {Y : gY} {Z : gZ} {M M' : gM} {k : Nat} {c : Nat × Nat × List Nat} (h : Y[k]? = some c) (hne : ∀ q, q ≠ k → M'.1 q = M.1 q ∧ M'.2.1 q = M.2.1 q ∧ M'.2.2 q = M.2.2 q) : (g_ws Y Z M).set k (Z.2.1 k, g_ce Z M' k c) = g_ws Y Z M' := by
  apply List.ext_getElem?
  intro i
  have hk : k < Y.length := (List.getElem?_eq_some_iff.mp h).1
  by_cases hi : i = k
  · subst hi
    rw [List.getElem?_set_self (by rw [g_len]; exact hk), g_at h]
  · rw [List.getElem?_set_ne (Ne.symm hi)]
    simp only [g_ws, List.getElem?_mapIdx]
    cases hY : Y[i]? with
    | none => rfl
    | some c' =>
      obtain ⟨h1, h2, h3⟩ := hne i hi
      simp only [Option.map_some, g_ce_congr (Z := Z) (c := c') h1 h2 h3]
def g_D (Y : gY) (ad : Nat → Nat) (A : Nat → Prop) : Prop := (∀ i j, i < Y.length → j < Y.length → ad i = ad j → i = j) ∧ ∀ k, k < Y.length → A (ad k)
theorem g_inv {Y : gY} {Z : gZ} {M : gM} {k : Nat} {q : Nat × va_E} (h : (g_ws Y Z M)[k]? = some q) : k < Y.length ∧ q.1 = Z.2.1 k := by
  have hk : k < Y.length := by rw [← g_len (Z := Z) (M := M)]; exact (List.getElem?_eq_some_iff.mp h).1
  obtain ⟨c, hc⟩ : ∃ c, Y[k]? = some c := ⟨Y[k], List.getElem?_eq_some_iff.mpr ⟨hk, rfl⟩⟩
  rw [g_at hc] at h
  exact ⟨hk, by rw [← Option.some.inj h]⟩
theorem g_D.va {Y : gY} {Z : gZ} {A : Nat → Prop} (h : g_D Y Z.2.1 A) (M : gM) : va_D A (g_ws Y Z M) := by
  refine ⟨fun i j p q hp hq e => ?_, fun k q hk => ?_⟩
  · obtain ⟨h1, h2⟩ := g_inv hp
    obtain ⟨h3, h4⟩ := g_inv hq
    exact h.1 i j h1 h3 (by rw [← h2, ← h4]; exact e)
  · obtain ⟨h1, h2⟩ := g_inv hk
    rw [h2]
    exact h.2 k h1
theorem sI_ne {M : gM} {k j : Nat} {x : Int32} : ∀ q, q ≠ k → (sI M k j x).1 q = M.1 q ∧ (sI M k j x).2.1 q = M.2.1 q ∧ (sI M k j x).2.2 q = M.2.2 q := fun q h => ⟨by simp [sI, va_up, h], rfl, rfl⟩
theorem sL_ne {M : gM} {k j : Nat} {x : Int64} : ∀ q, q ≠ k → (sL M k j x).1 q = M.1 q ∧ (sL M k j x).2.1 q = M.2.1 q ∧ (sL M k j x).2.2 q = M.2.2 q := fun q h => ⟨rfl, by simp [sL, va_up, h], rfl⟩
theorem sR_ne {M : gM} {k j n : Nat} : ∀ q, q ≠ k → (sR M k j n).1 q = M.1 q ∧ (sR M k j n).2.1 q = M.2.1 q ∧ (sR M k j n).2.2 q = M.2.2 q := fun q h => ⟨rfl, rfl, by simp [sR, va_up, h]⟩
theorem g_fs_get {ad : Nat → Nat} {M : gM} {k j c : Nat} {cs : List Nat} (h : cs[j]? = some c) : (g_fs ad M k cs)[j]? = some (g_fv ad M k j c) := by
  simp [g_fs, List.getElem?_mapIdx, h]
theorem g_fs_set {ad : Nat → Nat} {M M' : gM} {k j c : Nat} {v : Value} {cs : List Nat} (h : cs[j]? = some c) (hv : g_fv ad M' k j c = v) (hne : ∀ i c, i ≠ j → g_fv ad M' k i c = g_fv ad M k i c) : (g_fs ad M k cs).set j v = g_fs ad M' k cs := by
  apply List.ext_getElem?
  intro i
  have hj : j < cs.length := (List.getElem?_eq_some_iff.mp h).1
  by_cases hi : i = j
  · subst hi
    rw [List.getElem?_set_self (by simp [g_fs]; exact hj), g_fs_get h, hv]
  · rw [List.getElem?_set_ne (Ne.symm hi)]
    simp only [g_fs, List.getElem?_mapIdx]
    cases hY : cs[i]? with
    | none => rfl
    | some c' => simp only [Option.map_some, hne i c' hi]
theorem sI_fv {ad : Nat → Nat} {M : gM} {k j : Nat} {x : Int32} : ∀ i c, i ≠ j → g_fv ad (sI M k j x) k i c = g_fv ad M k i c := by
  intro i c h
  match c with
  | 0 => simp [g_fv, sI, va_up, upd, h]
  | 1 => rfl
  | 2 => rfl
  | n + 3 => rfl
theorem sR_fv {ad : Nat → Nat} {M : gM} {k j n : Nat} : ∀ i c, i ≠ j → g_fv ad (sR M k j n) k i c = g_fv ad M k i c := by
  intro i c h
  match c with
  | 0 => rfl
  | 1 => rfl
  | 2 => simp [g_fv, sR, va_up, h]
  | n + 3 => rfl
theorem sI_at {M : gM} {k j : Nat} {x : Int32} : (sI M k j x).1 k = upd (M.1 k) j x := by simp [sI, va_up]
theorem sL_at {M : gM} {k j : Nat} {x : Int64} : (sL M k j x).2.1 k = vp_updL (M.2.1 k) j x := by simp [sL, va_up]
theorem sI_fv0 {ad : Nat → Nat} {M : gM} {k j : Nat} {x : Int32} : g_fv ad (sI M k j x) k j 0 = .int x := by simp [g_fv, sI, va_up, upd]
theorem sR_fv2 {ad : Nat → Nat} {M : gM} {k j n : Nat} (h : n ≠ 0) : g_fv ad (sR M k j n) k j 2 = .ref (ad n) := by simp [g_fv, sR, va_up, h, va_rf]
/-! what a method's walk stands in -/
abbrev gX := Program × Launch × Env × State × MethodId × Array Value × List Frame × Method × Code × gZ × (Nat → Prop)
abbrev xp (X : gX) : Program := X.1
abbrev xl (X : gX) : Launch := X.2.1
abbrev xe (X : gX) : Env := X.2.2.1
abbrev xs (X : gX) : State := X.2.2.2.1
abbrev xm (X : gX) : MethodId := X.2.2.2.2.1
abbrev xa (X : gX) : Array Value := X.2.2.2.2.2.1
abbrev xb (X : gX) : List Frame := X.2.2.2.2.2.2.1
abbrev xt (X : gX) : Method := X.2.2.2.2.2.2.2.1
abbrev xc (X : gX) : Code := X.2.2.2.2.2.2.2.2.1
abbrev xZ (X : gX) : gZ := X.2.2.2.2.2.2.2.2.2.1
abbrev xA (X : gX) : Nat → Prop := X.2.2.2.2.2.2.2.2.2.2
abbrev ad (X : gX) : Nat → Nat := (xZ X).2.1
def wTx : String := "at    lean  swing push  gust  pole  rope  wide  fast  act   gusts reflexif    do    or    and   not   "
def wBy : List Int32 := [97, 116, 32, 32, 32, 32, 108, 101, 97, 110, 32, 32, 115, 119, 105, 110, 103, 32, 112, 117, 115, 104, 32, 32, 103, 117, 115, 116, 32, 32, 112, 111, 108, 101, 32, 32, 114, 111, 112, 101, 32, 32, 119, 105, 100, 101, 32, 32, 102, 97, 115, 116, 32, 32, 97, 99, 116, 32, 32, 32, 103, 117, 115, 116, 115, 32, 114, 101, 102, 108, 101, 120, 105, 102, 32, 32, 32, 32, 100, 111, 32, 32, 32, 32, 111, 114, 32, 32, 32, 32, 97, 110, 100, 32, 32, 32, 110, 111, 116, 32, 32, 32]
/-- what stays of the start: the text of the words, two statics of the JDK -/
def g_en (Z : gZ) (A : Nat → Prop) (U : State) (H : Heap) : Prop := vk_R RX7 wIx wTx Z.2.2.2.2.2.1 U ∧ vk_S 1 [102] [wBy] (fun _ => Z.2.2.2.2.2.1) (fun _ => Z.2.2.2.2.2.2) A U H ∧ va_Z "java/lang/String" "COMPACT_STRINGS" "Z" (.int 1) A U H ∧ va_Zq "jdk/internal/util/Preconditions" "SIOOBE_FORMATTER" "Ljava/util/function/BiFunction;" A U H
theorem g_en.go {Z : gZ} {A B : Nat → Prop} {s U : State} {H : Heap} {locs : List Loc} (h : g_en Z A s s.heap) (hW : s.WarmedH U.vm) (hS : va_S A s.heap H locs) (hB : ∀ q, B q → A q) (hU : U.heap = H) : g_en Z B U U.heap := by
  rw [hU]
  exact ⟨h.1.warm hW, ((h.2.1.moved hW.alike).kept hS.2.1).narrow hB, ((h.2.2.1.moved hW.alike).kept hS.2.1).narrow hB, ((h.2.2.2.moved hW.alike).kept hS.2.1).narrow hB⟩
theorem g_en.call {Z : gZ} {A : Nat → Prop} {U V : State} {H : Heap} (hv : V.vm = U.vm) (h : g_en Z A U H) : g_en Z A V H :=
  ⟨h.1.same hv, h.2.1.moved (by rw [hv]; exact Vm.Alike.refl _), h.2.2.1.moved (by rw [hv]; exact Vm.Alike.refl _), h.2.2.2.moved (by rw [hv]; exact Vm.Alike.refl _)⟩
abbrev sa (X : gX) : Nat := (xZ X).2.2.2.2.2.1
def g_room (d : Nat) : Room := { frames := d, cells := 0, slots := 0, locals := 40 * d }
def g_ok (Y : gY) (J : gJ) (X : gX) : Prop := (xp X).tables.exec = Jvm.exec ∧ (xc X).code = J.1 ∧ (xc X).maxLocals = J.2.1 ∧ (xt X).sig.returnType = J.2.2.2.1 ∧ (xs X).vm.findClass J.2.2.1 = some (xm X).cls ∧ (∀ w ∈ gws, w.before (xa X) (xs X) = true) ∧ (xt X).locks = false ∧ va_K (xZ X).1 vwCl (g_ty (xZ X)) (xs X) ∧ g_D Y (ad X) (xA X) ∧ (∀ q, (xs X).heap.size ≤ q → (xA X) q) ∧ g_en (xZ X) (xA X) (xs X) (xs X).heap
def g_Qc (Y : gY) (Z : gZ) (A : Nat → Prop) (rv : Option Value) (M' : gM) : Array Value → State → Outcome → State → Prop := fun _ st oc t => (oc = .returned rv ∧ va_P Z.1 vwCl (g_ws Y Z M') t.heap) ∧ va_F A st t
def g_fin {β : Type} (en : β → Option Value) : gY → gX → β → gM → State → Prop := fun Y X r M' => MQ (xb X) (g_Qc Y (xZ X) (xA X) (en r) M') (xa X) (xs X) 0 0 (xA X)
def G {β : Type} (Y : gY) (J : gJ) (X : gX) (fi : gY → gX → β → gM → State → Prop) (pc : Nat) (lv : List (Nat × Value)) (st : List Value) (M : gM) (o : Option (β × gM)) : Prop :=
  g_ok Y J X → ∀ (r : β) (M' : gM), o = some (r, M') → ∀ (H : Heap) (ls : Array Slot) (locs : List Loc), lv_has ls J.2.1 lv → va_P (xZ X).1 vwCl (g_ws Y (xZ X) M) H → va_S (xA X) (xs X).heap H locs →
    W (xp X) (xl X) (xe X) J.2.2.2.2 (xs X) (xm X) (xa X) (xb X) (xt X) (xc X) H locs 0 0 (fi Y X r M') (F0 (xm X) pc ls st)
def g_A (Y : gY) (ad : Nat → Nat) (sz : Nat) : Nat → Prop := fun q => (∃ k, k < Y.length ∧ q = ad k) ∨ sz ≤ q
def g_met {β : Type} (Y : gY) (y : MethodName) (J : gJ) (en : β → Option Value) (vs : gZ → List Value) (M : gM) (o : Option (β × gM)) : Prop :=
  ∀ (l : Launch) (Z : gZ) (sz : Nat) (r : β) (M' : gM), o = some (r, M') →
    Met l y (Cond.code y J.1 J.2.1 J.2.2.2.1 :: gws) J.2.2.2.2 (va_Pc (vs Z) (fun U => U.heap.size = sz ∧ va_P Z.1 vwCl (g_ws Y Z M) U.heap ∧ va_K Z.1 vwCl (g_ty Z) U ∧ g_D Y Z.2.1 (fun _ => True) ∧ g_en Z (g_A Y Z.2.1 sz) U U.heap)) (g_Qc Y Z (g_A Y Z.2.1 sz) (en r) M') 0 0 (g_A Y Z.2.1 sz)
def g_ei (x : Int32) : Option Value := some (.int x)
def g_el (x : Int64) : Option Value := some (.long x)
def g_ev (_ : Unit) : Option Value := none
def b2i (b : Bool) : Int32 := if b then 1 else 0
def g_eb (b : Bool) : Option Value := some (.int (b2i b))
def g_b {α β : Type} (o : Option (α × gM)) (k : α → gM → Option β) : Option β := match o with
  | none => none
  | some (r, M) => k r M
def g_ck {β : Type} (i : Int32) (n : Nat) (o : Option β) : Option β := if i < 0 ∨ n ≤ i.toNatClampNeg then none else o
def g_nz {β : Type} (y : Int32) (o : Option β) : Option β := if y = 0 then none else o
def g_tb {β : Type} (v : Int32) (k : Bool → Option β) : Option β := if v = 0 then k false else if v = 1 then k true else none
abbrev tn (i : Int32) : Nat := i.toNatClampNeg
def zb (x : Int32) : Int32 := vp_nar .boolean x
def FU : Nat := 1000000
