def lw_At (p : Program) (s : State) (m : MethodId) (meth : Method) (c : Code) (b L : Nat) (xs : Nat → Int32) : Prop :=
  p.tables.exec = Jvm.exec ∧ c.code = code ∧ meth.sig.returnType = ret ∧ c.maxLocals = 7 ∧ s.vm.findClass R_law = some m.cls ∧ (∀ w ∈ lw_tbl, w.before #[Value.ref b] s = true) ∧ va_X b L xs s s.heap ∧ b < s.heap.size ∧ meth.locks = false ∧ (Jvm.Cond.and given_1 narrow_1).before #[Value.ref b] s = true
theorem W_ctor {p : Program} {l : Launch} {e : Env} {R : Room} {s : State} {m : MethodId} {args : Array Value} {below : List Frame} {meth : Method} {c : Code} {H : Heap} {locs : List Loc} {cells slots : Nat} {Q : State → Prop} {pc nL idx : Nat} {ls : Array Slot} {rest : List Value} {cc : ByteArray} {own : String} {wa : va_W} {q ci2 : Nat} {fs2 : List Value} {Z : gZ} {A : Nat → Prop} {PX : va_W → Prop} {y : MethodName} {J' : gJ}
    (S : CallFix p m c cc nL s args gws own) (hK : va_K Z.1 vwCl (g_ty Z) s) (hns : g_ns s) (hen : g_en Z A s s.heap) (hA : ∀ q, s.heap.size ≤ q → A q) (hP' : va_P Z.1 vwCl (wa ++ [(q, .inr (ci2, fs2))]) H) (hD' : va_D A (wa ++ [(q, .inr (ci2, fs2))])) (hS : va_S A s.heap H locs) (hM : n_met y J' ci2 fs2 [] Z q PX) (hw : n_wI own idx y J' 0) (hret : J'.2.2.2.1 = none) (hd : decode cc pc = .ok (.invokespecial idx, 3)) (hls : ls.size = nL) (hc : (rest.map fun v => v.category).sum ≤ 8) (hr : (J'.2.2.2.2.frames + 1 ≤ R.frames ∧ 8 + (J'.2.1 + 11) + J'.2.2.2.2.locals ≤ R.locals) ∧ cells + J'.2.2.2.2.cells ≤ R.cells ∧ slots + J'.2.2.2.2.slots ≤ R.slots)
    (kk : ∀ (w : va_W) (H1 : Heap) (locs1 : List Loc), PX w → va_P Z.1 vwCl (wa ++ w) H1 → va_D A (wa ++ w) → va_S A s.heap H1 locs1 → W p l e R s m args below meth c H1 locs1 (cells + J'.2.2.2.2.cells) (slots + J'.2.2.2.2.slots) Q (F0 m (pc + 3) ls rest)) : W p l e R s m args below meth c H locs cells slots Q (F0 m pc ls (.ref q :: rest)) := by
  obtain ⟨hx, hb, hml, hown, hts⟩ := id S
  have hq : (wa ++ [(q, (.inr (ci2, fs2) : va_E))])[wa.length]? = some (q, .inr (ci2, fs2)) := by
    rw [List.getElem?_append_right (Nat.le_refl _), Nat.sub_self]
    rfl
  have hPc : va_P Z.1 vwCl [(q, .inr (ci2, fs2))] H := by
    intro k z hz
    have hk := (List.getElem?_eq_some_iff.mp hz).1
    simp at hk
    subst hk
    cases hz
    exact hP' _ _ hq
  have hsub : ∀ z, va_A [(q, .inr (ci2, fs2))] H.size z → A z := by
    intro z h
    rcases h with ⟨k, e, h⟩ | h
    · have hk := (List.getElem?_eq_some_iff.mp h).1
      simp at hk
      subst hk
      cases h
      exact hD'.2 _ _ hq
    · exact hA z (Nat.le_trans hS.1 h)
  have hcb : CallB R s args own idx y J'.1 J'.2.1 none (Cond.code y J'.1 J'.2.1 J'.2.2.2.1 :: gws) J'.2.2.2.2 J'.2.2.2.2.cells J'.2.2.2.2.slots 0 := by
    rw [← hret]
    exact callB_of 0 hts (g_good y J' hw.1.2.2.1) rfl rfl rfl (hts _ hw.1.2.1) (hts _ hw.1.1) hw.1.2.2.2 hr.1
  refine n_go (va_runI (As := []) (rest := rest) S (hM l H.size) ⟨hcb, hw.2.1, hts _ hw.2.2⟩ ⟨fun a U g mk z => ⟨z.1, z.2.1, z.2.2.1, va_K.moved (u := U) (U := U.calling g mk a) (Vm.Alike.refl U.vm) z.2.2.2.1, z.2.2.2.2.1.same rfl, g_en.call (U := U) (V := U.calling g mk a) rfl z.2.2.2.2.2⟩, fun U hU hW => ⟨rfl, by rw [hU], by rw [hU]; exact hPc, va_K.moved hW.alike hK, hns.warm hW, hen.go hW hS hsub hU⟩⟩ rfl rfl hls rfl (lv_room hc) hd hr.2) hS (fun z _ h => hsub z h) hsub (fun w H1 locs1 hw1 hP1 hD1 hk1 hS1 => ?_)
  obtain ⟨hP2, hD2⟩ := n_join hP' hD' hP1 hD1 hsub hk1
  exact kk w H1 locs1 hw1 hP2 hD2 hS1
def pos9 : List Nat := [0, 1, 2, 3, 4, 5, 6, 7, 8, 9, 10, 11, 12, 13, 14, 15, 16, 17, 18, 19, 20, 31, 32, 33, 34, 35, 36, 21, 22, 23, 24, 25, 26, 27, 28, 29, 30, 38, 39, 40, 41, 42, 43, 44, 45, 46, 47, 48, 49, 50, 51, 52, 53, 54, 55, 56, 57, 58, 59, 60, 61, 62, 63, 64, 65, 66, 67, 68, 69, 70, 37]
theorem pos9_lt : ∀ k, k < 71 → ∃ j, j < 71 ∧ pos9[k]? = some j := by decide +kernel
theorem pos9_inj : ∀ a, a < 71 → ∀ b, b < 71 → pos9[a]? = pos9[b]? → a = b := by decide +kernel
theorem len1 : Y1.length = 71 := rfl
theorem len2 : Y2.length = 63 := rfl
/-- the law's world out of the constructors' -/
theorem s_world {X : gXL} {w1 : va_W} {H : Heap} (hm : pos9.map (fun i => w1[i]?) = (g_ws Y1 (lZ X) M10).map some) (hlen : w1.length = 71) (hP : va_P (lZ X).1 vwCl ((w1 ++ g_ws Y2 (lZ2 X) M20) ++ l_out X 0) H) (hD : va_D (lA X) ((w1 ++ g_ws Y2 (lZ2 X) M20) ++ l_out X 0)) : va_P (lZ X).1 vwCl (l_ws X M10 M20 0) H ∧ ∀ M1 M2 ov, va_D (lA X) (l_ws X M1 M2 ov) := by
  have at1 : ∀ k, k < 71 → ∃ j, j < 71 ∧ pos9[k]? = some j ∧ w1[j]? = (g_ws Y1 (lZ X) M10)[k]? := by
    intro k hk
    obtain ⟨j, hj, hp⟩ := pos9_lt k hk
    refine ⟨j, hj, hp, ?_⟩
    have h1 : (pos9.map (fun i => w1[i]?))[k]? = some (w1[j]?) := by rw [List.getElem?_map, hp]; rfl
    rw [hm, List.getElem?_map] at h1
    obtain ⟨e, he⟩ := g_some (Y := Y1) (Z := lZ X) (M := M10) (k := k) (by rw [len1]; exact hk)
    rw [he] at h1 ⊢
    exact (Option.some.inj h1).symm
  have inL : ∀ j, j < 71 → ((w1 ++ g_ws Y2 (lZ2 X) M20) ++ l_out X 0)[j]? = w1[j]? := by
    intro j hj
    rw [List.getElem?_append_left (by rw [List.length_append, hlen]; omega), List.getElem?_append_left (by rw [hlen]; exact hj)]
  have inM : ∀ j, j < 63 → ((w1 ++ g_ws Y2 (lZ2 X) M20) ++ l_out X 0)[71 + j]? = (g_ws Y2 (lZ2 X) M20)[j]? := by
    intro j hj
    rw [List.getElem?_append_left (by rw [List.length_append, hlen, g_len, len2]; omega), List.getElem?_append_right (by rw [hlen]; omega), hlen, Nat.add_sub_cancel_left]
  have inR : ((w1 ++ g_ws Y2 (lZ2 X) M20) ++ l_out X 0)[134]? = some (lbo (lZ X) (lo X) 0) := by
    rw [List.getElem?_append_right (by rw [List.length_append, hlen, g_len, len2]; omega), List.length_append, hlen, g_len, len2]
    rfl
  have key : ∀ (M1 M2 : gM) (ov : Int64) (k : Nat) (z : Nat × va_E), (l_ws X M1 M2 ov)[k]? = some z → ∃ j e, ((w1 ++ g_ws Y2 (lZ2 X) M20) ++ l_out X 0)[j]? = some (z.1, e) ∧ ((k < 71 ∧ pos9[k]? = some j) ∨ (71 ≤ k ∧ j = k)) ∧ (M1 = M10 → M2 = M20 → ov = 0 → e = z.2) := by
    intro M1 M2 ov k z hz
    by_cases hk : k < 71
    · have hz1 : (g_ws Y1 (lZ X) M1)[k]? = some z := by
        have := l_in1 (X := X) (M1 := M1) (M2 := M2) (ov := ov) (k := k) (by rw [len1]; exact hk)
        rw [Nat.zero_add] at this
        rw [← this]; exact hz
      obtain ⟨j, hj, hp, hw⟩ := at1 k hk
      obtain ⟨e, he⟩ := g_some (Y := Y1) (Z := lZ X) (M := M10) (k := k) (by rw [len1]; exact hk)
      have ez := (g_inv hz1).2
      refine ⟨j, e, by rw [inL j hj, hw, he, ez], Or.inl ⟨hk, hp⟩, fun h1 _ _ => ?_⟩
      subst h1
      rw [he] at hz1
      rw [← Option.some.inj hz1]
    · by_cases hk2 : k < 134
      · obtain ⟨i, rfl⟩ : ∃ i, k = 71 + i := ⟨k - 71, by omega⟩
        have hi : i < 63 := by omega
        have hz1 : (g_ws Y2 (lZ2 X) M2)[i]? = some z := by
          rw [← l_in2 (X := X) (M1 := M1) (M2 := M2) (ov := ov) (k := i) (by rw [len2]; exact hi), len1]; exact hz
        obtain ⟨e, he⟩ := g_some (Y := Y2) (Z := lZ2 X) (M := M20) (k := i) (by rw [len2]; exact hi)
        have ez := (g_inv hz1).2
        refine ⟨71 + i, e, by rw [inM i hi, he, ez], Or.inr ⟨by omega, rfl⟩, fun _ h2 _ => ?_⟩
        subst h2
        rw [he] at hz1
        rw [← Option.some.inj hz1]
      · have hl : k < (l_ws X M1 M2 ov).length := (List.getElem?_eq_some_iff.mp hz).1
        have hl2 : (l_ws X M1 M2 ov).length = 135 := by simp only [l_ws, List.length_append, g_len, len1, len2, l_out, List.length_singleton]
        have hk3 : k = 134 := by omega
        subst hk3
        have hio := l_io (X := X) (M1 := M1) (M2 := M2) (ov := ov)
        rw [len1, len2] at hio
        rw [hio] at hz
        have ez := Option.some.inj hz
        subst ez
        exact ⟨134, _, inR, Or.inr ⟨by omega, rfl⟩, fun _ _ h3 => by subst h3; rfl⟩
  refine ⟨fun k z hz => ?_, fun M1 M2 ov => ⟨fun i j a b ha hb hab => ?_, fun k z hz => ?_⟩⟩
  · obtain ⟨j, e, hj, -, he⟩ := key M10 M20 0 k z hz
    have := he rfl rfl rfl
    subst this
    exact hP j z hj
  · obtain ⟨j1, e1, h1, c1, -⟩ := key M1 M2 ov i a ha
    obtain ⟨j2, e2, h2, c2, -⟩ := key M1 M2 ov j b hb
    have hjj := hD.1 j1 j2 _ _ h1 h2 hab
    subst hjj
    rcases c1 with ⟨a1, p1⟩ | ⟨a1, p1⟩ <;> rcases c2 with ⟨a2, p2⟩ | ⟨a2, p2⟩
    · exact pos9_inj i a1 j a2 (p1.trans p2.symm)
    · obtain ⟨j3, l3, p3⟩ := pos9_lt i a1
      rw [p3] at p1
      have := Option.some.inj p1
      omega
    · obtain ⟨j3, l3, p3⟩ := pos9_lt j a2
      rw [p3] at p2
      have := Option.some.inj p2
      omega
    · omega
  · obtain ⟨j, e, hj, -⟩ := key M1 M2 ov k z hz
    exact hD.2 j (z.1, e) hj
