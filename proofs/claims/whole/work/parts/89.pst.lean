/-! ===== the parsers' states, one side at a time ===== -/
def rk (o : Nat) : Nat := [0, 0, 1, 1, 2, 2, 3].getD o 0
def cb (o : Nat) : Int := [10, 0, 3, 4, 5, 6, 2].getD o 0
def okO (o : Nat) : Prop := o = 0 ∨ (2 ≤ o ∧ o ≤ 6)
def AO (e : Nat → Int32) (f : Nat → Int32) : List Nat → Prop
  | [] => True
  | x :: O => f O.length = e x ∧ AO e f O
def e1O (o : Nat) : Int32 := i3 (cb o)
def e2O (o : Nat) : Int32 := i3 (o : Int)
theorem AO_u {e : Nat → Int32} {g : Nat → Int32} {j : Nat} {x : Int32} : ∀ s : List Nat, s.length ≤ j → AO e g s → AO e (upd g j x) s := by
  intro s
  induction s with
  | nil => intro _ _; trivial
  | cons y s ih =>
    intro h1 h2
    rw [List.length_cons] at h1
    exact ⟨by rw [up_n (by omega)]; exact h2.1, ih (by omega) h2.2⟩
/-- what waits and binds no less tightly goes out -/
def unw (r : Nat) : List Nat → List Cw → List Nat × List Cw
  | [], X => ([], X)
  | o :: O, X => if r ≤ rk o then unw r O (X ++ [(o, 0)]) else (o :: O, X)
theorem unw_l (r : Nat) : ∀ (O : List Nat) (X : List Cw), (unw r O X).1.length + (unw r O X).2.length = O.length + X.length ∧ (unw r O X).1.length ≤ O.length ∧ ∀ o ∈ (unw r O X).1, o ∈ O := by
  intro O
  induction O with
  | nil => intro X; exact ⟨rfl, Nat.le_refl _, fun o h => h⟩
  | cons o O ih =>
    intro X
    rw [unw]
    split
    · obtain ⟨h1, h2, h3⟩ := ih (X ++ [(o, 0)])
      rw [List.length_append, List.length_singleton] at h1
      rw [List.length_cons]
      exact ⟨by omega, by omega, fun q hq => List.mem_cons_of_mem _ (h3 q hq)⟩
    · exact ⟨rfl, Nat.le_refl _, fun o h => h⟩
theorem unw_3 (r : Nat) (hr : r ≤ 3) : ∀ (O : List Nat) (X : List Cw), unw r (unw 3 O X).1 (unw 3 O X).2 = unw r O X := by
  intro O
  induction O with
  | nil => intro X; rfl
  | cons o O ih =>
    intro X
    by_cases h : 3 ≤ rk o
    · rw [unw, if_pos h, ih, unw, if_pos (by omega)]
    · rw [show unw 3 (o :: O) X = (o :: O, X) by rw [unw, if_neg h]]
def EF (t sz : Nat) (M0 M : gM) : Prop := (∀ k, k ≠ 21 → k ≠ 22 → k ≠ t → k ≠ t + 1 → M.1 k = M0.1 k) ∧ M.2 = M0.2 ∧ (∀ j, j ≠ 0 → j ≠ 1 → j ≠ 4 → j ≠ 7 → M.1 21 j = M0.1 21 j) ∧ (∀ j, j ≠ 8 → M.1 t j = M0.1 t j) ∧ ∀ k, k < sz → M.1 (t + 1) k = M0.1 (t + 1) k
theorem EF.rf {t sz : Nat} {M : gM} : EF t sz M M := ⟨fun _ _ _ _ _ => rfl, rfl, fun _ _ _ _ _ => rfl, fun _ _ => rfl, fun _ _ => rfl⟩
theorem EF.tr {t sz sz' : Nat} {M M1 M2 : gM} (hs : sz ≤ sz') (h : EF t sz M M1) (h2 : EF t sz' M1 M2) : EF t sz M M2 := ⟨fun k a b c d => (h2.1 k a b c d).trans (h.1 k a b c d), h2.2.1.trans h.2.1, fun j a b c d => (h2.2.2.1 j a b c d).trans (h.2.2.1 j a b c d), fun j a => (h2.2.2.2.1 j a).trans (h.2.2.2.1 j a), fun k hk => (h2.2.2.2.2 k (by omega)).trans (h.2.2.2.2 k hk)⟩
theorem EF.p {t sz : Nat} {M0 M : gM} (ht : t = 3 ∨ t = 12) (h : EF t sz M0 M) {j : Nat} {x : Int32} (hj : j = 0 ∨ j = 1 ∨ j = 4 ∨ j = 7) : EF t sz M0 (sI M 21 j x) := by
  obtain ⟨h1, h2, h3, h4, h5⟩ := h
  refine ⟨fun k a b c d => by rw [rI_n a, h1 k a b c d], h2, fun q a b c d => by rw [rI_e, up_n (by omega), h3 q a b c d], fun q a => by rw [rI_n (by omega), h4 q a], fun k hk => by rw [rI_n (by omega), h5 k hk]⟩
theorem EF.w {t sz : Nat} {M0 M : gM} (ht : t = 3 ∨ t = 12) (h : EF t sz M0 M) {j : Nat} {x : Int32} : EF t sz M0 (sI M 22 j x) := by
  obtain ⟨h1, h2, h3, h4, h5⟩ := h
  refine ⟨fun k a b c d => by rw [rI_n b, h1 k a b c d], h2, fun q a b c d => by rw [rI_n (by decide), h3 q a b c d], fun q a => by rw [rI_n (by omega), h4 q a], fun k hk => by rw [rI_n (by omega), h5 k hk]⟩
theorem EF.e {t sz : Nat} {M0 M : gM} (ht : t = 3 ∨ t = 12) (h : EF t sz M0 M) {j : Nat} {x y : Int32} (hj : sz ≤ j) : EF t sz M0 (sI (sI M (t + 1) j x) t 8 y) := by
  obtain ⟨h1, h2, h3, h4, h5⟩ := h
  refine ⟨fun k a b c d => by rw [rI_n c, rI_n d, h1 k a b c d], h2, fun q a b c d => by rw [rI_n (by omega), rI_n (by omega), h3 q a b c d], fun q a => by rw [rI_e, up_n a, rI_n (by omega), h4 q a], fun k hk => by rw [rI_n (by omega), rI_e, up_n (by omega), h5 k hk]⟩
section
variable {tb : Nat → Nat} {n : Nat} {M M0 N N0 : gM}
theorem CT.c {J : Nat} (h : CT tb n J M) (e1 : N.1 24 = M.1 24) (e2 : N.1 25 = M.1 25) (e3 : N.2.1 26 = M.2.1 26) : CT tb n J N := by
  unfold CT
  rw [e1, e2, e3]
  exact h
theorem DT.c {J : Nat} (h : DT tb n J M) (e1 : N.1 2 = M.1 2) (e2 : N.1 3 = M.1 3) (e3 : N.1 4 = M.1 4) (e4 : N.2.1 5 = M.2.1 5) : DT tb n J N := by
  unfold DT
  rw [e1, e2, e3, e4]
  exact h
/-- how far the text is read, and what holds of it -/
def IX (tb : Nat → Nat) (n i : Nat) : Prop := n ≤ 2000 ∧ (∀ q, q < n → tb q < 256) ∧ i ≤ 400 ∧ ∀ j, j < i → kdT tb n j < 30
theorem ix_p : ∀ i, n ≤ 2000 → (∀ q, q < n → tb q < 256) → (∀ j, j < i → kdT tb n j < 30) → poT tb n i ≤ n ∧ i ≤ poT tb n i := by
  intro i h1 h2
  induction i with
  | zero => intro _; rw [poT]; omega
  | succ i ih =>
    intro h3
    obtain ⟨a, b⟩ := ih (fun j hj => h3 j (by omega))
    have s := st_n2 (tb := tb) (n := n) a
    have := (tk_r (tb := tb) (n := n) (s := stT tb n i) s.2 h2).2.1 (h3 i (by omega))
    have e : poT tb n (i + 1) = (tkT tb n (stT tb n i)).2.1 := rfl
    rw [e]
    have := s.1.1
    omega
variable {t i : Nat}
theorem IX.r (h : IX tb n i) : kdT tb n i ≤ 31 ∧ stT tb n i ≤ 2000 ∧ (kdT tb n i = 18 → 0 ≤ vlT tb n i ∧ vlT tb n i < 10000) := by
  obtain ⟨a, b⟩ := ix_p i h.1 h.2.1 h.2.2.2
  have s := st_n2 (tb := tb) (n := n) a
  have hk := tk_r (tb := tb) (n := n) (s := stT tb n i) s.2 h.2.1
  exact ⟨hk.1, by have := h.1; omega, hk.2.2.1⟩
theorem IX.s (h : IX tb n i) (hi : i < 400) (hk : kdT tb n i < 30) : IX tb n (i + 1) := ⟨h.1, h.2.1, by omega, fun j hj => by
  by_cases e : j = i
  · rw [e]; exact hk
  · exact h.2.2.2 j (by omega)⟩
theorem IX.lt (h : IX tb n i) (hk : kdT tb n i < 30) : stT tb n i < stT tb n (i + 1) := by
  obtain ⟨a, b⟩ := ix_p (tb := tb) (n := n) i h.1 h.2.1 h.2.2.2
  have s := st_n2 (tb := tb) (n := n) a
  have h1 := (tk_r (tb := tb) (n := n) (s := stT tb n i) s.2 h.2.1).2.1 hk
  have e : poT tb n (i + 1) = (tkT tb n (stT tb n i)).2.1 := rfl
  rw [← e] at h1
  have s2 := st_n2 (tb := tb) (n := n) h1.2.2
  have := s2.1.1
  omega
/-! the class -/
def CH (tb : Nat → Nat) (n t i : Nat) (M : gM) : Prop := (t = 3 ∨ t = 12) ∧ IX tb n i ∧ CT tb n 401 M ∧ M.2.2 21 6 = t ∧ M.1 21 4 = i3 (i : Int) ∧ M.1 21 1 = 0 ∧ M.1 21 0 = -1
theorem CH.kind (h : CH tb n t i M) : f_X1_kind M = some (i3 ((kdT tb n i : Nat) : Int), M) := by
  obtain ⟨ht, hi, hC, -, h4, -⟩ := h
  have := hi.2.2.1
  rw [f_X1_kind, h4, iL401, if_neg (by rw [i3_le (by omega) (by omega) (by omega) (by omega)]; omega), ck_ok (by omega) (by omega) (by omega), tn_n (by omega), (hC i (by omega) (by omega) hi.2.2.2).1]
theorem CH.value (h : CH tb n t i M) : f_X1_value M = some (M.2.1 26 i, M) := by
  obtain ⟨ht, hi, hC, -, h4, -⟩ := h
  have := hi.2.2.1
  rw [f_X1_value, h4, iL401, if_neg (by rw [i3_le (by omega) (by omega) (by omega) (by omega)]; omega), ck_ok (by omega) (by omega) (by omega), tn_n (by omega)]
theorem CH.fail (h : CH tb n t i M) {f : Int32} : f_X1_fail f M = some (false, sI (sI M 21 1 f) 21 0 (i3 ((stT tb n i : Nat) : Int))) := by
  obtain ⟨ht, hi, hC, -, h4, -⟩ := h
  have := hi.2.2.1
  have e4 : (sI M 21 1 f).1 21 4 = i3 (i : Int) := by rw [rI_e, up_n (by decide), h4]
  rw [f_X1_fail, g_m, e4, iL401, if_neg (by rw [i3_le (by omega) (by omega) (by omega) (by omega)]; omega), ck_ok (by omega) (by omega) (by omega), g_m, tn_n (by omega), rI_n (by decide), (hC i (by omega) (by omega) hi.2.2.2).2.1]
theorem CH.step (h : CH tb n t i M) (hi : i < 400) : f_X1_step M = some (true, sI M 21 4 (i3 ((i + 1 : Nat) : Int))) := by
  obtain ⟨ht, hi, hC, -, h4, -⟩ := h
  rw [f_X1_step, h4, iL400, if_pos (by rw [i3_lt (by omega) (by omega) (by omega) (by omega)]; omega), g_m, i3_s1]
  rfl
theorem CH.stepF (h : CH tb n t i M) (hi : ¬ i < 400) : f_X1_step M = some (false, sI (sI M 21 1 (i3 ((2 : Nat) : Int))) 21 0 (i3 ((stT tb n i : Nat) : Int))) := by
  have h4 := h.2.2.2.2.1
  have := h.2.1.2.2.1
  rw [f_X1_step, h4, iL400, if_neg (by rw [i3_lt (by omega) (by omega) (by omega) (by omega)]; omega), show (2 : Int32) = i3 ((2 : Nat) : Int) from rfl, h.fail, g_b_some]
theorem CH.or {β : Type} {k : Nat → Option β} (h : CH tb n t i M) : g_or 3 12 (M.2.2 21 6) k = k t := by rw [h.2.2.2.1, or_ok h.1]
theorem CH.nx (h : CH tb n t i M) (hi : i < 400) (hk : kdT tb n i < 30) : CH tb n t (i + 1) (sI M 21 4 (i3 ((i + 1 : Nat) : Int))) := by
  obtain ⟨ht, hx, hC, h6, h4, h1⟩ := h
  exact ⟨ht, hx.s hi hk, hC.c (by rw [rI_n (by decide)]) (by rw [rI_n (by decide)]) rfl, h6, by rw [rI_e, up_e], by rw [rI_e, up_n (by decide), h1.1], by rw [rI_e, up_n (by decide), h1.2]⟩
theorem CH.mv (h : CH tb n t i M) (e1 : N.1 24 = M.1 24) (e2 : N.1 25 = M.1 25) (e3 : N.2 = M.2) (e4 : N.1 21 4 = M.1 21 4) (e5 : N.1 21 1 = M.1 21 1) (e6 : N.1 21 0 = M.1 21 0 := by first | rfl | (rw [rI_e, up_n (by decide)]; done) | (rw [rI_n (by decide)]; done) | (rw [rI_n (by omega)]; done) | (rw [rI_n (by omega), rI_n (by omega)]; done) | (rw [rI_e, up_n (by decide), rI_n (by decide)]; done) | (simp (disch := first | decide | omega) only [*])) : CH tb n t i N := by
  obtain ⟨ht, hx, hC, h6, h4, h1⟩ := h
  exact ⟨ht, hx, hC.c e1 e2 (by rw [e3]), by rw [e3]; exact h6, by rw [e4, h4], by rw [e5, h1.1], by rw [e6, h1.2]⟩
/-- within a sum: what waits (O) and what was emitted (X) -/
def CS (tb : Nat → Nat) (n t sz : Nat) (M0 : gM) (i : Nat) (O : List Nat) (X : List Cw) (M : gM) : Prop := CH tb n t i M ∧ EF t sz M0 M ∧ (∀ o ∈ O, okO o) ∧ AO e1O (M.1 22) O ∧ M.1 21 7 = i3 (O.length : Int) ∧ M.1 t 8 = i3 ((sz + X.length : Nat) : Int) ∧ SG (M.1 (t + 1)) sz (X.map ec1)
variable {sz : Nat} {O : List Nat} {X : List Cw}
theorem CS.emit (h : CS tb n t sz M0 i O X M) (hs : sz + X.length < 800) {x : Cw} : ∃ M', f_X4_emit t (ec1 x) M = some ((), M') ∧ CS tb n t sz M0 i O (X ++ [x]) M' ∧ M'.1 22 = M.1 22 ∧ M'.1 21 = M.1 21 := by
  obtain ⟨hC, hE, hO, hA, h7, h8, hS⟩ := h
  have ht := hC.1
  refine ⟨sI (sI M (t + 1) (sz + X.length) (ec1 x)) t 8 (i3 ((sz + (X ++ [x]).length : Nat) : Int)), ?_, ⟨hC.mv ?_ ?_ rfl ?_ ?_, hE.e ht (by omega), hO, ?_, ?_, ?_, ?_⟩, ?_, ?_⟩
  · rw [f_X4_emit, h8, iL800, if_neg (by rw [i3_le (by omega) (by omega) (by omega) (by omega)]; omega), ck_ok (by omega) (by omega) (by omega), g_m, tn_n (by omega), g_m, rI_n (by omega), h8, i3_s1, List.length_append, List.length_singleton]
    rfl
  · rw [rI_n (by omega), rI_n (by omega)]
  · rw [rI_n (by omega), rI_n (by omega)]
  · rw [rI_n (by omega), rI_n (by omega)]
  · rw [rI_n (by omega), rI_n (by omega)]
  · rw [rI_n (by omega), rI_n (by omega)]; exact hA
  · rw [rI_n (by omega), rI_n (by omega)]; exact h7
  · rw [rI_e, up_e]
  · rw [rI_n (by omega), rI_e, List.map_append, SG_a, List.length_map]
    refine ⟨SG_c _ _ (fun k k1 k2 => ?_) hS, ?_, trivial⟩
    · rw [List.length_map] at k2
      rw [up_n (by omega)]
    · rw [up_e]
  · rw [rI_n (by omega), rI_n (by omega)]
  · rw [rI_n (by omega), rI_n (by omega)]
theorem CS.defer (h : CS tb n t sz M0 i O X M) (hl : O.length ≤ 400) {o : Nat} (ho : okO o) : ∃ M', f_X1_defer (e1O o) M = some ((), M') ∧ CS tb n t sz M0 i (o :: O) X M' := by
  obtain ⟨hC, hE, hO, hA, h7, h8, hS⟩ := h
  have ht := hC.1
  refine ⟨sI (sI M 22 O.length (e1O o)) 21 7 (i3 (((o :: O).length : Nat) : Int)), ?_, hC.mv ?_ ?_ rfl ?_ ?_, (hE.w ht).p ht (by omega), ?_, ?_, ?_, ?_, ?_⟩
  · rw [f_X1_defer, h7, iL401, if_neg (by rw [i3_le (by omega) (by omega) (by omega) (by omega)]; omega), ck_ok (by omega) (by omega) (by omega), g_m, tn_n (by omega), g_m, rI_n (by decide), h7, i3_s1, List.length_cons]
    rfl
  · rw [rI_n (by decide), rI_n (by decide)]
  · rw [rI_n (by decide), rI_n (by decide)]
  · rw [rI_e, up_n (by decide), rI_n (by decide)]
  · rw [rI_e, up_n (by decide), rI_n (by decide)]
  · intro q hq
    rcases List.mem_cons.1 hq with g | g
    · rw [g]; exact ho
    · exact hO q g
  · rw [rI_n (by decide), rI_e]
    exact ⟨by rw [up_e], AO_u O (Nat.le_refl _) hA⟩
  · rw [rI_e, up_e]
  · rw [rI_n (by omega), rI_n (by omega)]; exact h8
  · rw [rI_n (by omega), rI_n (by omega)]; exact hS
theorem CS.step (h : CS tb n t sz M0 i O X M) (hi : i < 400) (hk : kdT tb n i < 30) : CS tb n t sz M0 (i + 1) O X (sI M 21 4 (i3 ((i + 1 : Nat) : Int))) := by
  obtain ⟨hC, hE, hO, hA, h7, h8, hS⟩ := h
  have ht := hC.1
  exact ⟨hC.nx hi hk, hE.p ht (by omega), hO, by rw [rI_n (by decide)]; exact hA, by rw [rI_e, up_n (by decide)]; exact h7, by rw [rI_n (by omega)]; exact h8, by rw [rI_n (by omega)]; exact hS⟩
theorem cb_b {o : Nat} (ho : okO o) : (e1O o = 10 ↔ o = 0) ∧ (o ≠ 0 → f_X1_binding (e1O o) M = some (i3 ((rk o : Nat) : Int), M) ∧ ec1 (o, 0) = e1O o) := by
  have : o = 0 ∨ o = 2 ∨ o = 3 ∨ o = 4 ∨ o = 5 ∨ o = 6 := by unfold okO at ho; omega
  rcases this with g | g | g | g | g | g <;> subst g
  · exact ⟨⟨fun _ => rfl, fun _ => rfl⟩, fun g => absurd rfl g⟩
  all_goals exact ⟨⟨fun g => absurd g (by decide), fun g => absurd g (by decide)⟩, fun _ => ⟨rfl, rfl⟩⟩
theorem c_unw7 {a : Int32} {r b : Nat} (hb : ∀ M, f_X1_binding a M = some (i3 (b : Int), M)) (hrb : 1 ≤ r ∧ r ≤ 3 ∧ (b = r ∨ (b = 0 ∧ r = 1))) : ∀ (O : List Nat) (X : List Cw) (m : Nat) (M : gM), CS tb n t sz M0 i O X M → sz + X.length + O.length < 800 → O.length ≤ 400 → O.length < m → wp (f_X1_unwind_7 m a (i3 ((O.length : Int) - 1)) M) (fun _ M' => CS tb n t sz M0 i (unw r O X).1 (unw r O X).2 M') := by
  intro O
  induction O with
  | nil =>
    intro X m M h h1 h2 h3
    cases m with
    | zero => simp at h3
    | succ m =>
      rw [f_X1_unwind_7, if_pos (by decide), wp_some]
      exact h
  | cons o O ih =>
    intro X m M h h1 h2 h3
    rw [List.length_cons] at h1 h2 h3
    cases m with
    | zero => omega
    | succ m =>
      obtain ⟨hC, hE, hO, hA, h7, h8, hS⟩ := id h
      have ho := hO o List.mem_cons_self
      obtain ⟨cb1, cb2⟩ := cb_b (M := M) ho
      rw [f_X1_unwind_7, List.length_cons, show ((O.length + 1 : Nat) : Int) - 1 = (O.length : Int) by omega, if_neg (by rw [iL0, i3_lt (by omega) (by omega) (by omega) (by omega)]; omega), iL401, if_neg (by rw [i3_le (by omega) (by omega) (by omega) (by omega)]; omega), ck_ok (by omega) (by omega) (by omega), wp_v, tn_n (by omega), hA.1]
      by_cases e0 : o = 0
      · rw [if_pos (cb1.2 e0), wp_some]
        subst e0
        rw [unw, if_neg (by have : rk 0 = 0 := rfl; omega)]
        exact h
      · rw [if_neg (fun g => e0 (cb1.1 g)), (cb2 e0).1, g_b_some, hb, g_b_some]
        have hrk : rk o ≤ 3 := by
          have : o = 2 ∨ o = 3 ∨ o = 4 ∨ o = 5 ∨ o = 6 := by unfold okO at ho; omega
          rcases this with g | g | g | g | g <;> subst g <;> decide
        have hrk1 : 1 ≤ rk o := by
          have : o = 2 ∨ o = 3 ∨ o = 4 ∨ o = 5 ∨ o = 6 := by unfold okO at ho; omega
          rcases this with g | g | g | g | g <;> subst g <;> decide
        simp (disch := omega) only [i3_le]
        refine wp_if (fun g => ?_) (fun g => ?_)
        · rw [hC.or, ← (cb2 e0).2]
          obtain ⟨M1, q1, q2, q3, q4⟩ := h.emit (by omega) (x := (o, 0))
          rw [q1, g_b_some, wp_m, unw, if_pos (by omega), show i3 (O.length : Int) + (-1) = i3 ((O.length : Int) - 1) by rw [show ((-1) : Int32) = i3 (-1) from rfl, i3_add]; rfl]
          refine ih (X ++ [(o, 0)]) m (sI M1 21 7 (i3 (O.length : Int))) ?_ (by rw [List.length_append, List.length_singleton]; omega) (by omega) (by omega)
          obtain ⟨hC1, hE1, hO1, hA1, h71, h81, hS1⟩ := q2
          have ht := hC1.1
          exact ⟨hC1.mv (by rw [rI_n (by decide)]) (by rw [rI_n (by decide)]) rfl (by rw [rI_e, up_n (by decide)]) (by rw [rI_e, up_n (by decide)]), hE1.p ht (by omega), fun q hq => hO q (List.mem_cons_of_mem _ hq), by rw [rI_n (by decide)]; exact hA1.2, by rw [rI_e, up_e], by rw [rI_n (by omega)]; exact h81, by rw [rI_n (by omega)]; exact hS1⟩
        · rw [wp_some, unw, if_neg (by omega)]
          exact h
theorem CS.unw (h : CS tb n t sz M0 i O X M) {a : Int32} {r b : Nat} (hb : ∀ M, f_X1_binding a M = some (i3 (b : Int), M)) (hrb : 1 ≤ r ∧ r ≤ 3 ∧ (b = r ∨ (b = 0 ∧ r = 1))) (h1 : sz + X.length + O.length < 800) (h2 : O.length ≤ 400) : wp (f_X1_unwind a M) (fun _ M' => CS tb n t sz M0 i (unw r O X).1 (unw r O X).2 M') := by
  have h7 := h.2.2.2.2.1
  rw [f_X1_unwind, h7, wp_v, iL1, i3_sub]
  exact c_unw7 hb hrb O X FU M h h1 h2 (by rw [FU_s]; omega)
theorem CS.pop {o : Nat} (h : CS tb n t sz M0 i (o :: O) X M) : CS tb n t sz M0 i O X (sI M 21 7 (i3 (O.length : Int))) := by
  obtain ⟨hC, hE, hO, hA, h7, h8, hS⟩ := h
  have ht := hC.1
  exact ⟨hC.mv (by rw [rI_n (by decide)]) (by rw [rI_n (by decide)]) rfl (by rw [rI_e, up_n (by decide)]) (by rw [rI_e, up_n (by decide)]), hE.p ht (by omega), fun q hq => hO q (List.mem_cons_of_mem _ hq), by rw [rI_n (by decide)]; exact hA.2, by rw [rI_e, up_e], by rw [rI_n (by omega)]; exact h8, by rw [rI_n (by omega)]; exact hS⟩
end
