/-! ===== both parsers side by side: sums ===== -/
def w2 {α β : Type} (o1 : Option (α × gM)) (o2 : Option (β × gM)) (Q : α → gM → β → gM → Prop) : Prop := wp o1 (fun r1 M1 => wp o2 (fun r2 M2 => Q r1 M1 r2 M2))
theorem w2_s {α β : Type} {a : α} {b : β} {M N : gM} {Q : α → gM → β → gM → Prop} : w2 (some (a, M)) (some (b, N)) Q = Q a M b N := by unfold w2; rw [wp_some, wp_some]
theorem w2_i {α β : Type} {o1 : Option (α × gM)} {o2 : Option (β × gM)} {P Q : α → gM → β → gM → Prop} (h : w2 o1 o2 P) (hk : ∀ a M b N, P a M b N → Q a M b N) : w2 o1 o2 Q := wp_mono h (fun a M h => wp_mono h (fun b N h => hk a M b N h))
theorem w2_b {α β γ δ : Type} {o1 : Option (α × gM)} {o2 : Option (β × gM)} {k1 : α → gM → Option (γ × gM)} {k2 : β → gM → Option (δ × gM)} {Q : γ → gM → δ → gM → Prop} (P : α → gM → β → gM → Prop) (h : w2 o1 o2 P) (hk : ∀ a M b N, P a M b N → w2 (k1 a M) (k2 b N) Q) : w2 (g_b o1 k1) (g_b o2 k2) Q := by
  obtain ⟨a, M, rfl, b, N, rfl, hp⟩ := h
  exact hk a M b N hp
theorem w2_l {α β γ : Type} {o1 : Option (α × gM)} {o2 : Option (β × gM)} {k1 : α → gM → Option (γ × gM)} {Q : γ → gM → β → gM → Prop} (P : α → gM → Prop) (h : wp o1 P) (hk : ∀ a M, P a M → w2 (k1 a M) o2 Q) : w2 (g_b o1 k1) o2 Q := by
  obtain ⟨a, M, rfl, hp⟩ := h
  exact hk a M hp
theorem w2_r {α β γ : Type} {o1 : Option (α × gM)} {o2 : Option (β × gM)} {k2 : β → gM → Option (γ × gM)} {Q : α → gM → γ → gM → Prop} (P : β → gM → Prop) (h : wp o2 P) (hk : ∀ b N, P b N → w2 o1 (k2 b N) Q) : w2 o1 (g_b o2 k2) Q := by
  obtain ⟨b, N, rfl, hp⟩ := h
  exact hk b N hp
theorem w2_ml {α β : Type} {M : gM} {k : gM → Option (α × gM)} {o2 : Option (β × gM)} {Q : α → gM → β → gM → Prop} : w2 (g_m M k) o2 Q = w2 (k M) o2 Q := rfl
theorem w2_mr {α β : Type} {M : gM} {k : gM → Option (β × gM)} {o1 : Option (α × gM)} {Q : α → gM → β → gM → Prop} : w2 o1 (g_m M k) Q = w2 o1 (k M) Q := rfl
theorem w2_vl {α β γ : Type} {x : γ} {k : γ → Option (α × gM)} {o2 : Option (β × gM)} {Q : α → gM → β → gM → Prop} : w2 (g_v x k) o2 Q = w2 (k x) o2 Q := rfl
theorem w2_vr {α β γ : Type} {x : γ} {k : γ → Option (β × gM)} {o1 : Option (α × gM)} {Q : α → gM → β → gM → Prop} : w2 o1 (g_v x k) Q = w2 o1 (k x) Q := rfl
/-! what waits, counted -/
def bn : List Nat → Nat
  | [] => 0
  | o :: O => (if 2 ≤ o ∧ o ≤ 5 then 1 else 0) + bn O
def brc : List Nat → Nat
  | [] => 0
  | o :: O => (if o = 0 then 1 else 0) + brc O
def hdr : List Nat → Nat
  | [] => 0
  | o :: _ => rk o
def trk : List Nat → Nat
  | [] => 0
  | o :: O => if o = 6 then trk O else rk o
def SO : List Nat → Prop
  | [] => True
  | o :: O => SO O ∧ okO o ∧ (2 ≤ o → o ≤ 5 → hdr O < rk o)
theorem ok_c {o : Nat} (ho : okO o) : (o = 0 ∧ rk o = 0) ∨ (o = 6 ∧ rk o = 3) ∨ (2 ≤ o ∧ o ≤ 5 ∧ 1 ≤ rk o ∧ rk o ≤ 2) := by
  have : o = 0 ∨ o = 2 ∨ o = 3 ∨ o = 4 ∨ o = 5 ∨ o = 6 := by unfold okO at ho; omega
  rcases this with g | g | g | g | g | g <;> subst g <;> decide
theorem so_b : ∀ O, SO O → bn O ≤ 2 * brc O + trk O ∧ trk O ≤ 2 ∧ (hdr O < 3 → trk O = hdr O) := by
  intro O
  induction O with
  | nil => intro _; exact ⟨by rw [bn]; omega, by rw [trk]; omega, fun _ => rfl⟩
  | cons o O ih =>
    intro h
    obtain ⟨h1, h2, h3⟩ := ih h.1
    rw [bn, brc, trk, hdr]
    rcases ok_c h.2.1 with ⟨e, r⟩ | ⟨e, r⟩ | ⟨e1, e2, r1, r2⟩
    · subst e
      simp
      omega
    · subst e
      simp
      omega
    · have := h.2.2 e1 e2
      rw [if_pos ⟨e1, e2⟩, if_neg (by omega), if_neg (by omega)]
      have := h3 (by omega)
      omega
theorem so_u {r : Nat} (hr : 1 ≤ r ∧ r ≤ 3) : ∀ (O : List Nat) (X : List Cw), SO O → dF 15 X 0 (bn O + 1) → SO (unw r O X).1 ∧ dF 15 (unw r O X).2 0 (bn (unw r O X).1 + 1) ∧ hdr (unw r O X).1 < r ∧ brc (unw r O X).1 = brc O := by
  intro O
  induction O with
  | nil => intro X h1 h2; exact ⟨trivial, h2, by rw [unw]; show 0 < r; omega, rfl⟩
  | cons o O ih =>
    intro X h1 h2
    rw [unw]
    split
    · next g =>
      rw [bn] at h2
      rcases ok_c h1.2.1 with ⟨e, r⟩ | ⟨e, r⟩ | ⟨e1, e2, r1, r2⟩
      · omega
      · subst e
        rw [if_neg (by omega), Nat.zero_add] at h2
        have := ih (X ++ [(6, 0)]) h1.1 (dF_a X 0 _ _ _ h2 ⟨⟨by decide, by decide, by decide, fun g => absurd g (by decide), fun _ => rfl⟩, fun g => absurd g (by decide), fun _ => ⟨by omega, rfl⟩, fun _ g => absurd rfl g⟩)
        rw [brc, if_neg (by decide), Nat.zero_add]
        exact this
      · rw [if_pos ⟨e1, e2⟩] at h2
        have := ih (X ++ [(o, 0)]) h1.1 (dF_a X 0 _ _ _ h2 ⟨⟨by show o ≤ 6; omega, Int.le_refl _, by show (0 : Int) < 10000; omega, fun _ => by show (0 : Int) < 6; omega, fun _ => rfl⟩, fun g => by have g : o < 2 := g; omega, fun g => by have g : o = 6 := g; omega, fun _ _ => ⟨by omega, by rw [dF]; omega⟩⟩)
        rw [brc, if_neg (by omega), Nat.zero_add]
        exact this
    · next g => exact ⟨h1, h2, by rw [hdr]; omega, rfl⟩
theorem so_1 {O : List Nat} {X : List Cw} (h1 : SO O) (h2 : dF 15 X 0 (bn O + 1)) : (brc O = 0 → (unw 1 O X).1 = [] ∧ dF 15 (unw 1 O X).2 0 1) ∧ (0 < brc O → ∃ O', (unw 1 O X).1 = 0 :: O' ∧ SO O' ∧ dF 15 (unw 1 O X).2 0 (bn O' + 1) ∧ brc O' + 1 = brc O) := by
  obtain ⟨a, b, c, d⟩ := so_u (r := 1) (by omega) O X h1 h2
  generalize (unw 1 O X).2 = Y at *
  cases hO : (unw 1 O X).1 with
  | nil =>
    rw [hO] at a b c d
    refine ⟨fun _ => ⟨rfl, b⟩, fun g => ?_⟩
    rw [brc] at d
    omega
  | cons o O' =>
    rw [hO] at a b c d
    have e : o = 0 := by
      rw [hdr] at c
      rcases ok_c a.2.1 with ⟨e, r⟩ | ⟨e, r⟩ | ⟨e1, e2, r1, r2⟩
      · exact e
      · omega
      · omega
    subst e
    rw [brc, if_pos rfl] at d
    rw [bn, if_neg (by omega), Nat.zero_add] at b
    exact ⟨fun g => by omega, fun _ => ⟨O', rfl, a.1, b, by omega⟩⟩
theorem n10 : ¬ (1 : Int32) = 0 := by decide
theorem nT0 : ¬ b2i true = 0 := by decide
theorem eF0 : b2i false = 0 := rfl
theorem nFT : ¬ (false = true) := by decide
theorem tTT : true = true := rfl
/-! a sum ends, or a FAULT is told -/
def FL (M N : gM) : Prop := ∃ f p : Nat, (f = 1 ∨ f = 2) ∧ p ≤ 2000 ∧ M.1 21 1 = i3 (f : Int) ∧ N.1 0 9 = i3 (f : Int) ∧ M.1 21 0 = i3 (p : Int) ∧ N.1 0 10 = i3 (p : Int)
section
variable {tb : Nat → Nat} {n t h sz c i i0 : Nat} {M M0 N N0 : gM} {O : List Nat} {X : List Cw}
def xQ (tb : Nat → Nat) (n t h sz c i0 : Nat) (M0 N0 : gM) (r1 : Bool) (M : gM) (r2 : Bool) (N : gM) : Prop := r1 = r2 ∧ EF t sz M0 M ∧ EG h c 200 N0 N ∧ N.1 31 = N0.1 31 ∧ (r1 = false → FL M N) ∧ (r1 = true → ∃ i' X, i0 < i' ∧ dF 15 X 0 1 ∧ X.length ≤ i' - i0 ∧ CS tb n t sz M0 i' [] X M ∧ DS tb n h c N0 i' [] X N)
theorem FL_m {f : Nat} (hf : f = 1 ∨ f = 2) (hC : CH tb n t i M) : FL (sI (sI M 21 1 (i3 (f : Int))) 21 0 (i3 ((stT tb n i : Nat) : Int))) (sI (sI N 0 9 (i3 (f : Int))) 0 10 (i3 ((stT tb n i : Nat) : Int))) := ⟨f, stT tb n i, hf, hC.2.1.r.2.1, by rw [rI_e, up_n (by decide), rI_e, up_e], by rw [rI_e, up_n (by decide), rI_e, up_e], by rw [rI_e, up_e], by rw [rI_e, up_e]⟩
theorem xq_f {f : Nat} (hf : f = 1 ∨ f = 2) {O2 : List Nat} {X2 : List Cw} (hC : CS tb n t sz M0 i O X M) (hD : DS tb n h c N0 i O2 X2 N) : xQ tb n t h sz c i0 M0 N0 false (sI (sI M 21 1 (i3 (f : Int))) 21 0 (i3 ((stT tb n i : Nat) : Int))) false (sI (sI N 0 9 (i3 (f : Int))) 0 10 (i3 ((stT tb n i : Nat) : Int))) := ⟨rfl, (hC.2.1.p hC.1.1 (by omega)).p hC.1.1 (by omega), (hD.2.1.o (by omega)).o (by omega), by rw [rI_n (by decide), rI_n (by decide)]; exact hD.2.2.1.1, fun _ => FL_m hf hC.1, fun g => by cases g⟩
theorem x_step {O2 : List Nat} {X2 : List Cw} (hC : CS tb n t sz M0 i O X M) (hD : DS tb n h c N0 i O2 X2 N) (hk : kdT tb n i < 30) {k1 k2 : gM → Option (Bool × gM)} (hK : ∀ M' N', i < 400 → CS tb n t sz M0 (i + 1) O X M' → DS tb n h c N0 (i + 1) O2 X2 N' → w2 (k1 M') (k2 N') (xQ tb n t h sz c i0 M0 N0)) : w2 (g_b (f_X1_step M) (fun r M' => if r then k1 M' else some (false, M'))) (g_b (f_X10_pass N) (fun r N' => if r then k2 N' else some (false, N'))) (xQ tb n t h sz c i0 M0 N0) := by
  by_cases hi : i < 400
  · rw [hC.1.step hi, hD.1.pass hi, g_b_some, g_b_some, if_pos rfl, if_pos rfl]
    exact hK _ _ hi (hC.step hi hk) (hD.st hi hk)
  · rw [hC.1.stepF hi, hD.1.passF hi, g_b_some, g_b_some, if_neg (by decide), if_neg (by decide), w2_s]
    exact xq_f (Or.inr rfl) hC hD
theorem va_of : ∀ k : Nat, k < 17 → f_X10_variableOf (i3 (rwT k)) N = some (i3 (if k < 6 then (k : Int) else -1), N) := by
  intro k hk
  have : k = 0 ∨ k = 1 ∨ k = 2 ∨ k = 3 ∨ k = 4 ∨ k = 5 ∨ k = 6 ∨ k = 7 ∨ k = 8 ∨ k = 9 ∨ k = 10 ∨ k = 11 ∨ k = 12 ∨ k = 13 ∨ k = 14 ∨ k = 15 ∨ k = 16 := by omega
  rcases this with g | g | g | g | g | g | g | g | g | g | g | g | g | g | g | g | g <;> subst g <;> rfl
/-- one word is laid -/
theorem x_unit {x : Cw} {m x1 : Nat} {x3 : Int32} {v : Int32} (hC : CS tb n t sz M0 i O X M) (hD : DS tb n h c N0 i O X N) (hk : kdT tb n i < 30) (h1 : sz + X.length + O.length < 799) (h2 : c + X.length + O.length < 499) (hv : x.1 < 2 → v = i3 x.2) {k208 : gM → Option (Bool × gM)} (he : f_X1_emitUnit (i3 ((kdT tb n i : Nat) : Int)) M = g_b (f_X4_emit t (ec1 x) M) (fun _ M2 => some ((), M2))) {k1 k24 : gM → Option (Bool × gM)}
    (hK : ∀ M' N', i < 400 → CS tb n t sz M0 (i + 1) O (X ++ [x]) M' → DS tb n h c N0 (i + 1) (unw 3 O (X ++ [x])).1 (unw 3 O (X ++ [x])).2 N' → w2 (k1 M') (k24 N') (xQ tb n t h sz c i0 M0 N0)) :
    w2 (g_b (f_X1_emitUnit (i3 ((kdT tb n i : Nat) : Int)) M) (fun _ M28 => g_b (f_X1_step M28) (fun r M' => if r then k1 M' else some (false, M')))) (g_b (f_X10_emit (i3 (x.1 : Int)) v N) (fun _ M44 => g_b (f_X10_pass M44) (fun r47 M46 => if r47 then g_b (f_X10_reduce 3 0 M46) (fun _ M48 => k24 M48) else some (false, M46)))) (xQ tb n t h sz c i0 M0 N0) := by
  obtain ⟨M1, a1, a2, -, -⟩ := hC.emit (by omega) (x := x)
  obtain ⟨N1, b1, b2⟩ := hD.emit (by omega) (x := x) (v := v) hv
  rw [he, a1, g_b_some, g_b_some, b1, g_b_some]
  refine x_step a2 b2 hk (fun M' N' hi hM hN => ?_)
  have := hN.red (r := 3) (by omega) (by rw [List.length_append, List.length_singleton]; omega)
  rw [show (3 : Int32) = i3 ((3 : Nat) : Int) from rfl]
  exact w2_r _ this (fun _ N2 hN2 => hK M' N2 hi hM hN2)
theorem bi_b {o : Nat} (ho : 2 ≤ o ∧ o ≤ 5) : ∀ M : gM, f_X1_binding (e1O o) M = some (i3 ((rk o : Nat) : Int), M) := by
  intro M
  have : o = 2 ∨ o = 3 ∨ o = 4 ∨ o = 5 := by omega
  rcases this with g | g | g | g <;> subst g <;> rfl
theorem x_loop (hsz : sz ≤ i0 + 1) (hc : c ≤ i0) : ∀ (k n1 m1 i : Nat) (op : Nat) (nd : Bool) (st : Nat) (O : List Nat) (X : List Cw) (M N : gM), i + k = 401 → k < n1 → k + 1 < m1 → i0 ≤ i → st ≤ i → CS tb n t sz M0 i O X M → (nd = true → DS tb n h c N0 i O X N) → (nd = false → i0 < i ∧ DS tb n h c N0 i (unw 3 O X).1 (unw 3 O X).2 N) → SO O → brc O = op → op ≤ 6 → dF 15 X 0 (bn O + (if nd then 0 else 1)) → X.length + O.length ≤ i - i0 → w2 (f_X1_expression_11 n1 (i3 (op : Int)) (b2i nd) (i3 (st : Int)) M) (f_X10_expr_24 m1 (i3 (op : Int)) (b2i nd) 1 N) (xQ tb n t h sz c i0 M0 N0) := by
  intro k
  induction k with
  | zero =>
    intro n1 m1 i op nd st O X M N h1 h2 h3 h4 h5 hC
    have := hC.1.2.1.2.2.1
    omega
  | succ k ih =>
    intro n1 m1 i op nd st O X M N h1 h2 h3 h4 h5 hC hDt hDf hSO hbr hop hdF hlen
    have hi4 := hC.1.2.1.2.2.1
    have hkk := hC.1.2.1.r
    cases n1 with
    | zero => omega
    | succ n1 =>
    cases m1 with
    | zero => omega
    | succ m1 =>
    rw [f_X1_expression_11, iL400, if_neg (by rw [i3_lt (by omega) (by omega) (by omega) (by omega)]; omega), hC.1.kind, g_b_some, f_X10_expr_24, if_neg n10]
    have hk31 := hkk.1
    cases nd with
    | true =>
      have hD := hDt rfl
      have sg := fun q (hq : 19 ≤ q ∧ q ≤ 29) => hD.1.sign hq
      have sE : ∀ M' : gM, f_X1_expression_208 (f_X1_expression_11 n1) (i3 (op : Int)) (b2i true) (i3 (st : Int)) M' = g_b (f_X1_step M') (fun r M'' => if r then f_X1_expression_11 n1 (i3 (op : Int)) (b2i true) (i3 ((st : Int) + 1)) M'' else some (false, M'')) := fun M' => by rw [f_X1_expression_208, i3_s1]
      rw [if_neg nT0, if_neg nT0, show (45 : Int32) = i3 (rwT 21) from rfl, sg 21 (by omega), g_b_some, show (40 : Int32) = i3 (rwT 28) from rfl]
      rw [if_pos rfl] at hdF
      by_cases k21 : kdT tb n i = 21
      · -- a minus
        rw [decide_eq_true k21, if_pos tTT, k21, if_neg (show ¬ i3 ((21 : Nat) : Int) = 18 by decide), if_pos (show (6 : Int32) ≤ i3 ((21 : Nat) : Int) by decide), f_X1_expression_53, if_neg nT0, if_pos (show i3 ((21 : Nat) : Int) = 21 from rfl)]
        obtain ⟨M1, a1, a2⟩ := hC.defer (o := 6) (by omega) (Or.inr ⟨by omega, by omega⟩)
        rw [show (2 : Int32) = e1O 6 from rfl, a1, g_b_some, sE]
        refine x_step a2 hD (by omega) (fun M' N' hi hM hN => ?_)
        obtain ⟨N1, b1, b2⟩ := hN.await (o := 6) (by omega) (Or.inr ⟨by omega, by omega⟩)
        rw [show (6 : Int32) = e2O 6 from rfl, b1, g_b_some]
        refine ih n1 m1 (i + 1) op true (st + 1) (6 :: O) X M' N1 (by omega) (by omega) (by omega) (by omega) (by omega) hM (fun _ => b2) (fun g => by cases g) ⟨hSO, Or.inr ⟨by omega, by omega⟩, fun _ g => by omega⟩ (by rw [brc, if_neg (by decide), Nat.zero_add]; exact hbr) hop (by rw [bn, if_neg (by omega), Nat.zero_add, if_pos rfl]; exact hdF) (by rw [List.length_cons]; omega)
      rw [decide_eq_false k21, if_neg (show ¬ (false = true) by decide), sg 28 (by omega), g_b_some]
      by_cases k28 : kdT tb n i = 28
      · rw [decide_eq_true k28, if_pos tTT, k28, if_neg (show ¬ i3 ((28 : Nat) : Int) = 18 by decide), if_pos (show (6 : Int32) ≤ i3 ((28 : Nat) : Int) by decide), f_X1_expression_53, if_neg nT0, if_neg (show ¬ i3 ((28 : Nat) : Int) = 21 by decide), f_X1_expression_72, if_neg nT0, if_pos (show i3 ((28 : Nat) : Int) = 28 from rfl), iL6]
        by_cases g6 : op = 6
        · subst g6
          rw [if_neg (show ¬ i3 ((6 : Nat) : Int) < i3 6 by decide), if_pos (show i3 ((6 : Nat) : Int) = i3 6 from rfl), show (2 : Int32) = i3 ((2 : Nat) : Int) from rfl, hC.1.fail, g_b_some, hD.1.wrong, g_b_some, w2_s]
          exact xq_f (Or.inr rfl) hC hD
        · rw [if_pos (by rw [i3_lt (by omega) (by omega) (by omega) (by omega)]; omega), if_neg (by rw [i3_eq (by omega) (by omega) (by omega) (by omega)]; omega)]
          obtain ⟨M1, a1, a2⟩ := hC.defer (o := 0) (by omega) (Or.inl rfl)
          rw [show (10 : Int32) = e1O 0 from rfl, a1, g_b_some, f_X1_expression_208, i3_s1, i3_s1]
          refine x_step a2 hD (by omega) (fun M' N' hi hM hN => ?_)
          obtain ⟨N1, b1, b2⟩ := hN.await (o := 0) (by omega) (Or.inl rfl)
          rw [show (0 : Int32) = e2O 0 from rfl, b1, g_b_some]
          exact ih n1 m1 (i + 1) (op + 1) true (st + 1) (0 :: O) X M' N1 (by omega) (by omega) (by omega) (by omega) (by omega) hM (fun _ => b2) (fun g => by cases g) ⟨hSO, Or.inl rfl, fun g => by omega⟩ (by rw [brc, if_pos rfl]; omega) (by omega) (by rw [bn, if_neg (by omega), Nat.zero_add, if_pos rfl]; exact hdF) (by rw [List.length_cons]; omega)
      rw [decide_eq_false k28, if_neg (show ¬ (false = true) by decide)]
      obtain ⟨hh, hix, hDT, h14, h8, h9⟩ := id hD.1
      obtain ⟨d1, d2, d3, d4, d5⟩ := hDT i (by omega) (by omega) hix.2.2.2
      have rr := rs_r (kdT tb n i) (by omega)
      have ck8 : ∀ {β : Type} (o : Option β), g_ck (N.1 0 8) 2001 o = o := fun o => by rw [h8, ck_ok (by omega) (by omega) (by omega)]
      have t8 : tn (N.1 0 8) = i := by rw [h8, tn_n (by omega)]
      rw [ck8, t8, d1, iL3]
      have hunw := fun x : Cw => so_u (r := 3) (by omega) O (X ++ [x]) hSO
      have hb := so_b O hSO
      -- a unit is laid on both sides
      have unit : ∀ (x : Cw) (v : Int32), okW x → x.1 < 2 → v = i3 x.2 → kdT tb n i < 30 → f_X1_emitUnit (i3 ((kdT tb n i : Nat) : Int)) M = g_b (f_X4_emit t (ec1 x) M) (fun _ M2 => some ((), M2)) → w2 (f_X1_expression_42 (f_X1_expression_208 (f_X1_expression_11 n1)) (i3 (op : Int)) (i3 (st : Int)) (i3 ((kdT tb n i : Nat) : Int)) M) (f_X10_expr_185 (f_X10_expr_24 m1) (i3 (op : Int)) 1 (i3 (x.1 : Int)) v N) (xQ tb n t h sz c i0 M0 N0) := by
        intro x v ho hx hv hk30 he
        rw [f_X1_expression_42, f_X10_expr_185]
        have e208 : ∀ M28 : gM, f_X1_expression_208 (f_X1_expression_11 n1) (i3 (op : Int)) 0 (i3 (st : Int)) M28 = g_b (f_X1_step M28) (fun r M' => if r then f_X1_expression_11 n1 (i3 (op : Int)) (b2i false) (i3 ((st + 1 : Nat) : Int)) M' else some (false, M')) := fun M28 => by rw [f_X1_expression_208, i3_s1]; rfl
        simp only [e208]
        refine x_unit (m := 0) (x1 := 0) (x3 := 0) (k208 := fun M => none) (x := x) hC hD hk30 (by omega) (by omega) (fun _ => hv) he (fun M' N' hi hM hN => ?_)
        have hd1 : dF 15 (X ++ [x]) 0 (bn O + 1) := dF_a X 0 _ _ _ hdF ⟨ho, fun _ => ⟨by omega, rfl⟩, fun g => by omega, fun g => by omega⟩
        exact ih n1 m1 (i + 1) op false (st + 1) O (X ++ [x]) M' N' (by omega) (by omega) (by omega) (by omega) (by omega) hM (fun g => by cases g) (fun _ => ⟨by omega, hN⟩) hSO hbr hop hd1 (by rw [List.length_append, List.length_singleton]; omega)
      by_cases k18 : kdT tb n i = 18
      · have hv := hkk.2.2 k18
        have hcv := (hC.1.2.2.1 i (by omega) (by omega) hix.2.2.2).2.2 (by omega)
        have h4 := d3 k18
        have he : f_X1_emitUnit (i3 ((kdT tb n i : Nat) : Int)) M = g_b (f_X4_emit t (ec1 (0, vlT tb n i)) M) (fun _ M2 => some ((), M2)) := by
          rw [f_X1_emitUnit, k18, if_pos (by decide), hC.1.or, hC.1.value, g_b_some, hcv, i6_32, iL16, i3_mul, iL0, i3_add]
          rfl
        have := unit (0, vlT tb n i) (i3 (vlT tb n i)) ⟨by show 0 ≤ 6; omega, hv.1, hv.2, fun g => absurd g (show ¬ 0 = 1 by decide), fun g => absurd g (show ¬ 2 ≤ 0 by decide)⟩ (by show 0 < 2; omega) rfl (by omega) he
        rw [if_neg (show ¬ i3 (rsT (kdT tb n i)) = i3 3 by rw [k18]; decide), f_X10_expr_129, ck8, t8, d1, if_pos (show i3 (rsT (kdT tb n i)) = 1 by rw [k18]; rfl), f_X10_expr_155, if_neg (show ¬ (0 : Int32) ≤ -1 by decide), f_X10_expr_166, if_neg (show ¬ (0 : Int32) ≤ -1 by decide), ck8, t8, h4, if_pos (show i3 ((kdT tb n i : Nat) : Int) = 18 by rw [k18]; rfl)]
        exact this
      by_cases k6 : kdT tb n i < 6
      · have hrs : rsT (kdT tb n i) = 3 := (rs_3 _ (by omega)).2 (by omega)
        have h0k : (0 : Int32) ≤ i3 ((kdT tb n i : Nat) : Int) := by rw [iL0, i3_le (by omega) (by omega) (by omega) (by omega)]; omega
        have he : f_X1_emitUnit (i3 ((kdT tb n i : Nat) : Int)) M = g_b (f_X4_emit t (ec1 (1, (kdT tb n i : Int))) M) (fun _ M2 => some ((), M2)) := by
          rw [f_X1_emitUnit, if_neg (by rw [show (18 : Int32) = i3 18 from rfl, i3_eq (by omega) (by omega) (by omega) (by omega)]; omega), hC.1.or, iL16, i3_mul, iL1, i3_add]
          rfl
        have := unit (1, (kdT tb n i : Int)) (i3 (kdT tb n i : Int)) ⟨by show 1 ≤ 6; omega, by show (0 : Int) ≤ (kdT tb n i : Int); omega, by show (kdT tb n i : Int) < 10000; omega, fun _ => (by show (kdT tb n i : Int) < 6; omega), fun g => absurd g (show ¬ 2 ≤ 1 by decide)⟩ (by show 1 < 2; omega) rfl (by omega) he
        rw [if_pos (show i3 (rsT (kdT tb n i)) = i3 3 by rw [hrs]), ck8, d4 (by omega) (by omega), va_of _ (by omega), g_b_some, if_pos k6, f_X10_expr_129, ck8, t8, d1, if_neg (show ¬ i3 (rsT (kdT tb n i)) = 1 by rw [hrs]; decide), if_pos h0k, f_X10_expr_155, if_pos h0k, f_X10_expr_166, if_pos h0k, if_neg (by rw [show (18 : Int32) = i3 18 from rfl, i3_eq (by omega) (by omega) (by omega) (by omega)]; omega), if_neg (by rw [iL6, i3_le (by omega) (by omega) (by omega) (by omega)]; omega)]
        exact this
      · -- nothing that fits
        have hw : f_X10_wrong 1 N = some (false, sI (sI N 0 9 (i3 ((1 : Nat) : Int))) 0 10 (i3 ((stT tb n i : Nat) : Int))) := by rw [show (1 : Int32) = i3 ((1 : Nat) : Int) from rfl]; exact hD.1.wrong
        have hf : f_X1_fail 1 M = some (false, sI (sI M 21 1 (i3 ((1 : Nat) : Int))) 21 0 (i3 ((stT tb n i : Nat) : Int))) := by rw [show (1 : Int32) = i3 ((1 : Nat) : Int) from rfl]; exact hC.1.fail
        have hrs1 : rsT (kdT tb n i) ≠ 1 := by
          have : ∀ q : Nat, q < 32 → q ≠ 18 → rsT q ≠ 1 := by decide +kernel
          exact this _ (by omega) k18
        have h129 : f_X10_expr_129 (f_X10_expr_24 m1) (i3 (op : Int)) 1 (-1) N = some (false, sI (sI N 0 9 (i3 ((1 : Nat) : Int))) 0 10 (i3 ((stT tb n i : Nat) : Int))) := by
          rw [f_X10_expr_129, ck8, t8, d1, if_neg (by rw [iL1, i3_eq (by omega) (by omega) (by omega) (by omega)]; exact hrs1), if_neg (by decide), hw, g_b_some]
        have hcl : (if i3 ((kdT tb n i : Nat) : Int) = 18 then f_X1_expression_42 (f_X1_expression_208 (f_X1_expression_11 n1)) (i3 (op : Int)) (i3 (st : Int)) (i3 ((kdT tb n i : Nat) : Int)) M else if 6 ≤ i3 ((kdT tb n i : Nat) : Int) then f_X1_expression_53 (f_X1_expression_208 (f_X1_expression_11 n1)) (i3 (op : Int)) (b2i true) (i3 (st : Int)) (i3 ((kdT tb n i : Nat) : Int)) M else f_X1_expression_42 (f_X1_expression_208 (f_X1_expression_11 n1)) (i3 (op : Int)) (i3 (st : Int)) (i3 ((kdT tb n i : Nat) : Int)) M) = some (false, sI (sI M 21 1 (i3 ((1 : Nat) : Int))) 21 0 (i3 ((stT tb n i : Nat) : Int))) := by
          rw [if_neg (by rw [show (18 : Int32) = i3 18 from rfl, i3_eq (by omega) (by omega) (by omega) (by omega)]; omega), if_pos (by rw [iL6, i3_le (by omega) (by omega) (by omega) (by omega)]; omega), f_X1_expression_53, if_neg (by decide), if_neg (by rw [iL21, i3_eq (by omega) (by omega) (by omega) (by omega)]; omega), f_X1_expression_72, if_neg (by decide), if_neg (by rw [show (28 : Int32) = i3 28 from rfl, i3_eq (by omega) (by omega) (by omega) (by omega)]; omega), f_X1_expression_107, if_neg (by decide), hf, g_b_some]
        rw [hcl]
        by_cases g3 : kdT tb n i < 17
        · rw [if_pos (by rw [(rs_3 _ (by omega)).2 g3]), ck8, d4 (by omega) (by omega), va_of _ (by omega), g_b_some, if_neg k6, show i3 (-1) = (-1 : Int32) from rfl, h129, w2_s]
          exact xq_f (Or.inl rfl) hC hD
        · rw [if_neg (by rw [i3_eq (by omega) (by omega) (by omega) (by omega)]; exact fun g => g3 ((rs_3 _ (by omega)).1 g)), h129, w2_s]
          exact xq_f (Or.inl rfl) hC hD
    | false =>
      obtain ⟨hi0, hD⟩ := hDf rfl
      have sg := fun q (hq : 19 ≤ q ∧ q ≤ 29) => hD.1.sign hq
      have hul := unw_l 3 O X
      have hb := so_b O hSO
      rw [if_neg (by decide)] at hdF
      rw [if_pos (show b2i false = 0 from rfl), if_pos (show b2i false = 0 from rfl), f_X1_expression_53, if_pos (show b2i false = 0 from rfl), f_X1_expression_72, if_pos (show b2i false = 0 from rfl), f_X1_expression_107, if_pos (show b2i false = 0 from rfl), show (42 : Int32) = i3 (rwT 22) from rfl, show (47 : Int32) = i3 (rwT 23) from rfl, show (43 : Int32) = i3 (rwT 20) from rfl, show (45 : Int32) = i3 (rwT 21) from rfl, show (41 : Int32) = i3 (rwT 29) from rfl, sg 22 (by omega), g_b_some]
      -- an operator comes
      have oper : ∀ (o : Nat) (K1 : Option (Bool × gM)), 2 ≤ o ∧ o ≤ 5 → kdT tb n i = o + 18 → (∀ N', DS tb n h c N0 i (unw (rk o) O X).1 (unw (rk o) O X).2 N' → ∃ N2, DS tb n h c N0 i (o :: (unw (rk o) O X).1) (unw (rk o) O X).2 N2 ∧ True) → True := fun _ _ _ _ _ => trivial
      have opr : ∀ o : Nat, 2 ≤ o ∧ o ≤ 5 → kdT tb n i = o + 18 → ∀ (K : gM → Option (Bool × gM)), (∀ N1, DS tb n h c N0 i (unw (rk o) O X).1 (unw (rk o) O X).2 N1 → K N1 = g_b (f_X10_await (e2O o) N1) (fun _ M11 => g_b (f_X10_pass M11) (fun r14 M13 => if r14 then f_X10_expr_24 m1 (i3 (op : Int)) 1 1 M13 else some (false, M13)))) → w2 (g_b (f_X1_unwind (e1O o) M) (fun _ M16 => g_b (f_X1_defer (e1O o) M16) (fun _ M18 => f_X1_expression_208 (f_X1_expression_11 n1) (i3 (op : Int)) 1 (i3 (st : Int)) M18))) (g_b (f_X10_reduce (i3 ((rk o : Nat) : Int)) 0 N) (fun _ M7 => K M7)) (xQ tb n t h sz c i0 M0 N0) := by
        intro o ho hk K hK
        rcases ok_c (o := o) (Or.inr ⟨ho.1, by omega⟩) with ⟨e, r⟩ | ⟨e, r⟩ | ⟨e1, e2, r1, r2⟩
        · omega
        · omega
        have hul2 := unw_l (rk o) O X
        have hsu := so_u (r := rk o) (by omega) O X hSO hdF
        refine w2_l _ (hC.unw (bi_b ho) ⟨r1, by omega, Or.inl rfl⟩ (by omega) (by omega)) (fun _ M1 hM1 => ?_)
        have hr := hD.red (r := rk o) ⟨r1, by omega⟩ (by omega)
        rw [unw_3 (rk o) (by omega)] at hr
        refine w2_r _ hr (fun _ N1 hN1 => ?_)
        rw [hK N1 hN1]
        obtain ⟨M2, a1, a2⟩ := hM1.defer (o := o) (by omega) (Or.inr ⟨ho.1, by omega⟩)
        obtain ⟨N2, b1, b2⟩ := hN1.await (o := o) (by omega) (Or.inr ⟨ho.1, by omega⟩)
        rw [a1, g_b_some, b1, g_b_some, f_X1_expression_208, i3_s1]
        refine x_step a2 b2 (by omega) (fun M' N' hi hM hN => ?_)
        exact ih n1 m1 (i + 1) op true (st + 1) (o :: (unw (rk o) O X).1) (unw (rk o) O X).2 M' N' (by omega) (by omega) (by omega) (by omega) (by omega) hM (fun _ => hN) (fun g => by cases g) ⟨hsu.1, Or.inr ⟨ho.1, by omega⟩, fun _ _ => hsu.2.2.1⟩ (by rw [brc, if_neg (by omega), Nat.zero_add, hsu.2.2.2]; exact hbr) hop (by rw [bn, if_pos ho, if_pos rfl, Nat.add_zero, Nat.add_comm]; exact hsu.2.1) (by rw [List.length_cons]; omega)
      have cls : ∀ o : Nat, 2 ≤ o ∧ o ≤ 5 → kdT tb n i = o + 18 → (if i3 ((kdT tb n i : Nat) : Int) < 20 then f_X1_expression_157 (f_X1_expression_208 (f_X1_expression_11 n1)) (i3 (op : Int)) (b2i false) (i3 (st : Int)) (i3 ((kdT tb n i : Nat) : Int)) M else if 23 < i3 ((kdT tb n i : Nat) : Int) then f_X1_expression_157 (f_X1_expression_208 (f_X1_expression_11 n1)) (i3 (op : Int)) (b2i false) (i3 (st : Int)) (i3 ((kdT tb n i : Nat) : Int)) M else g_v (i3 ((kdT tb n i : Nat) : Int) - 20 + 3) (fun y15 => g_b (f_X1_unwind y15 M) (fun _ M16 => g_b (f_X1_defer y15 M16) (fun _ M18 => f_X1_expression_208 (f_X1_expression_11 n1) (i3 (op : Int)) 1 (i3 (st : Int)) M18)))) = g_b (f_X1_unwind (e1O o) M) (fun _ M16 => g_b (f_X1_defer (e1O o) M16) (fun _ M18 => f_X1_expression_208 (f_X1_expression_11 n1) (i3 (op : Int)) 1 (i3 (st : Int)) M18)) := by
        intro o ho hk
        have he : i3 ((kdT tb n i : Nat) : Int) - 20 + 3 = e1O o := by
          rw [hk]
          have : o = 2 ∨ o = 3 ∨ o = 4 ∨ o = 5 := by omega
          rcases this with g | g | g | g <;> subst g <;> rfl
        rw [if_neg (by rw [iL20, i3_lt (by omega) (by omega) (by omega) (by omega)]; omega), if_neg (by rw [show (23 : Int32) = i3 23 from rfl, i3_lt (by omega) (by omega) (by omega) (by omega)]; omega), he, g_v]
      by_cases k22 : kdT tb n i = 22
      · rw [cls 4 (by omega) k22, decide_eq_true k22, if_pos rfl, f_X10_expr_226]
        refine opr 4 (by omega) k22 (fun M7 => g_b (f_X10_isSign 42 M7) (fun r10 M9 => if r10 then f_X10_expr_247 (f_X10_expr_24 m1) (i3 (op : Int)) 1 4 M9 else f_X10_expr_247 (f_X10_expr_24 m1) (i3 (op : Int)) 1 5 M9)) (fun N1 hN1 => ?_)
        show g_b (f_X10_isSign (i3 (rwT 22)) N1) _ = _
        rw [hN1.1.sign (by omega), g_b_some, decide_eq_true k22, if_pos rfl, f_X10_expr_247]
        rfl
      rw [decide_eq_false k22, if_neg (show ¬ (false = true) by decide), sg 23 (by omega), g_b_some]
      by_cases k23 : kdT tb n i = 23
      · rw [cls 5 (by omega) k23, decide_eq_true k23, if_pos rfl, f_X10_expr_226]
        refine opr 5 (by omega) k23 (fun M7 => g_b (f_X10_isSign 42 M7) (fun r10 M9 => if r10 then f_X10_expr_247 (f_X10_expr_24 m1) (i3 (op : Int)) 1 4 M9 else f_X10_expr_247 (f_X10_expr_24 m1) (i3 (op : Int)) 1 5 M9)) (fun N1 hN1 => ?_)
        show g_b (f_X10_isSign (i3 (rwT 22)) N1) _ = _
        rw [hN1.1.sign (by omega), g_b_some, decide_eq_false k22, if_neg (by decide), f_X10_expr_247]
        rfl
      rw [decide_eq_false k23, if_neg (show ¬ (false = true) by decide), sg 20 (by omega), g_b_some]
      by_cases k20 : kdT tb n i = 20
      · rw [cls 2 (by omega) k20, decide_eq_true k20, if_pos rfl, f_X10_expr_282]
        refine opr 2 (by omega) k20 (fun M7 => g_b (f_X10_isSign 43 M7) (fun r10 M9 => if r10 then f_X10_expr_303 (f_X10_expr_24 m1) (i3 (op : Int)) 1 2 M9 else f_X10_expr_303 (f_X10_expr_24 m1) (i3 (op : Int)) 1 3 M9)) (fun N1 hN1 => ?_)
        show g_b (f_X10_isSign (i3 (rwT 20)) N1) _ = _
        rw [hN1.1.sign (by omega), g_b_some, decide_eq_true k20, if_pos rfl, f_X10_expr_303]
        rfl
      rw [decide_eq_false k20, if_neg (show ¬ (false = true) by decide), sg 21 (by omega), g_b_some]
      by_cases k21 : kdT tb n i = 21
      · rw [cls 3 (by omega) k21, decide_eq_true k21, if_pos rfl, f_X10_expr_282]
        refine opr 3 (by omega) k21 (fun M7 => g_b (f_X10_isSign 43 M7) (fun r10 M9 => if r10 then f_X10_expr_303 (f_X10_expr_24 m1) (i3 (op : Int)) 1 2 M9 else f_X10_expr_303 (f_X10_expr_24 m1) (i3 (op : Int)) 1 3 M9)) (fun N1 hN1 => ?_)
        show g_b (f_X10_isSign (i3 (rwT 20)) N1) _ = _
        rw [hN1.1.sign (by omega), g_b_some, decide_eq_false k20, if_neg (by decide), f_X10_expr_303]
        rfl
      rw [decide_eq_false k21, if_neg (show ¬ (false = true) by decide)]
      have c157 : (if i3 ((kdT tb n i : Nat) : Int) < 20 then f_X1_expression_157 (f_X1_expression_208 (f_X1_expression_11 n1)) (i3 (op : Int)) (b2i false) (i3 (st : Int)) (i3 ((kdT tb n i : Nat) : Int)) M else if 23 < i3 ((kdT tb n i : Nat) : Int) then f_X1_expression_157 (f_X1_expression_208 (f_X1_expression_11 n1)) (i3 (op : Int)) (b2i false) (i3 (st : Int)) (i3 ((kdT tb n i : Nat) : Int)) M else g_v (i3 ((kdT tb n i : Nat) : Int) - 20 + 3) (fun y15 => g_b (f_X1_unwind y15 M) (fun _ M16 => g_b (f_X1_defer y15 M16) (fun _ M18 => f_X1_expression_208 (f_X1_expression_11 n1) (i3 (op : Int)) 1 (i3 (st : Int)) M18)))) = f_X1_expression_157 (f_X1_expression_208 (f_X1_expression_11 n1)) (i3 (op : Int)) (b2i false) (i3 (st : Int)) (i3 ((kdT tb n i : Nat) : Int)) M := by
        by_cases g : kdT tb n i < 20
        · rw [if_pos (by rw [iL20, i3_lt (by omega) (by omega) (by omega) (by omega)]; omega)]
        · rw [if_neg (by rw [iL20, i3_lt (by omega) (by omega) (by omega) (by omega)]; omega), if_pos (by rw [show (23 : Int32) = i3 23 from rfl, i3_lt (by omega) (by omega) (by omega) (by omega)]; omega)]
      rw [c157, f_X1_expression_157, f_X1_expression_190]
      have hs1 := so_1 hSO hdF
      have hbr0 : ∀ M : gM, f_X1_binding 10 M = some (i3 ((0 : Nat) : Int), M) := fun M => rfl
      by_cases g0 : op = 0
      · -- the sum ends
        obtain ⟨u1, u2⟩ := hs1.1 (by omega)
        have cfin : w2 (g_b (f_X1_unwind 10 M) (fun _ M6 => some (true, M6))) (f_X10_expr_24 m1 (i3 (op : Int)) (b2i false) 0 N) (xQ tb n t h sz c i0 M0 N0) := by
          cases m1 with
          | zero => omega
          | succ m1 =>
            rw [f_X10_expr_24, if_pos rfl]
            refine w2_l _ (hC.unw hbr0 ⟨by omega, by omega, Or.inr ⟨rfl, rfl⟩⟩ (by omega) (by omega)) (fun _ M1 hM1 => ?_)
            have hr := hD.red (r := 1) (by omega) (by omega)
            rw [unw_3 1 (by omega)] at hr
            rw [show (1 : Int32) = i3 ((1 : Nat) : Int) from rfl]
            refine w2_r _ hr (fun _ N1 hN1 => ?_)
            rw [w2_s]
            have hl1 := unw_l 1 O X
            rw [u1] at hM1 hN1 hl1
            rw [List.length_nil] at hl1
            exact ⟨rfl, hM1.2.1, hN1.2.1, hN1.2.2.1.1, fun g => (by cases g), fun _ => ⟨i, (unw 1 O X).2, hi0, u2, by omega, hM1, hN1⟩⟩
        have hz : i3 (op : Int) ≤ 0 := by rw [g0]; decide
        rw [if_pos hz, if_pos hz, ite_self, if_pos hz]
        exact cfin
      · have hz : ¬ i3 (op : Int) ≤ 0 := by rw [iL0, i3_le (by omega) (by omega) (by omega) (by omega)]; omega
        rw [if_neg hz, if_neg hz, if_neg hz, sg 29 (by omega), g_b_some]
        by_cases k29 : kdT tb n i = 29
        · rw [decide_eq_true k29, if_pos rfl, if_pos (by rw [k29]; rfl)]
          obtain ⟨O', u1, u2, u3, u4⟩ := hs1.2 (by omega)
          have hl1 := unw_l 1 O X
          refine w2_l _ (hC.unw hbr0 ⟨by omega, by omega, Or.inr ⟨rfl, rfl⟩⟩ (by omega) (by omega)) (fun _ M1 hM1 => ?_)
          rw [u1] at hM1 hl1
          rw [List.length_cons] at hl1
          have e7 : M1.1 21 7 - 1 = i3 (O'.length : Int) := by
            rw [hM1.2.2.2.2.1, List.length_cons, iL1, i3_sub]
            congr 1
            omega
          rw [w2_ml, e7, f_X1_expression_208, i3_s1]
          refine x_step hM1.pop hD (by omega) (fun M' N' hi hM hN => ?_)
          have hr := hN.red (r := 1) (by omega) (by omega)
          rw [unw_3 1 (by omega), u1, show i3 ((1 : Nat) : Int) = (1 : Int32) from rfl] at hr
          refine w2_r _ hr (fun _ N1 hN1 => ?_)
          have e60 : N1.1 0 60 - 1 = i3 (O'.length : Int) := by
            rw [hN1.2.2.2.2.2.1, List.length_cons, iL1, i3_sub]
            congr 1
            omega
          rw [w2_mr, e60]
          have hr3 := hN1.pop.red (r := 3) (by omega) (by omega)
          rw [show (3 : Int32) = i3 ((3 : Nat) : Int) from rfl]
          refine w2_r _ hr3 (fun _ N2 hN2 => ?_)
          have := ih n1 m1 (i + 1) (op - 1) false (st + 1) O' (unw 1 O X).2 M' N2 (by omega) (by omega) (by omega) (by omega) (by omega) hM (fun g => by cases g) (fun _ => ⟨by omega, hN2⟩) u2 (by omega) (by omega) u3 (by omega)
          rw [show i3 (op : Int) + (-1) = i3 ((op - 1 : Nat) : Int) by rw [show ((-1) : Int32) = i3 (-1) from rfl, i3_add]; congr 1; omega]
          exact this
        · have hw : f_X10_wrong 1 N = some (false, sI (sI N 0 9 (i3 ((1 : Nat) : Int))) 0 10 (i3 ((stT tb n i : Nat) : Int))) := by rw [show (1 : Int32) = i3 ((1 : Nat) : Int) from rfl]; exact hD.1.wrong
          have hf : f_X1_fail 1 M = some (false, sI (sI M 21 1 (i3 ((1 : Nat) : Int))) 21 0 (i3 ((stT tb n i : Nat) : Int))) := by rw [show (1 : Int32) = i3 ((1 : Nat) : Int) from rfl]; exact hC.1.fail
          rw [decide_eq_false k29, if_neg (show ¬ (false = true) by decide), if_neg (by rw [show (29 : Int32) = i3 29 from rfl, i3_eq (by omega) (by omega) (by omega) (by omega)]; omega), hw, g_b_some, hf, g_b_some, w2_s]
          exact xq_f (Or.inl rfl) hC hD
theorem L_expr (hsz : sz ≤ i + 1) (hc : c ≤ i) (hC : CH tb n t i M) (hD : DH tb n h i N) (h8 : M.1 t 8 = i3 (sz : Int)) (h28 : N.1 28 h = i3 ((500 * h + c : Nat) : Int)) : w2 (f_X1_expression M) (f_X10_expr N) (xQ tb n t h sz c i M N) := by
  have ht := hC.1
  have hi4 := hC.2.1.2.2.1
  rw [f_X1_expression, w2_ml, f_X10_expr, hD.ck, hD.tn, w2_mr, w2_mr, h28]
  have := x_loop (tb := tb) (n := n) (t := t) (h := h) (sz := sz) (c := c) (i0 := i) (M0 := M) (N0 := N) hsz hc (401 - i) FU FU i 0 true 0 [] [] (sI M 21 7 0) (sI (sI N 0 62 (i3 ((500 * h + c : Nat) : Int))) 0 60 0) (by omega) (by rw [FU_s]; omega) (by rw [FU_s]; omega) (Nat.le_refl _) (by omega) ?_ (fun _ => ?_) (fun g => by cases g) trivial rfl (by omega) rfl (by simp)
  · exact this
  · exact ⟨hC.mv (by rw [rI_n (by decide)]) (by rw [rI_n (by decide)]) rfl (by rw [rI_e, up_n (by decide)]) (by rw [rI_e, up_n (by decide)]), EF.rf.p ht (by omega), fun o g => (by cases g), trivial, by rw [rI_e, up_e]; rfl, by rw [rI_n (by omega)]; exact h8, trivial⟩
  · exact ⟨hD.mv (by rw [rI_n (by decide), rI_n (by decide)]) (by rw [rI_n (by decide), rI_n (by decide)]) (by rw [rI_n (by decide), rI_n (by decide)]) rfl (by rw [rI_e, up_n (by decide), rI_e, up_n (by decide)]) (by rw [rI_e, up_n (by decide), rI_e, up_n (by decide)]) (by rw [rI_e, up_n (by decide), rI_e, up_n (by decide)]), (EG.rf.o (by omega)).o (by omega), ⟨by rw [rI_n (by decide), rI_n (by decide)], by rw [rI_e, up_n (by decide), rI_e, up_n (by decide)]⟩, fun o g => (by cases g), trivial, by rw [rI_e, up_e]; rfl, by rw [rI_n (by decide), rI_n (by decide)]; exact h28, trivial, by rw [rI_e, up_n (by decide), rI_e, up_e]⟩
end
