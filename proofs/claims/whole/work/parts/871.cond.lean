/-! ===== CONDS and laws of the class ===== -/
def lW (l : Lw) : Int32 := i3 (((l.2.2.1 * 2 + (if l.2.1 then 1 else 0) : Nat) : Int) * 16 + (7 : Nat))
def lB (l : Lw) : List Int32 := l.2.2.2.1.map ec1 ++ (l.2.2.2.2.map ec1 ++ [lW l])
def lw (l : Lw) : List Int32 := (if l.1 then [i3 8] else []) ++ lB l
section
variable {E : Int → Int32} {a1 : Nat} {M N : gM}
theorem ck_z0 {β : Type} {k : Nat} {o : Option β} : g_ck (0 : Int32) (k + 1) o = o := if_neg (fun h => h.elim (fun h => absurd h (by decide)) (fun h => absurd h (Nat.not_succ_le_zero k)))
theorem ck_z1 {β : Type} {k : Nat} {o : Option β} : g_ck (1 : Int32) (k + 2) o = o := if_neg (fun h => h.elim (fun h => absurd h (by decide)) (fun h => by have h : k + 2 ≤ 1 := h; omega))
theorem li_113 {s0 so : Bool} : f_X2_literal_113 (b2i s0) (b2i so) N = some ((so && decide (N.1 28 2 = 0)) != s0, N) := by
  rw [f_X2_literal_113]
  unfold f_X2_literal_129 f_X2_literal_130
  by_cases h : N.1 28 2 = 0
  · cases so <;> cases s0 <;> simp [h] <;> first | rfl | decide
  · cases so <;> cases s0 <;> simp [h] <;> first | rfl | decide
theorem li_26 {m : Nat} (hm : m < 4) {nn : Bool} {x y : Int32} : f_X2_literal_26 (i3 ((m * 2 + (if nn then 1 else 0) : Nat) : Int)) x y (b2i nn) N = f_X2_literal_113 (b2i nn) (b2i (cmB m x y)) N := by
  have e : i3 ((m * 2 + (if nn then 1 else 0) : Nat) : Int) / 2 = i3 (m : Int) := by
    have : (if nn then 1 else 0) ≤ 1 := by cases nn <;> decide
    generalize (if nn then 1 else 0) = q at *
    rw [iL2, i3_div (by omega) (by omega) (by omega) (by omega)]
    congr 1
    omega
  rw [f_X2_literal_26, e, g_v]
  unfold f_X2_literal_66 f_X2_literal_81 f_X2_literal_96 f_X2_literal_111
  have : m = 0 ∨ m = 1 ∨ m = 2 ∨ m = 3 := by omega
  rcases this with g | g | g | g <;> subst g
  · rw [if_pos (by decide), show cmB 0 x y = decide (x = y) from rfl]
    by_cases h : x = y
    · rw [if_pos h, decide_eq_true h]; rfl
    · rw [if_neg h, decide_eq_false h]; rfl
  · rw [if_neg (by decide), if_pos (by decide), show cmB 1 x y = !decide (x = y) from rfl]
    by_cases h : x = y
    · rw [if_pos h, decide_eq_true h]; rfl
    · rw [if_neg h, decide_eq_false h]; rfl
  · rw [if_neg (by decide), if_neg (by decide), if_pos (by decide), show cmB 2 x y = !decide (y ≤ x) from rfl]
    by_cases h : y ≤ x
    · rw [if_pos h, decide_eq_true h]; rfl
    · rw [if_neg h, decide_eq_false h]; rfl
  · rw [if_neg (by decide), if_neg (by decide), if_neg (by decide), show cmB 3 x y = !decide (y < x) from rfl]
    by_cases h : y < x
    · rw [if_pos h, decide_eq_true h]; rfl
    · rw [if_neg h, decide_eq_false h]; rfl
theorem ev_2 {A B : List Cw} (hA : dF 15 A 0 1) (hB : dF 15 B 0 1) : (ev E (A ++ B) (some []) = none ∧ (suV E A = none ∨ suV E B = none)) ∨ ∃ x y, ev E (A ++ B) (some []) = some [y, x] ∧ suV E A = some x ∧ suV E B = some y := by
  rw [ev_a]
  rcases su_x (E := E) hA with ⟨a1, a2⟩ | ⟨x, a1, a2⟩
  · rw [a1, ev_n]; exact Or.inl ⟨rfl, Or.inl a2⟩
  · rw [a1, show [x] = [] ++ [x] from rfl, (ev_b [x] B 0 1 [] hB rfl).1]
    rcases su_x (E := E) hB with ⟨b1, b2⟩ | ⟨y, b1, b2⟩
    · rw [b1]; exact Or.inl ⟨rfl, Or.inr b2⟩
    · rw [b1]; exact Or.inr ⟨x, y, rfl, a2, b2⟩
theorem k_lit {l : Lw} (hl : okL l) (hs : stI (ev E (l.2.2.2.1 ++ l.2.2.2.2) (some [])) 2 N) : f_X2_literal (i3 ((l.2.2.1 * 2 + (if l.2.1 then 1 else 0) : Nat) : Int)) N = some (liV E l, N) := by
  obtain ⟨o, nn, m, A, B⟩ := l
  obtain ⟨hm, hA, hB⟩ := hl
  have hm : m < 4 := hm
  have hA : dF 15 A 0 1 := hA
  have hB : dF 15 B 0 1 := hB
  show f_X2_literal (i3 ((m * 2 + (if nn then 1 else 0) : Nat) : Int)) N = _
  have key : ∀ s0 : Int32, s0 = b2i nn → f_X2_literal_26 (i3 ((m * 2 + (if nn then 1 else 0) : Nat) : Int)) (N.1 29 0) (N.1 29 1) s0 N = some (liV E (o, nn, m, A, B), N) := by
    intro s0 hs0
    rw [hs0, li_26 hm, li_113]
    show _ = some ((match suV E A, suV E B with | some x, some y => (cmB m x y) != nn | _, _ => nn), N)
    rcases ev_2 (E := E) hA hB with ⟨g1, g2⟩ | ⟨x, y, g1, g2, g3⟩
    · have h1 : N.1 28 2 = 1 := by
        have hs : stI (ev E (A ++ B) (some [])) 2 N := hs
        rw [g1] at hs
        exact hs
      rw [h1, show decide ((1 : Int32) = 0) = false from rfl, Bool.and_false]
      have : (match suV E A, suV E B with | some x, some y => (cmB m x y) != nn | _, _ => nn) = nn := by
        rcases g2 with g2 | g2
        · rw [g2]
        · rw [g2]; cases suV E A <;> rfl
      rw [this]
      cases nn <;> rfl
    · have h1 : N.1 28 2 = 0 ∧ AR (N.1 29) [y, x] ∧ 2 = 2 := by
        have hs : stI (ev E (A ++ B) (some [])) 2 N := hs
        rw [g1] at hs
        exact hs
      have h29 : N.1 29 1 = y := h1.2.1.1
      have h290 : N.1 29 0 = x := h1.2.1.2.1
      rw [h1.1, h29, h290, show decide ((0 : Int32) = 0) = true from rfl, Bool.and_true]
      rw [g2, g3]
  rw [f_X2_literal, ck_z0, g_v, ck_z1, g_v]
  have hcase : m = 0 ∨ m = 1 ∨ m = 2 ∨ m = 3 := by omega
  cases nn with
  | true =>
    rw [if_pos (by rcases hcase with g | g | g | g <;> subst g <;> decide)]
    exact key 1 rfl
  | false =>
    rw [if_neg (by rcases hcase with g | g | g | g <;> subst g <;> decide)]
    exact key 0 rfl
theorem sg_map {A : List Cw} : (A.map ec1).length = A.length := List.length_map _
theorem h_lit (ha : a1 ≠ 28 ∧ a1 ≠ 29 ∧ a1 ≠ 30) {n p x5 : Nat} {all : Bool} {l : Lw} {Q : Bool → gM → Prop} (hl : okL l) (hS : SG (M.1 a1) p (lB l)) (hp : p + (lB l).length ≤ 800) (hx : x5 ≤ 800) (hE : ∀ k : Nat, k < 6 → M.1 30 k = E (k : Int))
    (k : ∀ M', Fr [28, 29] M M' → wp (f_X2_holds_15 a1 n (b2i (all && liV E l)) (i3 ((p + (lB l).length : Nat) : Int)) (i3 ((x5 + 1 : Nat) : Int)) M') Q) : wp (f_X2_holds_15 a1 (n + 1) (b2i all) (i3 (p : Int)) (i3 (x5 : Int)) M) Q := by
  have hok := hl
  obtain ⟨hm, hA, hB⟩ := hl
  unfold lB at hS hp k
  rw [List.length_append, List.length_append, sg_map, sg_map, List.length_singleton] at hp k
  rw [SG_a, SG_a, sg_map, sg_map] at hS
  obtain ⟨s1, s2, s3⟩ := hS
  have hw : M.1 a1 (p + (l.2.2.2.1 ++ l.2.2.2.2).length) = lW l := by
    rw [List.length_append, ← Nat.add_assoc]
    exact s3.1
  have hq : l.2.2.1 * 2 + (if l.2.1 then 1 else 0) < 8 := by
    have : (if l.2.1 then 1 else 0) ≤ 1 := by split <;> omega
    omega
  have h15 : lW l &&& 15 = i3 ((7 : Nat) : Int) := an_15 (by omega) (by omega)
  have h16 : lW l / 16 = i3 ((l.2.2.1 * 2 + (if l.2.1 then 1 else 0) : Nat) : Int) := dv_16 (by omega) (by omega)
  have hlen : (l.2.2.2.1 ++ l.2.2.2.2).length = l.2.2.2.1.length + l.2.2.2.2.length := List.length_append
  rw [f_X2_holds_15, iL800, if_neg (by rw [i3_lt (by omega) (by omega) (by omega) (by omega)]; omega)]
  have hd2 : dF 16 (l.2.2.2.1 ++ l.2.2.2.2) 0 2 := dF_a _ 0 1 2 _ (dF_up (by omega) _ _ _ hA) (dF_sh _ _ _ hB)
  refine wp_b _ (k_run (b := 16) (E := E) (by omega) ha (F := l.2.2.2.1 ++ l.2.2.2.2) (g := 2) (c := 7) (by rw [List.map_append, SG_a, sg_map]; exact ⟨s1, s2⟩) hd2 (by omega) hE (by rw [hw]; exact h15) (by omega) (by omega)) (fun r M1 hM1 => ?_)
  obtain ⟨rfl, f1, hst⟩ := hM1
  rw [if_neg (by rw [iL0, i3_lt (by omega) (by omega) (by omega) (by omega)]; omega), if_neg (by rw [i3_le (by omega) (by omega) (by omega) (by omega)]; omega), ck_ok (by omega) (by omega) (by omega), tn_n (by omega), f1.e1 (by simp; omega), hw, f_X2_holds_52, wp_v, h15, if_pos (by rfl), i3_s1, i3_s1]
  have k := k M1 f1
  rw [show p + (l.2.2.2.1.length + (l.2.2.2.2.length + 1)) = p + (l.2.2.2.1 ++ l.2.2.2.2).length + 1 by omega] at k
  cases all with
  | false =>
    rw [if_pos (show b2i false = 0 from rfl)]
    exact k
  | true =>
    rw [if_neg (by decide), h16, k_lit hok hst, g_b_some]
    rw [Bool.true_and] at k
    cases hv : liV E l with
    | true => rw [if_pos rfl]; rw [hv] at k; exact k
    | false => rw [if_neg (by decide)]; rw [hv] at k; exact k
theorem h_hold (ha : a1 ≠ 28 ∧ a1 ≠ 29 ∧ a1 ≠ 30) : ∀ (L : List Lw) (n p x5 : Nat) (all : Bool) (M : gM), (∀ l ∈ L, okL l) → SG (M.1 a1) p (L.flatMap lw ++ [i3 9]) → p + (L.flatMap lw).length + 1 ≤ 800 → (L.flatMap lw).length + 1 < n → x5 ≤ p → (∀ k : Nat, k < 6 → M.1 30 k = E (k : Int)) → wp (f_X2_holds_15 a1 n (b2i all) (i3 (p : Int)) (i3 (x5 : Int)) M) (fun r N => r = hoV E all L ∧ Fr [28, 29] M N) := by
  have stop : ∀ (n p x5 c : Nat) (all : Bool) (M : gM) (Q : Bool → gM → Prop), M.1 a1 p = i3 (c : Int) → c < 16 → 8 ≤ c → p < 800 → x5 ≤ 800 → (∀ k : Nat, k < 6 → M.1 30 k = E (k : Int)) → (∀ M', Fr [28, 29] M M' → wp (if b2i all = 0 then (if i3 (c : Int) = 8 then f_X2_holds_15 a1 n 1 (i3 ((p + 1 : Nat) : Int)) (i3 ((x5 + 1 : Nat) : Int)) M' else some (all, M')) else some (all, M')) Q) → wp (f_X2_holds_15 a1 (n + 1) (b2i all) (i3 (p : Int)) (i3 (x5 : Int)) M) Q := by
    intro n p x5 c all M Q hw hc h8 hp hx hE k
    have h15 : i3 (c : Int) &&& 15 = i3 (c : Int) := by
      have := an_15 (v := 0) (c := c) (by omega) hc
      rwa [show ((0 : Nat) : Int) * 16 + (c : Int) = (c : Int) by omega] at this
    rw [f_X2_holds_15, iL800, if_neg (by rw [i3_lt (by omega) (by omega) (by omega) (by omega)]; omega)]
    refine wp_b _ (k_run (b := 16) (E := E) (by omega) ha (F := []) (g := 0) (p := p) (c := c) trivial rfl (by simp; omega) hE (by rw [List.length_nil, Nat.add_zero, hw]; exact h15) (by omega) hc) (fun r M1 hM1 => ?_)
    obtain ⟨rfl, f1, -⟩ := hM1
    rw [List.length_nil, Nat.add_zero, if_neg (by rw [iL0, i3_lt (by omega) (by omega) (by omega) (by omega)]; omega), if_neg (by rw [i3_le (by omega) (by omega) (by omega) (by omega)]; omega), ck_ok (by omega) (by omega) (by omega), tn_n (by omega), f1.e1 (by simp; omega), hw, f_X2_holds_52, wp_v, h15, if_neg (by rw [iL7, i3_eq (by omega) (by omega) (by omega) (by omega)]; omega), i3_s1, i3_s1, tb_ok]
    exact k M1 f1
  intro L
  induction L with
  | nil =>
    intro n p x5 all M hok hS hp hn hx hE
    cases n with
    | zero => simp at hn
    | succ n =>
      simp only [List.flatMap_nil, List.length_nil] at hp hn
      refine stop n p x5 9 all M _ hS.1 (by omega) (by omega) (by omega) (by omega) hE (fun M' f => ?_)
      cases all with
      | false => rw [if_pos (show b2i false = 0 from rfl), if_neg (by decide), wp_some]; exact ⟨rfl, f⟩
      | true => rw [if_neg (by decide), wp_some]; exact ⟨rfl, f⟩
  | cons l L ih =>
    intro n p x5 all M hok hS hp hn hx hE
    have hl := hok l List.mem_cons_self
    have hL : ∀ l' ∈ L, okL l' := fun l' h => hok l' (List.mem_cons_of_mem _ h)
    rw [List.flatMap_cons] at hS hp hn
    rw [List.length_append] at hp hn
    rw [List.append_assoc, SG_a] at hS
    obtain ⟨hS1, hS2⟩ := hS
    have hlen : (lw l).length = (if l.1 then 1 else 0) + (lB l).length := by
      unfold lw
      rw [List.length_append]
      cases l.1 <;> rfl
    have hpos : 1 ≤ (lB l).length := by unfold lB; simp; omega
    cases ho : l.1 with
    | false =>
      rw [ho, if_neg (by decide), Nat.zero_add] at hlen
      have hS1' : SG (M.1 a1) p (lB l) := by
        unfold lw at hS1
        rw [ho, if_neg (by decide)] at hS1
        exact hS1
      cases n with
      | zero => omega
      | succ n =>
        refine h_lit ha hl hS1' (by omega) (by omega) hE (fun M' f => ?_)
        have ew : M'.1 a1 = M.1 a1 := f.e1 (by simp; omega)
        have e30 : M'.1 30 = M.1 30 := f.e1 (by decide)
        rw [hoV, ho, Bool.false_and, if_neg (by decide), Bool.false_or]
        refine wp_mono (ih n (p + (lB l).length) (x5 + 1) (all && liV E l) M' hL (by rw [ew, ← hlen]; exact hS2) (by omega) (by omega) (by omega) (fun k hk => by rw [e30]; exact hE k hk)) (fun r N hN => ⟨hN.1, f.tr hN.2⟩)
    | true =>
      rw [ho, if_pos rfl] at hlen
      have hS1' : M.1 a1 p = i3 8 ∧ SG (M.1 a1) (p + 1) (lB l) := by
        unfold lw at hS1
        rw [ho, if_pos rfl] at hS1
        exact hS1
      cases n with
      | zero => omega
      | succ n =>
        refine stop n p x5 8 all M _ hS1'.1 (by omega) (by omega) (by omega) (by omega) hE (fun M' f => ?_)
        have ew : M'.1 a1 = M.1 a1 := f.e1 (by simp; omega)
        have e30 : M'.1 30 = M.1 30 := f.e1 (by decide)
        cases all with
        | true =>
          rw [if_neg (by decide), wp_some, hoV, ho]
          exact ⟨rfl, f⟩
        | false =>
          rw [if_pos (show b2i false = 0 from rfl), if_pos (by rfl), hoV, ho, Bool.and_false, if_neg (by decide), Bool.true_or]
          cases n with
          | zero => omega
          | succ n =>
            refine h_lit (all := true) (x5 := x5 + 1) (p := p + 1) ha hl (by rw [ew]; exact hS1'.2) (by omega) (by omega) (fun k hk => by rw [e30]; exact hE k hk) (fun M2 f2 => ?_)
            have ew2 : M2.1 a1 = M'.1 a1 := f2.e1 (by simp; omega)
            have e302 : M2.1 30 = M'.1 30 := f2.e1 (by decide)
            refine wp_mono (ih n (p + 1 + (lB l).length) (x5 + 1 + 1) (true && liV E l) M2 hL (by rw [ew2, ew, show p + 1 + (lB l).length = p + (lw l).length by omega]; exact hS2) (by omega) (by omega) (by omega) (fun k hk => by rw [e302, e30]; exact hE k hk)) (fun r N hN => ⟨hN.1, (f.tr f2).tr hN.2⟩)
end
section
variable {M : gM} {t c : Nat}
theorem vr_k {N : gM} : ∀ k : Nat, k < 6 → N.1 30 k = vr (N.1 30 0) (N.1 30 1) (N.1 30 2) (N.1 30 3) (N.1 30 4) (N.1 30 5) (k : Int) := by
  intro k hk
  have : k = 0 ∨ k = 1 ∨ k = 2 ∨ k = 3 ∨ k = 4 ∨ k = 5 := by omega
  rcases this with g | g | g | g | g | g <;> subst g <;> rfl
theorem Cd1 (ht : t = 3 ∨ t = 12) {L : List Lw} (hL : ∀ l ∈ L, okL l) (hS : SG (M.1 (t + 1)) c (L.flatMap lw ++ [i3 9])) (hc : c + (L.flatMap lw).length + 1 ≤ 800) : Cond1 M t (i3 (c : Int)) (fun a b c d e f => hoV (vr a b c d e f) true L) := by
  intro N hN
  rw [f_X2_holds, if_neg (by rw [show ((-1) : Int32) = i3 (-1) from rfl, i3_eq (by omega) (by omega) (by omega) (by omega)]; omega)]
  exact h_hold (E := vr (N.1 30 0) (N.1 30 1) (N.1 30 2) (N.1 30 3) (N.1 30 4) (N.1 30 5)) (by omega) L FU c 0 true N hL (by rw [hN]; exact hS) hc (by rw [FU_s]; omega) (by omega) vr_k
theorem Cn1 : Cond1 M t (-1) (fun _ _ _ _ _ _ => true) := by
  intro N hN
  rw [f_X2_holds, if_pos rfl, wp_some]
  exact ⟨rfl, Fr.rf⟩
theorem Rn1 (ht : t = 3 ∨ t = 12) {X : List Cw} (hX : dF 15 X 0 1) (hS : SG (M.1 (t + 1)) c (X.map ec1 ++ [i3 9])) (hc : c + X.length + 1 ≤ 800) : Run1 M t (i3 (c : Int)) (fun a b c d e f => suV (vr a b c d e f) X) := by
  intro N hN
  rw [SG_a, sg_map] at hS
  refine wp_mono (k_run (E := vr (N.1 30 0) (N.1 30 1) (N.1 30 2) (N.1 30 3) (N.1 30 4) (N.1 30 5)) (b := 15) (a1 := t + 1) (by omega) (by omega) (F := X) (p := c) (g := 1) (c := 9) (by rw [hN]; exact hS.1) hX (by omega) vr_k (by rw [hN, hS.2.1]; exact an_15 (v := 0) (c := 9) (by omega) (by omega)) (by omega) (by omega)) (fun r N' h => ?_)
  obtain ⟨-, f, hs⟩ := h
  refine ⟨f, ?_⟩
  rcases su_x (E := vr (N.1 30 0) (N.1 30 1) (N.1 30 2) (N.1 30 3) (N.1 30 4) (N.1 30 5)) hX with ⟨g1, g2⟩ | ⟨v, g1, g2⟩
  · rw [g1] at hs
    simp only [g2]
    exact hs
  · rw [g1] at hs
    simp only [g2]
    exact ⟨hs.1, hs.2.1.1⟩
end
