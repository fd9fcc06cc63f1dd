/-! ===== CONDS and laws of the reference ===== -/
def FV (o v : Nat → Int32) (c : Nat) : List Cw → Prop
  | [] => True
  | x :: F => o c = i3 (x.1 : Int) ∧ (x.1 < 2 → v c = i3 x.2) ∧ FV o v (c + 1) F
theorem FV_a {o v : Nat → Int32} : ∀ (a : List Cw) (c : Nat) (b : List Cw), FV o v c (a ++ b) ↔ FV o v c a ∧ FV o v (c + a.length) b := by
  intro a
  induction a with
  | nil => intro c b; simp [FV]
  | cons w a ih =>
    intro c b
    rw [List.cons_append, FV, FV, ih, List.length_cons, show c + 1 + a.length = c + (a.length + 1) by omega, and_assoc, and_assoc]
theorem FV_c {o v o' v' : Nat → Int32} : ∀ (a : List Cw) (c : Nat), (∀ k, c ≤ k → k < c + a.length → o' k = o k ∧ v' k = v k) → FV o v c a → FV o' v' c a := by
  intro a
  induction a with
  | nil => intro c _ _; trivial
  | cons w a ih =>
    intro c h h2
    rw [List.length_cons] at h
    obtain ⟨e1, e2⟩ := h c (Nat.le_refl _) (by omega)
    exact ⟨by rw [e1]; exact h2.1, fun g => by rw [e2]; exact h2.2.1 g, ih (c + 1) (fun k k1 k2 => h k (by omega) (by omega)) h2.2.2⟩
def HV (E : Int → Int32) (M : gM) : Prop := M.1 0 64 = E 0 ∧ M.1 0 65 = E 1 ∧ M.1 0 66 = E 2 ∧ M.1 0 67 = E 3 ∧ M.1 0 68 = E 4 ∧ M.1 0 69 = E 5
def srI (o : Option (List Int32)) (r : Int32) (N : gM) : Prop := match o with
  | none => N.1 0 70 = 1
  | some S => N.1 0 70 = 0 ∧ r = N.1 46 0 ∧ AR (N.1 46) S
section
variable {E : Int → Int32} {M N : gM}
theorem HV.mv (h : HV E M) (f : Fo [46] [70] M N) : HV E N := by
  unfold HV
  rw [f.e0 (by decide), f.e0 (by decide), f.e0 (by decide), f.e0 (by decide), f.e0 (by decide), f.e0 (by decide)]
  exact h
theorem s_var (h : HV E M) {k : Nat} (hk : k < 6) : f_X10_variable (i3 (k : Int)) M = some (E (k : Int), M) := by
  obtain ⟨h0, h1, h2, h3, h4, h5⟩ := h
  rw [f_X10_variable, h0, h1, h2, h3, h4, h5]
  have : k = 0 ∨ k = 1 ∨ k = 2 ∨ k = 3 ∨ k = 4 ∨ k = 5 := by omega
  rcases this with g | g | g | g | g | g <;> subst g <;> rfl
theorem s_sum {b g : Nat} (hb : b ≤ 400) : ∀ (F : List Cw) (n p d : Nat) (S : List Int32) (M : gM), FV (M.1 29) (M.1 30) p F → dF b F d g → d ≤ b → AR (M.1 46) S → S.length = d → M.1 0 70 = 0 → p + F.length ≤ 1000 → F.length < n → HV E M → wp (f_X10_sum_10 n (i3 ((p + F.length : Nat) : Int)) (i3 (d : Int)) (i3 (p : Int)) M) (fun r N => Fo [46] [70] M N ∧ srI (ev E F (some S)) r N) := by
  intro F
  induction F with
  | nil =>
    intro n p d S M hF hd hdb hA hS h70 hp hn hE
    cases n with
    | zero => simp at hn
    | succ n =>
      rw [f_X10_sum_10, List.length_nil, Nat.add_zero, if_pos (by rw [i3_le (by simp at hp; omega) (by simp at hp; omega) (by simp at hp; omega) (by simp at hp; omega)]; omega), ck_z0, wp_some]
      exact ⟨Fo.rf, h70, rfl, hA⟩
  | cons x F ih =>
    intro n p d S M hF hd hdb hA hS h70 hp hn hE
    rw [List.length_cons] at hp hn
    obtain ⟨e, hd1, hd2⟩ := dF_c hd
    have heb := dF_d hd1 hdb
    obtain ⟨hF1, hF2, hF3⟩ := hF
    cases n with
    | zero => omega
    | succ n =>
      obtain ⟨hok, h1, h2, h3⟩ := hd1
      obtain ⟨op, v⟩ := x
      have hop : op ≤ 6 := hok.1
      have hF1 : M.1 29 p = i3 (op : Int) := hF1
      have hF2 : op < 2 → M.1 30 p = i3 v := hF2
      rw [f_X10_sum_10, List.length_cons, if_neg (by rw [i3_le (by omega) (by omega) (by omega) (by omega)]; omega), ck_ok (by omega) (by omega) (by omega), wp_v, tn_n (by omega), hF1]
      have fin : ∀ (T : Nat) (val : Int32) (S' : List Int32), T + 1 = e → st1 E (op, v) S = some (val :: S') → S'.length = T → AR (M.1 46) S' → wp (f_X10_sum_10 n (i3 ((p + (F.length + 1) : Nat) : Int)) (i3 ((T + 1 : Nat) : Int)) (i3 (p : Int) + 1) (sI M 46 T val)) (fun r N => Fo [46] [70] M N ∧ srI (ev E ((op, v) :: F) (some S)) r N) := by
        intro T val S' hT hst hl hA'
        have f1 : Fo [46] [70] M (sI M 46 T val) := Fo.rf.i (by decide) (by decide)
        rw [ev, Option.bind_some, hst, i3_s1, show p + (F.length + 1) = p + 1 + F.length by omega]
        refine wp_mono (ih n (p + 1) (T + 1) (val :: S') (sI M 46 T val) ?_ (by rw [hT]; exact hd2) (by omega) ?_ (by rw [List.length_cons, hl]) (by rw [rI_n (by decide)]; exact h70) (by omega) (by omega) (hE.mv f1)) (fun r N hN => ⟨f1.tr hN.1, hN.2⟩)
        · rw [f1.e1 (by decide) (by decide), f1.e1 (by decide) (by decide)]; exact hF3
        · rw [rI_e]
          exact ⟨by rw [hl, up_e], AR_u S' (by omega) hA'⟩
      by_cases a0 : op < 2
      · obtain ⟨b1, b2⟩ := h1 a0
        rw [dF] at b2
        rw [if_neg (by rw [iL2, i3_le (by omega) (by omega) (by omega) (by omega)]; omega)]
        by_cases a1 : op = 0
        · subst a1
          rw [if_pos (by rfl), ck_ok (by omega) (by omega) (by omega), ck_ok (by omega) (by omega) (by omega), wp_m, tn_n (s := d) (by omega), hF2 (by omega), i3_s1, show (d : Int) + 1 = ((d + 1 : Nat) : Int) by omega]
          exact fin d _ S (by omega) rfl hS hA
        · have e1 : op = 1 := by omega
          subst e1
          have hv6 : v < 6 := hok.2.2.2.1 rfl
          have hv0 : 0 ≤ v := hok.2.1
          obtain ⟨w, rfl⟩ : ∃ w : Nat, v = w := ⟨v.toNat, by omega⟩
          rw [if_neg (by decide), ck_ok (by omega) (by omega) (by omega), tn_n (by omega), hF2 (by omega), s_var hE (by omega), g_b_some, ck_ok (by omega) (by omega) (by omega), wp_m, i3_s1, show (d : Int) + 1 = ((d + 1 : Nat) : Int) by omega]
          exact fin d _ S (by omega) rfl hS hA
      rw [if_pos (by rw [iL2, i3_le (by omega) (by omega) (by omega) (by omega)]; omega)]
      by_cases a6 : op = 6
      · subst a6
        obtain ⟨b1, b2⟩ := h2 rfl
        rw [dF] at b2
        match S, hS, hA with
        | [], hS, _ => rw [List.length_nil] at hS; omega
        | y :: S1, hS, hA =>
          rw [List.length_cons] at hS
          obtain ⟨T, hT⟩ : ∃ T : Nat, d = T + 1 := ⟨d - 1, by omega⟩
          have eT : S1.length = T := by omega
          have hy : M.1 46 T = y := by rw [← eT]; exact hA.1
          rw [if_pos (by rfl), hT, iL1, i3_sub, show ((T + 1 : Nat) : Int) - 1 = (T : Int) by omega, ck_ok (by omega) (by omega) (by omega), ck_ok (by omega) (by omega) (by omega), wp_m, tn_n (s := T) (by omega), hy]
          exact fin T (-y) S1 (by omega) rfl eT hA.2
      · obtain ⟨b1, b2⟩ := h3 (show 2 ≤ op by omega) a6
        rw [dF] at b2
        rw [if_neg (by rw [iL6, i3_eq (by omega) (by omega) (by omega) (by omega)]; omega)]
        match S, hS, hA with
        | [], hS, _ => rw [List.length_nil] at hS; omega
        | [y], hS, _ => simp at hS; omega
        | y :: z :: S2, hS, hA =>
          simp only [List.length_cons] at hS
          obtain ⟨T, hT⟩ : ∃ T : Nat, d = T + 2 := ⟨d - 2, by omega⟩
          have eT : S2.length = T := by omega
          have hz : M.1 46 T = z := by rw [← eT]; exact hA.2.1
          have hy : M.1 46 (T + 1) = y := by
            have := hA.1
            rwa [List.length_cons, eT] at this
          have sub1 : i3 ((T + 2 : Nat) : Int) - 1 = i3 ((T + 1 : Nat) : Int) := by rw [iL1, i3_sub]; congr 1; omega
          have sub2 : i3 ((T + 2 : Nat) : Int) - 2 = i3 (T : Int) := by rw [iL2, i3_sub]; congr 1; omega
          have sub3 : i3 ((T + 2 : Nat) : Int) + (-1) = i3 ((T + 1 : Nat) : Int) := by rw [show ((-1) : Int32) = i3 (-1) from rfl, i3_add]; congr 1; omega
          have sub4 : i3 ((T + 1 : Nat) : Int) - 1 = i3 (T : Int) := by rw [iL1, i3_sub]; congr 1; omega
          rw [hT, sub1, sub2, sub3, ck_ok (by omega) (by omega) (by omega), wp_v, ck_ok (by omega) (by omega) (by omega), wp_v, tn_n (s := T + 1) (by omega), tn_n (s := T) (by omega), hy, hz]
          have h4 : op = 2 ∨ op = 3 ∨ op = 4 ∨ op = 5 := by omega
          rcases h4 with g | g | g | g <;> subst g
          · rw [if_neg (by decide), f_X10_sum_137, if_pos (by rfl), sub4, ck_ok (by omega) (by omega) (by omega), wp_m, tn_n (s := T) (by omega)]
            exact fin T _ S2 (by omega) rfl eT hA.2.2
          · rw [if_neg (by decide), f_X10_sum_137, if_neg (by decide), if_pos (by rfl), sub4, ck_ok (by omega) (by omega) (by omega), wp_m, tn_n (s := T) (by omega)]
            exact fin T _ S2 (by omega) rfl eT hA.2.2
          · rw [if_neg (by decide), f_X10_sum_137, if_neg (by decide), if_neg (by decide), if_pos (by rfl), sub4, ck_ok (by omega) (by omega) (by omega), wp_m, tn_n (s := T) (by omega)]
            exact fin T _ S2 (by omega) rfl eT hA.2.2
          · rw [if_pos (by rfl)]
            refine wp_if (fun h0 => ?_) (fun h0 => ?_)
            · rw [wp_m, wp_some, ev, Option.bind_some, show st1 E (5, v) (y :: z :: S2) = none by rw [h0]; rfl, ev_n]
              exact ⟨Fo.rf.o (by decide), by show (sI M 0 70 1).1 0 70 = 1; rw [rI_e, up_e]⟩
            · rw [f_X10_sum_137, if_neg (by decide), if_neg (by decide), if_neg (by decide), nz_ok h0, sub4, ck_ok (by omega) (by omega) (by omega), wp_m, tn_n (s := T) (by omega)]
              exact fin T _ S2 (by omega) (by show (if y = 0 then none else some ((z / y) :: S2)) = some ((z / y) :: S2); rw [if_neg h0]) eT hA.2.2
theorem d_sum {F : List Cw} {p : Nat} (hF : FV (M.1 29) (M.1 30) p F) (hd : dF 15 F 0 1) (hp : p + F.length ≤ 1000) (hE : HV E M) : wp (f_X10_sum (i3 (p : Int)) (i3 ((p + F.length : Nat) : Int)) M) (fun r N => Fo [46] [70] M N ∧ match suV E F with
    | none => N.1 0 70 = 1
    | some v => N.1 0 70 = 0 ∧ r = v) := by
  rw [f_X10_sum, wp_m]
  have f0 : Fo [46] [70] M (sI M 0 70 0) := Fo.rf.o (by decide)
  have := s_sum (E := E) (b := 15) (g := 1) (by omega) F FU p 0 [] (sI M 0 70 0) (by rw [f0.e1 (by decide) (by decide), f0.e1 (by decide) (by decide)]; exact hF) hd (by omega) trivial rfl (by rw [rI_e, up_e]) hp (by rw [FU_s]; omega) (hE.mv f0)
  refine wp_mono this (fun r N hN => ⟨f0.tr hN.1, ?_⟩)
  have h2 := hN.2
  rcases su_x (E := E) hd with ⟨g1, g2⟩ | ⟨v, g1, g2⟩
  · rw [g1] at h2
    simp only [g2]
    exact h2
  · rw [g1] at h2
    simp only [g2]
    exact ⟨h2.1, h2.2.1.trans h2.2.2.1⟩
def lcT (m : Nat) : Int := [300, 301, 60, 302].getD m 0
def lP (M : gM) (h k : Nat) (l : Lw) : Prop := M.1 32 k = b2i l.2.1 ∧ M.1 33 k = i3 (lcT l.2.2.1) ∧ ∃ a : Nat, (500 * h ≤ a ∧ a + l.2.2.2.1.length + l.2.2.2.2.length ≤ 500 * h + 500) ∧ M.1 34 k = i3 (a : Int) ∧ M.1 35 k = i3 ((a + l.2.2.2.1.length : Nat) : Int) ∧ M.1 36 k = i3 ((a + l.2.2.2.1.length + l.2.2.2.2.length : Nat) : Int) ∧ FV (M.1 29) (M.1 30) a l.2.2.2.1 ∧ FV (M.1 29) (M.1 30) (a + l.2.2.2.1.length) l.2.2.2.2
theorem lP.mv {w k : Nat} {l : Lw} (h : lP M w k l) (e : ∀ q, 29 ≤ q → q ≤ 37 → N.1 q = M.1 q) : lP N w k l := by
  unfold lP
  rw [e 29 (by omega) (by omega), e 30 (by omega) (by omega), e 32 (by omega) (by omega), e 33 (by omega) (by omega), e 34 (by omega) (by omega), e 35 (by omega) (by omega), e 36 (by omega) (by omega)]
  exact h
theorem lP.mh {w k : Nat} {l : Lw} (hk : 200 * w ≤ k ∧ k < 200 * w + 200) (h : lP M w k l) (e : Hf w M N) : lP N w k l := by
  obtain ⟨h1, h2, a, h3, h4, h5, h6, h7, h8⟩ := h
  have g : ∀ q, 32 ≤ q → q ≤ 37 → N.1 q k = M.1 q k := fun q q1 q2 => e q (by omega) q2 (by omega) k (fun g => by omega) (fun _ => hk)
  have g2 : ∀ j, 500 * w ≤ j → j < 500 * w + 500 → N.1 29 j = M.1 29 j ∧ N.1 30 j = M.1 30 j := fun j j1 j2 => ⟨e 29 (by omega) (by omega) (by omega) j (fun _ => ⟨j1, j2⟩) (fun g => by omega), e 30 (by omega) (by omega) (by omega) j (fun _ => ⟨j1, j2⟩) (fun g => by omega)⟩
  exact ⟨by rw [g 32 (by omega) (by omega), h1], by rw [g 33 (by omega) (by omega), h2], a, h3, by rw [g 34 (by omega) (by omega), h4], by rw [g 35 (by omega) (by omega), h5], by rw [g 36 (by omega) (by omega), h6], FV_c _ _ (fun j j1 j2 => g2 j (by omega) (by omega)) h7, FV_c _ _ (fun j j1 j2 => g2 j (by omega) (by omega)) h8⟩
def rL (M : gM) (h k row : Nat) : List Lw → Prop
  | [] => True
  | l :: L => M.1 37 k = i3 (((if l.1 then row + 1 else row) : Nat) : Int) ∧ lP M h k l ∧ rL M h (k + 1) (if l.1 then row + 1 else row) L
theorem rL.mv {w : Nat} (e : ∀ q, 29 ≤ q → q ≤ 37 → N.1 q = M.1 q) : ∀ (L : List Lw) (k row : Nat), rL M w k row L → rL N w k row L := by
  intro L
  induction L with
  | nil => intro k row _; trivial
  | cons l L ih =>
    intro k row h
    exact ⟨by rw [e 37 (by omega) (by omega)]; exact h.1, h.2.1.mv e, ih _ _ h.2.2⟩
theorem rL_h {w : Nat} (e : Hf w M N) : ∀ (L : List Lw) (k row : Nat), 200 * w ≤ k → k + L.length ≤ 200 * w + 200 → rL M w k row L → rL N w k row L := by
  intro L
  induction L with
  | nil => intro k row _ _ _; trivial
  | cons l L ih =>
    intro k row h1 h2 h
    rw [List.length_cons] at h2
    exact ⟨by rw [e 37 (by omega) (by omega) (by omega) k (fun g => by omega) (fun _ => ⟨h1, by omega⟩)]; exact h.1, h.2.1.mh ⟨h1, by omega⟩ e, ih _ _ (by omega) (by omega) h.2.2⟩
theorem d_lit {w k : Nat} {l : Lw} (hk : k < 400) (hl : okL l) (hw : w < 2) (h : lP M w k l) (hE : HV E M) : wp (f_X10_isLit (i3 (k : Int)) M) (fun r N => r = liV E l ∧ Fo [46] [70] M N) := by
  obtain ⟨o, nn, m, A, B⟩ := l
  obtain ⟨hm, hA, hB⟩ := hl
  have hm : m < 4 := hm
  have hA : dF 15 A 0 1 := hA
  have hB : dF 15 B 0 1 := hB
  obtain ⟨h32, h33, a, h1, h34, h35, h36, hFA, hFB⟩ := h
  have h1 : a + A.length + B.length ≤ 1000 := by have h1 : 500 * w ≤ a ∧ a + A.length + B.length ≤ 500 * w + 500 := h1; omega
  have hliv : liV E (o, nn, m, A, B) = (match suV E A, suV E B with | some x, some y => (cmB m x y) != nn | _, _ => nn) := rfl
  have h147 : ∀ (N : gM) (so : Bool), Fo [46] [70] M N → f_X10_isLit_147 (i3 (k : Int)) (b2i so) N = some (so != nn, N) := by
    intro N so f
    rw [f_X10_isLit_147, ck_ok (by omega) (by omega) (by omega), tn_n (by omega), f.e1 (by decide) (by decide), h32]
    cases so <;> cases nn <;> rfl
  rw [f_X10_isLit, ck_ok (by omega) (by omega) (by omega), ck_ok (by omega) (by omega) (by omega), tn_n (by omega), h34, h35]
  refine wp_b _ (d_sum (E := E) hFA hA (by omega) hE) (fun r N hN => ?_)
  obtain ⟨f, hN⟩ := hN
  cases hsA : suV E A with
  | none =>
    rw [hsA] at hN
    have hN : N.1 0 70 = 1 := hN
    rw [hN, if_neg (by decide), ck_ok (by omega) (by omega) (by omega), f.e1 (by decide) (by decide), h32, tb_ok, wp_some, hliv, hsA]
    exact ⟨rfl, f⟩
  | some x =>
    rw [hsA] at hN
    have hN : N.1 0 70 = 0 ∧ r = x := hN
    rw [hN.1, if_pos rfl, ck_ok (by omega) (by omega) (by omega), ck_ok (by omega) (by omega) (by omega), f.e1 (k := 35) (by decide) (by decide), f.e1 (k := 36) (by decide) (by decide), h35, h36]
    refine wp_b _ (d_sum (E := E) (M := N) (F := B) (p := a + A.length) (by rw [f.e1 (by decide) (by decide), f.e1 (by decide) (by decide)]; exact hFB) hB (by omega) (hE.mv f)) (fun r2 N2 hN2 => ?_)
    obtain ⟨f2, hN2⟩ := hN2
    have f3 := f.tr f2
    cases hsB : suV E B with
    | none =>
      rw [hsB] at hN2
      have hN2 : N2.1 0 70 = 1 := hN2
      rw [hN2, if_neg (by decide), ck_ok (by omega) (by omega) (by omega), f3.e1 (by decide) (by decide), h32, tb_ok, wp_some, hliv, hsA, hsB]
      exact ⟨rfl, f3⟩
    | some y =>
      rw [hsB] at hN2
      have hN2 : N2.1 0 70 = 0 ∧ r2 = y := hN2
      have h33' : M.1 33 k = i3 (lcT m) := h33
      have hl2 : liV E (o, nn, m, A, B) = (cmB m x y != nn) := by rw [hliv, hsA, hsB]
      rw [hN2.1, if_pos rfl, ck_ok (by omega) (by omega) (by omega), ck_ok (by omega) (by omega) (by omega), ck_ok (by omega) (by omega) (by omega), f3.e1 (by decide) (by decide), h33', hN.2, hN2.2, hl2]
      have : m = 0 ∨ m = 1 ∨ m = 2 ∨ m = 3 := by omega
      rcases this with g | g | g | g <;> subst g
      · rw [if_pos (by rfl), show cmB 0 x y = decide (x = y) from rfl]
        refine wp_if (fun h => ?_) (fun h => ?_)
        · rw [show (1 : Int32) = b2i true from rfl, h147 N2 true f3, wp_some, decide_eq_true h]; exact ⟨rfl, f3⟩
        · rw [show (0 : Int32) = b2i false from rfl, h147 N2 false f3, wp_some, decide_eq_false h]; exact ⟨rfl, f3⟩
      · rw [if_neg (by decide), if_pos (by rfl), show cmB 1 x y = !decide (x = y) from rfl]
        refine wp_if (fun h => ?_) (fun h => ?_)
        · rw [show (0 : Int32) = b2i false from rfl, h147 N2 false f3, wp_some, decide_eq_true h]; exact ⟨rfl, f3⟩
        · rw [show (1 : Int32) = b2i true from rfl, h147 N2 true f3, wp_some, decide_eq_false h]; exact ⟨rfl, f3⟩
      · rw [if_neg (by decide), if_neg (by decide), if_neg (by decide), show cmB 2 x y = !decide (y ≤ x) from rfl]
        refine wp_if (fun h => ?_) (fun h => ?_)
        · rw [show (0 : Int32) = b2i false from rfl, h147 N2 false f3, wp_some, decide_eq_true h]; exact ⟨rfl, f3⟩
        · rw [show (1 : Int32) = b2i true from rfl, h147 N2 true f3, wp_some, decide_eq_false h]; exact ⟨rfl, f3⟩
      · rw [if_neg (by decide), if_neg (by decide), if_pos (by rfl), show cmB 3 x y = !decide (y < x) from rfl]
        refine wp_if (fun h => ?_) (fun h => ?_)
        · rw [show (0 : Int32) = b2i false from rfl, h147 N2 false f3, wp_some, decide_eq_true h]; exact ⟨rfl, f3⟩
        · rw [show (1 : Int32) = b2i true from rfl, h147 N2 true f3, wp_some, decide_eq_false h]; exact ⟨rfl, f3⟩
theorem d_held {w to : Nat} (hw : w < 2) (hto : to ≤ 400) : ∀ (L : List Lw) (n m k row : Nat) (all : Bool) (M : gM), (∀ l ∈ L, okL l) → rL M w k row L → k + L.length = to → L.length < n → L.length < m → row ≤ k → HV E M → wp (f_X10_isHeld_25 (f_X10_isHeld_9 m) n (i3 (to : Int)) (i3 (k : Int)) (i3 (row : Int)) (b2i all) M) (fun r N => r = hoV E all L ∧ Fo [46] [70] M N) := by
  intro L
  induction L with
  | nil =>
    intro n m k row all M hok hL hk hn hm hrow hE
    rw [List.length_nil] at hk hn hm
    cases n with
    | zero => omega
    | succ n =>
      rw [f_X10_isHeld_25, if_pos (by rw [i3_le (by omega) (by omega) (by omega) (by omega)]; omega), f_X10_isHeld_59]
      cases all with
      | true => rw [if_neg (by decide), wp_some]; exact ⟨rfl, Fo.rf⟩
      | false =>
        cases m with
        | zero => omega
        | succ m =>
          rw [if_pos (show b2i false = 0 from rfl), f_X10_isHeld_9, if_pos (by rw [i3_le (by omega) (by omega) (by omega) (by omega)]; omega), wp_some]
          exact ⟨rfl, Fo.rf⟩
  | cons l L ih =>
    intro n m k row all M hok hL hk hn hm hrow hE
    rw [List.length_cons] at hk hn hm
    have hl := hok l List.mem_cons_self
    have hL' : ∀ l' ∈ L, okL l' := fun l' h => hok l' (List.mem_cons_of_mem _ h)
    obtain ⟨q1, q2, q3⟩ := hL
    have lit : ∀ (n m row : Nat), L.length < n → L.length < m → row ≤ k + 1 → rL M w (k + 1) row L → wp (g_b (f_X10_isLit (i3 (k : Int)) M) (fun r3 M2 => (g_v (b2i r3) (fun y4 => (f_X10_isHeld_25 (f_X10_isHeld_9 m) n (i3 (to : Int)) (i3 (k : Int) + 1) (i3 (row : Int)) y4 M2))))) (fun r N => r = hoV E (liV E l) L ∧ Fo [46] [70] M N) := by
      intro n m row hn hm hr h3
      refine wp_b _ (d_lit (E := E) (by omega) hl hw q2 hE) (fun r N hN => ?_)
      obtain ⟨rfl, f⟩ := hN
      rw [wp_v, i3_s1]
      refine wp_mono (ih n m (k + 1) row (liV E l) N hL' (h3.mv (fun q g1 g2 => f.e1 (by omega) (by simp; omega))) (by omega) hn hm (by omega) (hE.mv f)) (fun r N2 hN2 => ⟨hN2.1, f.tr hN2.2⟩)
    cases n with
    | zero => omega
    | succ n =>
      rw [f_X10_isHeld_25, if_neg (by rw [i3_le (by omega) (by omega) (by omega) (by omega)]; omega), ck_ok (by omega) (by omega) (by omega), tn_n (by omega)]
      cases ho : l.1 with
      | false =>
        rw [ho] at q3 q1
        have q1 : M.1 37 k = i3 (row : Int) := q1
        have q3 : rL M w (k + 1) row L := q3
        have eh : hoV E all (l :: L) = hoV E (all && liV E l) L := by rw [hoV, ho, Bool.false_and, if_neg (by decide), Bool.false_or]
        rw [q1, if_pos rfl, eh]
        cases all with
        | false =>
          rw [if_pos (show b2i false = 0 from rfl), i3_s1, Bool.false_and]
          exact ih n m (k + 1) row false M hL' q3 (by omega) (by omega) (by omega) (by omega) hE
        | true =>
          rw [if_neg (by decide), Bool.true_and]
          exact lit n m row (by omega) (by omega) (by omega) q3
      | true =>
        rw [ho] at q3 q1
        have q1 : M.1 37 k = i3 ((row + 1 : Nat) : Int) := q1
        have q3 : rL M w (k + 1) (row + 1) L := q3
        rw [q1, if_neg (by rw [i3_eq (by omega) (by omega) (by omega) (by omega)]; omega), f_X10_isHeld_59, hoV, ho, Bool.true_and, Bool.true_or, Bool.true_and]
        cases all with
        | true => rw [if_neg (by decide), wp_some, if_pos rfl]; exact ⟨rfl, Fo.rf⟩
        | false =>
          rw [if_pos (show b2i false = 0 from rfl), if_neg (by decide)]
          cases m with
          | zero => omega
          | succ m =>
            rw [f_X10_isHeld_9, if_neg (by rw [i3_le (by omega) (by omega) (by omega) (by omega)]; omega), ck_ok (by omega) (by omega) (by omega), tn_n (by omega), q1, wp_v, FU_s, f_X10_isHeld_25, if_neg (by rw [i3_le (by omega) (by omega) (by omega) (by omega)]; omega), ck_ok (by omega) (by omega) (by omega), tn_n (by omega), q1, if_pos rfl, if_neg (by decide)]
            exact lit 999999 m (row + 1) (by omega) (by omega) (by omega) q3
end
section
variable {M : gM} {w c : Nat}
theorem HV_s {N : gM} : HV (vr (N.1 0 64) (N.1 0 65) (N.1 0 66) (N.1 0 67) (N.1 0 68) (N.1 0 69)) N := ⟨rfl, rfl, rfl, rfl, rfl, rfl⟩
theorem Cd2 (hw : w < 2) {L : List Lw} (hL : ∀ l ∈ L, okL l) (h0 : ∃ l L', L = l :: L' ∧ l.1 = false) (hr : rL M w c 0 L) (hc0 : 200 * w ≤ c) (hc : c + L.length ≤ 200 * w + 200) : Cond2 M w (i3 (c : Int)) (i3 ((c + L.length : Nat) : Int)) (fun a b c d e f => hoV (vr a b c d e f) true L) := by
  intro N hN
  obtain ⟨l, L', e1, e2⟩ := h0
  have hlen : 1 ≤ L.length := by rw [e1, List.length_cons]; omega
  have hr2 := rL_h hN L c 0 hc0 hc hr
  have h37 : N.1 37 c = i3 ((0 : Nat) : Int) := by
    rw [e1] at hr2
    have := hr2.1
    rw [e2] at this
    exact this
  rw [f_X10_isHeld, if_neg (by rw [i3_eq (by omega) (by omega) (by omega) (by omega)]; omega), FU_s, f_X10_isHeld_9, if_neg (by rw [i3_le (by omega) (by omega) (by omega) (by omega)]; omega), ck_ok (by omega) (by omega) (by omega), tn_n (by omega), h37, wp_v]
  exact d_held (to := c + L.length) hw (by omega) L FU 999999 c 0 true N hL hr2 rfl (by rw [FU_s]; omega) (by omega) (by omega) HV_s
theorem Cn2 {c : Int32} : Cond2 M w c c (fun _ _ _ _ _ _ => true) := by
  intro N hN
  rw [f_X10_isHeld, if_pos rfl, wp_some]
  exact ⟨rfl, Fo.rf⟩
theorem Sm2 (hw : w < 2) {X : List Cw} (hX : dF 15 X 0 1) (hF : FV (M.1 29) (M.1 30) c X) (hc0 : 500 * w ≤ c) (hc : c + X.length ≤ 500 * w + 500) : Sum2 M w (i3 (c : Int)) (i3 ((c + X.length : Nat) : Int)) (fun a b c d e f => suV (vr a b c d e f) X) := by
  intro N hN
  exact d_sum (FV_c _ _ (fun j j1 j2 => ⟨hN 29 (by omega) (by omega) (by omega) j (fun _ => ⟨by omega, by omega⟩) (fun g => by omega), hN 30 (by omega) (by omega) (by omega) j (fun _ => ⟨by omega, by omega⟩) (fun g => by omega)⟩) hF) hX (by omega) HV_s
end
