/-! ===== KNOWN: what the gusts told ahead let be done ===== -/
def kyR (R : tR) (p : Int) (fc : Nat → Int) (s0 : Nat) : Nat → Nat → Prop
  | 0, s => s = s0
  | n + 1, q => ∃ s a : Nat, kyR R p fc s0 n s ∧ caP R p s a ∧ nxR R p s a (fc n) = (q : Int)
noncomputable def keE (R : tR) (p : Int) (fc : Nat → Int) (F s0 : Nat) : Int := leA (fun n => ∃ q, kyR R p fc s0 n q ∧ ovP R q) (F + 1) (-2)
/-- from where one is OVER in time: j BEATS ahead of the end e -/
def usR (R : tR) (p : Int) (fc : Nat → Int) (s0 e : Nat) : Nat → Nat → Prop
  | 0, s => kyR R p fc s0 e s ∧ ovP R s
  | j + 1, s => kyR R p fc s0 (e - (j + 1)) s ∧ ∃ a, caP R p s a ∧ okP R p (usR R p fc s0 e j) s a (fc (e - (j + 1)))
noncomputable def kaR (R : tR) (p : Int) (fc : Nat → Int) (s0 e b s : Nat) : Int := leA (fun a => caP R p s a ∧ okP R p (usR R p fc s0 e (e - (b + 1))) s a (fc b)) 6 (-1)
/-- the way -/
noncomputable def paR (R : tR) (p : Int) (fc : Nat → Int) (s0 e : Nat) : Nat → Nat
  | 0 => s0
  | b + 1 => (nxR R p (paR R p fc s0 e b) (kaR R p fc s0 e b (paR R p fc s0 e b)).toNat (fc b)).toNat
theorem ky_st {R : tR} (hR : tOk R) {p : Int} {fc : Nat → Int} {s0 : Nat} (h0 : stP R s0) : ∀ n q, kyR R p fc s0 n q → stP R q := by
  intro n
  cases n with
  | zero => intro q h; rw [show q = s0 from h]; exact h0
  | succ n =>
    rintro q ⟨s, a, -, -, h⟩
    rcases nx_r hR p s a (fc n) with g | g
    · omega
    · rw [← h]; exact g
theorem us_ky {R : tR} {p : Int} {fc : Nat → Int} {s0 e j s : Nat} (h : usR R p fc s0 e j s) : kyR R p fc s0 (e - j) s := by
  cases j with
  | zero => exact h.1
  | succ j => exact h.1
theorem us_b {R : tR} {p : Int} {fc : Nat → Int} {s0 e b s : Nat} (hb : b < e) : usR R p fc s0 e (e - b) s ↔ kyR R p fc s0 b s ∧ ∃ a, caP R p s a ∧ okP R p (usR R p fc s0 e (e - (b + 1))) s a (fc b) := by
  have e1 : e - b = (e - (b + 1)) + 1 := by omega
  have e2 : e - (e - (b + 1) + 1) = b := by omega
  rw [e1, usR, e2]
/-- from a STATE that can be had an end that can be had is met all along -/
theorem pa_us {R : tR} (hR : tOk R) {p : Int} {fc : Nat → Int} {s0 e : Nat} (hu : usR R p fc s0 e e s0) : ∀ b, b ≤ e → usR R p fc s0 e (e - b) (paR R p fc s0 e b) := by
  intro b
  induction b with
  | zero => intro _; exact hu
  | succ b ih =>
    intro hb
    obtain ⟨h1, a, h2, h3⟩ := (us_b (by omega)).1 (ih (by omega))
    rcases leA_x (P := fun a => caP R p (paR R p fc s0 e b) a ∧ okP R p (usR R p fc s0 e (e - (b + 1))) (paR R p fc s0 e b) a (fc b)) (n := 6) (-1) with ⟨c, g1, g2, g3, g4⟩ | ⟨g1, -⟩
    · have e1 : kaR R p fc s0 e b (paR R p fc s0 e b) = c := g4
      rw [paR, e1, Int.toNat_natCast]
      exact g2.2.2
    · exact absurd ⟨h2, h3⟩ (g1 a (ca_6 hR h2))
theorem ka_x {R : tR} (hR : tOk R) {p : Int} {fc : Nat → Int} {s0 e b s : Nat} (hb : b < e) (hu : usR R p fc s0 e (e - b) s) : ∃ a : Nat, a < 6 ∧ kaR R p fc s0 e b s = a ∧ caP R p s a ∧ okP R p (usR R p fc s0 e (e - (b + 1))) s a (fc b) := by
  obtain ⟨h1, a, h2, h3⟩ := (us_b hb).1 hu
  rcases leA_x (P := fun a => caP R p s a ∧ okP R p (usR R p fc s0 e (e - (b + 1))) s a (fc b)) (n := 6) (-1) with ⟨c, g1, g2, g3, g4⟩ | ⟨g1, -⟩
  · exact ⟨c, g1, g4, g2.1, g2.2⟩
  · exact absurd ⟨h2, h3⟩ (g1 a (ca_6 hR h2))
/-- the end that was found is met from the start -/
theorem us_0 {R : tR} (hR : tOk R) {p : Int} {fc : Nat → Int} {s0 e : Nat} (hq : ∃ q, kyR R p fc s0 e q ∧ ovP R q) : usR R p fc s0 e e s0 := by
  have key : ∀ j, j ≤ e → ∃ q, usR R p fc s0 e j q := by
    intro j
    induction j with
    | zero => exact fun _ => hq
    | succ j ih =>
      intro hj
      obtain ⟨q, hq⟩ := ih (by omega)
      have := us_ky hq
      rw [show e - j = (e - (j + 1)) + 1 by omega] at this
      obtain ⟨s, a, h1, h2, h3⟩ := this
      exact ⟨s, h1, a, h2, (ok_t h3).2 hq⟩
  obtain ⟨q, hq⟩ := key e (Nat.le_refl _)
  have h := us_ky hq
  rw [Nat.sub_self] at h
  rw [show q = s0 from h] at hq
  exact hq
/-! the class -/
theorem bnf {c : Bool} (h : ¬ c = false) : c = true := by
  cases c
  · exact absurd rfl h
  · rfl
theorem k_fill {c n0 : Nat} (hc : n0 < 2147483648) (hn : n0 ≤ 999999) {v : Int32} {M : gM} : wp (f_J7_fill_53178 c n0 v M) (fun _ N => Fr [c] M N ∧ ∀ i : Nat, i < n0 → N.1 c i = v) := by
  rw [f_J7_fill_53178, wp_v]
  have e : Int32.ofNat n0 = i3 (n0 : Int) := i3_nI n0
  rw [e]
  refine wp_lp (F := fun n x (_ : Unit) M => f_J7_fill_53178_5 c n0 n v (i3 x) (i3 n0) M) (I := fun x _ N => Fr [c] M N ∧ ∀ i : Nat, i < x → N.1 c i = v) n0 ?_ ?_ FU 0 () M (by omega) (by rw [FU_s]; omega) ⟨Fr.rf, fun i hi => by omega⟩
  · intro n x _ N hx hI hk
    obtain ⟨f, i1⟩ := hI
    rw [f_J7_fill_53178_5]
    rw [show i3 (x : Int) + 1 = i3 ((x + 1 : Nat) : Int) from i3_sn x]
    simp (disch := omega) only [i3_le, ck_ok, i3_tn, Int.toNat_natCast]
    rw [if_neg (by omega), wp_m]
    refine hk () _ ⟨f.i (by simp), fun i hi => ?_⟩
    rw [rI_e]
    by_cases hix : i = x
    · subst hix; rw [up_e]
    · rw [up_n hix]; exact i1 i (by omega)
  · intro n _ N hI
    obtain ⟨f, i1⟩ := hI
    rw [f_J7_fill_53178_5]
    simp (disch := omega) only [i3_le]
    rw [if_pos (by omega), wp_some]
    exact ⟨f, i1⟩
def fcI (fc : Nat → Int) (F : Nat) (M : gM) : Prop := F ≤ 24 ∧ M.1 57 1 = i3 F ∧ ∀ b : Nat, b < F → M.1 58 b = i3 (fc b) ∧ -12 ≤ fc b ∧ fc b ≤ 12
/-- what is had after up to n BEATS -/
def hdI (R : tR) (p : Int) (fc : Nat → Int) (s0 n : Nat) (N : gM) : Prop := ∀ q : Nat, q < 2079 → (∀ j : Nat, j ≤ n → bt (N.1 60 q) j = b_ (kyR R p fc s0 j q)) ∧ ∀ j : Nat, n < j → j < 31 → bt (N.1 60 q) j = false
theorem k_go42 {R : tR} {p : Int} {t st F T s : Nat} {fc : Nat → Int} {k4 : Int32 → Int32 → Int32 → gM → Option (Bool × gM)} {Q : Bool → gM → Prop} {M : gM} {m : Int32} {D : Nat → Prop} (hC : CB R p t st M) (hF : fcI fc F M) (hT : T < F) (hs : s < 2079) (hm : ∀ b : Nat, b < 6 → bt m b = b_ (D b)) (hD : ∀ b, D b → caP R p s b) (b0 : Bool)
    (hk : ∀ (b : Bool) N, CB R p t st N → Fr (cBt ++ [60]) M N → (∀ q : Nat, q < 2079 → ∀ j : Nat, j < 31 → bt (N.1 60 q) j = (bt (M.1 60 q) j || (decide (j = T + 1) && b_ (∃ a, D a ∧ nxR R p s a (fc T) = (q : Int))))) → (b = (b0 || b_ (∃ a q : Nat, D a ∧ nxR R p s a (fc T) = (q : Int) ∧ ovP R q))) → wp (k4 (i3 T) (b2i b) (i3 ((s + 1 : Nat) : Int)) N) Q) :
    wp (f_X6_goForwards_42 k4 FU (i3 T) (b2i b0) (i3 s) m (i3 ((0 : Nat) : Int)) M) Q := by
  have hR := hC.1.1
  have hna := hR.2.1
  obtain ⟨hF1, hF2, hF3⟩ := hF
  refine wp_lp (F := fun n x (c : Bool) M => f_X6_goForwards_42 k4 n (i3 T) (b2i c) (i3 s) m (i3 x) M)
    (I := fun x c N => CB R p t st N ∧ Fr (cBt ++ [60]) M N ∧ (∀ q : Nat, q < 2079 → ∀ j : Nat, j < 31 → bt (N.1 60 q) j = (bt (M.1 60 q) j || (decide (j = T + 1) && b_ (∃ a, a < x ∧ D a ∧ nxR R p s a (fc T) = (q : Int))))) ∧ (c = (b0 || b_ (∃ a q : Nat, a < x ∧ D a ∧ nxR R p s a (fc T) = (q : Int) ∧ ovP R q)))) 6 ?_ ?_ FU 0 b0 M (by omega) (by rw [FU_s]; omega) ⟨hC, Fr.rf, fun q hq j hj => ?_, ?_⟩
  · intro n x c N hx hI hk2
    obtain ⟨i1, fr, i2, i4⟩ := hI
    have e58 : N.1 58 T = i3 (fc T) := by rw [fr.e1 (by decide)]; exact (hF3 T hT).1
    have hfc := (hF3 T hT).2
    rw [f_X6_goForwards_42]
    -- nothing had
    have none : ¬ (D x ∧ 0 ≤ nxR R p s x (fc T)) → ∀ N2, CB R p t st N2 → Fr cBt N N2 → wp (f_X6_goForwards_42 k4 n (i3 T) (b2i c) (i3 s) m (i3 ((x + 1 : Nat) : Int)) N2) Q := by
      intro hno N2 g1 g2
      refine hk2 c N2 ⟨g1, fr.tr (g2.up (by decide)), fun q hq j hj => ?_, ?_⟩
      · rw [g2.e1 (by decide), i2 q hq j hj]
        congr 2
        refine b_e ⟨fun ⟨a, h1, h2⟩ => ⟨a, by omega, h2⟩, fun ⟨a, h1, h2, h3⟩ => ⟨a, ?_, h2, h3⟩⟩
        by_cases hax : a = x
        · subst hax
          exact absurd ⟨h2, by omega⟩ hno
        · omega
      · rw [i4]
        congr 1
        refine b_e ⟨fun ⟨a, q, h1, h2⟩ => ⟨a, q, by omega, h2⟩, fun ⟨a, q, h1, h2, h3⟩ => ⟨a, q, ?_, h2, h3⟩⟩
        by_cases hax : a = x
        · subst hax
          exact absurd ⟨h2, by omega⟩ hno
        · omega
    simp (disch := omega) only [iL6, i3_le]
    rw [if_neg (by omega)]
    simp (disch := omega) only [bt_i, hm x hx]
    rw [b_if]
    refine wp_if (fun hd => ?_) (fun hd => ?_)
    · have hc := hD x hd
      rw [ck_ok (by omega) (by omega) (by omega), tn_n (by omega), e58]
      refine wp_b _ (c_after hs hc.1 hfc i1) (fun r N2 hN => ?_)
      obtain ⟨rfl, g1, g2⟩ := hN
      rw [f_X6_goForwards_80]
      rw [show i3 (x : Int) + 1 = i3 ((x + 1 : Nat) : Int) from i3_sn x]
      rcases nx_q hR p s x (fc T) with hq | ⟨q, hq, hq2, hq3⟩
      · rw [hq, if_pos (show i3 (-2) < 0 by decide)]
        exact none (fun h => by have := h.2; omega) N2 g1 g2
      · rw [hq]
        simp (disch := omega) only [iL0, i3_lt]
        rw [if_neg (by omega)]
        simp (disch := omega) only [ck_ok, i3_tn, Int.toNat_natCast, iL1, i3_add]
        rw [wp_m]
        have q60 : ∀ u : Nat, u < 2079 → ∀ j : Nat, j < 31 → bt ((sI N2 60 q (N2.1 60 q ||| i3 1 <<< (i3 ((T : Int) + 1) &&& 31))).1 60 u) j = (bt (N.1 60 u) j || (decide (j = T + 1) && decide (u = q))) := by
          intro u hu j hj
          have ho := bt_or (m := N2.1 60 q) (a := T + 1) (b := j) (by omega) (by omega)
          rw [rI_e]
          by_cases huq : u = q
          · subst huq
            rw [up_e]
            refine (show bt (N2.1 60 u ||| (1 : Int32) <<< (i3 ((T + 1 : Nat) : Int) &&& 31)) j = _ from ho).trans ?_
            rw [g2.e1 (by decide)]
            congr 1
            by_cases hj2 : j = T + 1
            · simp [hj2]
            · simp [hj2, Ne.symm hj2]
          · rw [up_n huq, g2.e1 (by decide)]
            simp [huq]
        have fQ : Fr (cBt ++ [60]) M (sI N2 60 q (N2.1 60 q ||| i3 1 <<< (i3 ((T : Int) + 1) &&& 31))) := (fr.tr (g2.up (by decide))).i (by decide)
        have hCQ : CB R p t st (sI N2 60 q (N2.1 60 q ||| i3 1 <<< (i3 ((T : Int) + 1) &&& 31))) := g1.mv (S := [60]) (Fr.rf.i (by decide)) (by decide)
        generalize sI N2 60 q (N2.1 60 q ||| i3 1 <<< (i3 ((T : Int) + 1) &&& 31)) = N3 at q60 fQ hCQ ⊢
        have had : ∀ u : Nat, u < 2079 → ∀ j : Nat, j < 31 → bt (N3.1 60 u) j = (bt (M.1 60 u) j || (decide (j = T + 1) && b_ (∃ a, a < x + 1 ∧ D a ∧ nxR R p s a (fc T) = (u : Int)))) := by
          intro u hu j hj
          rw [q60 u hu j hj, i2 u hu j hj, Bool.or_assoc]
          congr 1
          by_cases hj2 : j = T + 1
          · simp only [hj2, decide_true, Bool.true_and]
            by_cases huq : u = q
            · subst huq
              rw [b_t (p := ∃ a, a < x + 1 ∧ D a ∧ nxR R p s a (fc T) = (u : Int)) ⟨x, by omega, hd, hq⟩]
              simp
            · simp only [huq, decide_false, Bool.or_false]
              refine b_e ⟨fun ⟨a, h1, h2⟩ => ⟨a, by omega, h2⟩, fun ⟨a, h1, h2, h3⟩ => ⟨a, ?_, h2, h3⟩⟩
              by_cases hax : a = x
              · subst hax
                omega
              · omega
          · simp [hj2]
        have ovr : ∀ b : Bool, b = (c || b_ (ovP R q)) → b = (b0 || b_ (∃ a u : Nat, a < x + 1 ∧ D a ∧ nxR R p s a (fc T) = (u : Int) ∧ ovP R u)) := by
          intro b hb
          rw [hb, i4, Bool.or_assoc]
          congr 1
          by_cases ho : ovP R q
          · rw [b_t ho, b_t (p := ∃ a u : Nat, a < x + 1 ∧ D a ∧ nxR R p s a (fc T) = (u : Int) ∧ ovP R u) ⟨x, q, by omega, hd, hq, ho⟩, Bool.or_true]
          · rw [b_f ho, Bool.or_false]
            refine b_e ⟨fun ⟨a, u, h1, h2⟩ => ⟨a, u, by omega, h2⟩, fun ⟨a, u, h1, h2, h3, h4⟩ => ⟨a, u, ?_, h2, h3, h4⟩⟩
            by_cases hax : a = x
            · subst hax
              have : u = q := by omega
              subst this
              exact absurd h4 ho
            · omega
        simp only [b2i_i0]
        refine wp_if (fun hc0 => ?_) (fun hc0 => ?_)
        · rw [k_or hCQ, k_over hCQ hq2, g_b_some, b_if]
          refine wp_if (fun ho => ?_) (fun ho => ?_)
          · exact hk2 true N3 ⟨hCQ, fQ, had, ovr true (by rw [hc0, b_t ho]; rfl)⟩
          · exact hk2 false N3 ⟨hCQ, fQ, had, ovr false (by rw [hc0, b_f ho]; rfl)⟩
        · have hc0 : c = true := bnf hc0
          exact hk2 true N3 ⟨hCQ, fQ, had, ovr true (by rw [hc0]; rfl)⟩
    · rw [f_X6_goForwards_80, if_pos (show ((-1) : Int32) < 0 by decide)]
      rw [show i3 (x : Int) + 1 = i3 ((x + 1 : Nat) : Int) from i3_sn x]
      exact none (fun h => hd h.1) N i1 Fr.rf
  · intro n c N hI
    obtain ⟨i1, fr, i2, i4⟩ := hI
    rw [f_X6_goForwards_42]
    rw [show i3 (s : Int) + 1 = i3 ((s + 1 : Nat) : Int) from i3_sn s]
    simp (disch := omega) only [iL6, i3_le]
    rw [if_pos (by omega)]
    refine hk c N i1 fr (fun q hq j hj => ?_) ?_
    · rw [i2 q hq j hj]
      congr 2
      exact b_e ⟨fun ⟨a, _, h2⟩ => ⟨a, h2⟩, fun ⟨a, h2⟩ => ⟨a, ca_6 hR (hD a h2.1), h2⟩⟩
    · rw [i4]
      congr 1
      exact b_e ⟨fun ⟨a, q, _, h2⟩ => ⟨a, q, h2⟩, fun ⟨a, q, h2⟩ => ⟨a, q, ca_6 hR (hD a h2.1), h2⟩⟩
  · rw [b_f (fun ⟨a, h1, _⟩ => by omega)]
    simp
  · rw [b_f (fun ⟨a, q, h1, _⟩ => by omega)]
    simp
theorem k_go {R : tR} {p : Int} {t st F T s0 : Nat} {fc : Nat → Int} {M : gM} (hC : CB R p t st M) (hF : fcI fc F M) (hT : T < F) (hh : hdI R p fc s0 T M) (h0 : stP R s0) : wp (f_X6_goForwards (i3 T) M) (fun r N => r = b_ (∃ q, kyR R p fc s0 (T + 1) q ∧ ovP R q) ∧ CB R p t st N ∧ Fr (cBt ++ [60]) M N ∧ hdI R p fc s0 (T + 1) N) := by
  have hR := hC.1.1
  have hF1 := hF.1
  rw [f_X6_goForwards]
  refine wp_lp (F := fun n x (c : Bool) M => f_X6_goForwards_4 n (i3 T) (b2i c) (i3 x) M)
    (I := fun x c N => CB R p t st N ∧ Fr (cBt ++ [60]) M N ∧ (∀ q : Nat, q < 2079 → ∀ j : Nat, j < 31 → bt (N.1 60 q) j = (bt (M.1 60 q) j || (decide (j = T + 1) && b_ (∃ s a : Nat, s < x ∧ kyR R p fc s0 T s ∧ caP R p s a ∧ nxR R p s a (fc T) = (q : Int))))) ∧ c = b_ (∃ s a q : Nat, s < x ∧ kyR R p fc s0 T s ∧ caP R p s a ∧ nxR R p s a (fc T) = (q : Int) ∧ ovP R q)) 2079 ?_ ?_ FU 0 false M (by omega) (by rw [FU_s]; omega) ⟨hC, Fr.rf, fun q hq j hj => ?_, ?_⟩
  · intro n x c N hx hI hk2
    obtain ⟨i1, fr, i2, i4⟩ := hI
    have hbit : bt (N.1 60 x) T = b_ (kyR R p fc s0 T x) := by
      rw [i2 x hx T (by omega), (hh x hx).1 T (Nat.le_refl _)]
      simp
    -- one STATE's ACTS
    have hF2 : ∀ N2, Fr (cBt ++ [60]) M N2 → fcI fc F N2 := fun N2 g => ⟨hF.1, by rw [g.e1 (by decide)]; exact hF.2.1, fun b hb => by rw [g.e1 (by decide)]; exact hF.2.2 b hb⟩
    have one : ∀ (D : Nat → Prop) (m : Int32) (N2 : gM), CB R p t st N2 → Fr cBt N N2 → (∀ b : Nat, b < 6 → bt m b = b_ (D b)) → (∀ a, D a ↔ kyR R p fc s0 T x ∧ caP R p x a) → wp (f_X6_goForwards_42 (f_X6_goForwards_4 n) FU (i3 T) (b2i c) (i3 x) m (i3 ((0 : Nat) : Int)) N2) (fun r N => r = b_ (∃ q, kyR R p fc s0 (T + 1) q ∧ ovP R q) ∧ CB R p t st N ∧ Fr (cBt ++ [60]) M N ∧ hdI R p fc s0 (T + 1) N) := by
      intro D m N2 g1 g2 hm hD
      have fr2 : Fr (cBt ++ [60]) M N2 := fr.tr (g2.up (by decide))
      refine k_go42 g1 (hF2 N2 fr2) hT hx hm (fun b hb => ((hD b).1 hb).2) c (fun b N3 u1 u2 u3 u4 => ?_)
      refine hk2 b N3 ⟨u1, fr2.tr u2, fun q hq j hj => ?_, ?_⟩
      · rw [u3 q hq j hj, g2.e1 (by decide), i2 q hq j hj, Bool.or_assoc]
        congr 1
        by_cases hj2 : j = T + 1
        · simp only [hj2, decide_true, Bool.true_and]
          by_cases h : ∃ a, D a ∧ nxR R p x a (fc T) = (q : Int)
          · obtain ⟨a, h1, h2⟩ := h
            rw [b_t (p := ∃ a, D a ∧ nxR R p x a (fc T) = (q : Int)) ⟨a, h1, h2⟩, Bool.or_true, b_t]
            exact ⟨x, a, by omega, ((hD a).1 h1).1, ((hD a).1 h1).2, h2⟩
          · rw [b_f h, Bool.or_false]
            refine b_e ⟨fun ⟨s, a, h1, h2⟩ => ⟨s, a, by omega, h2⟩, fun ⟨s, a, h1, h2, h3, h4⟩ => ⟨s, a, ?_, h2, h3, h4⟩⟩
            by_cases hsx : s = x
            · subst hsx
              exact absurd ⟨a, (hD a).2 ⟨h2, h3⟩, h4⟩ h
            · omega
        · simp [hj2]
      · rw [u4, i4]
        by_cases h : ∃ a q : Nat, D a ∧ nxR R p x a (fc T) = (q : Int) ∧ ovP R q
        · obtain ⟨a, q, h1, h2, h3⟩ := h
          rw [b_t (p := ∃ a q : Nat, D a ∧ nxR R p x a (fc T) = (q : Int) ∧ ovP R q) ⟨a, q, h1, h2, h3⟩, Bool.or_true, b_t]
          exact ⟨x, a, q, by omega, ((hD a).1 h1).1, ((hD a).1 h1).2, h2, h3⟩
        · rw [b_f h, Bool.or_false]
          refine b_e ⟨fun ⟨s, a, q, h1, h2⟩ => ⟨s, a, q, by omega, h2⟩, fun ⟨s, a, q, h1, h2, h3, h4, h5⟩ => ⟨s, a, q, ?_, h2, h3, h4, h5⟩⟩
          by_cases hsx : s = x
          · subst hsx
            exact absurd ⟨a, q, (hD a).2 ⟨h2, h3⟩, h4, h5⟩ h
          · omega
    rw [f_X6_goForwards_4]
    simp (disch := omega) only [iL2079, i3_le, ck_ok, i3_tn, Int.toNat_natCast, bt_i, hbit]
    rw [if_neg (by omega), b_if]
    refine wp_if (fun hy => ?_) (fun hy => ?_)
    · refine wp_b _ (c_mask hx i1) (fun m N2 hN => ?_)
      exact one (caP R p x) m N2 hN.2.1 hN.2.2 hN.1 (fun a => ⟨fun h => ⟨hy, h⟩, fun h => h.2⟩)
    · exact one (fun _ => False) 0 N i1 Fr.rf (fun b _ => by rw [b_0, b_f (fun h => h)]) (fun a => ⟨fun h => h.elim, fun h => hy h.1⟩)
  · intro n c N hI
    obtain ⟨i1, fr, i2, i4⟩ := hI
    rw [f_X6_goForwards_4]
    simp (disch := omega) only [iL2079, i3_le]
    rw [if_pos (by omega), tb_ok, wp_some]
    refine ⟨?_, i1, fr, fun q hq => ⟨fun j hj => ?_, fun j hj1 hj2 => ?_⟩⟩
    · rw [i4]
      exact b_e ⟨fun ⟨s, a, q, _, h2, h3, h4, h5⟩ => ⟨q, ⟨s, a, h2, h3, h4⟩, h5⟩, fun ⟨q, ⟨s, a, h2, h3, h4⟩, h5⟩ => ⟨s, a, q, st_lt (ky_st hR h0 _ _ h2), h2, h3, h4, h5⟩⟩
    · rw [i2 q hq j (by omega)]
      by_cases hj2 : j = T + 1
      · subst hj2
        rw [(hh q hq).2 (T + 1) (by omega) (by omega)]
        simp only [decide_true, Bool.true_and, Bool.false_or]
        exact b_e ⟨fun ⟨s, a, _, h2, h3, h4⟩ => ⟨s, a, h2, h3, h4⟩, fun ⟨s, a, h2, h3, h4⟩ => ⟨s, a, st_lt (ky_st hR h0 _ _ h2), h2, h3, h4⟩⟩
      · rw [(hh q hq).1 j (by omega)]
        simp [hj2]
    · rw [i2 q hq j hj2, (hh q hq).2 j (by omega) hj2]
      have : j ≠ T + 1 := by omega
      simp [this]
  · rw [b_f (fun ⟨s, a, h1, _⟩ => by omega)]
    simp
  · rw [b_f (fun ⟨s, a, q, h1, _⟩ => by omega)]
