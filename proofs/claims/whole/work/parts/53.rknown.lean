/-! ===== the reference's KNOWN ===== -/
def fcJ (fc : Nat → Int) (F : Nat) (M : gM) : Prop := F ≤ 24 ∧ M.1 0 48 = i3 F ∧ ∀ b : Nat, b < F → M.1 38 b = i3 (fc b) ∧ -12 ≤ fc b ∧ fc b ≤ 12
theorem fcJ.mv {fc : Nat → Int} {F : Nat} {M M' : gM} {S J : List Nat} (h : fcJ fc F M) (f : Fo S J M M') (hS : 38 ∉ S) (hJ : 48 ∉ J) : fcJ fc F M' := ⟨h.1, by rw [f.e0 hJ]; exact h.2.1, fun b hb => by rw [f.e1 (by decide) hS]; exact h.2.2 b hb⟩
def enI (c : Bool) (b : Nat) : Int32 := if c then i3 ((b + 1 : Nat) : Int) else i3 (-1)
theorem iL51975 : (51975 : Int32) = i3 51975 := rfl
/-- one STATE's ACTS, told ahead -/
theorem d_k100 {R : tR} {p : Int} {h F b s : Nat} {fc : Nat → Int} {k70 : Int32 → Int32 → Int32 → gM → Option (Int32 × gM)} {Q : Int32 → gM → Prop} {M : gM} (H : D2 R p h M) (hF : fcJ fc F M) (hb : b < F) (hs : stP R s) (c0 : Bool)
    (hk : ∀ (c : Bool) N, Fo [59] [] M N → (∀ i : Nat, N.1 59 i = @ite _ (∃ a q : Nat, caP R p s a ∧ nxR R p s a (fc b) = (q : Int) ∧ i = 2079 * b + 2079 + q) (Classical.propDecidable _) 1 (M.1 59 i)) → (c = (c0 || b_ (∃ a q : Nat, caP R p s a ∧ nxR R p s a (fc b) = (q : Int) ∧ ovP R q))) → wp (k70 (enI c b) (i3 b) (i3 ((s + 1 : Nat) : Int)) N) Q) :
    wp (f_X10_knownOf_100 k70 FU (enI c0 b) (i3 b) (i3 s) (i3 ((0 : Nat) : Int)) M) Q := by
  have hR := H.1.1
  have hna := hR.2.1
  have hs2 := st_lt hs
  have hF1 := hF.1
  refine wp_lp (F := fun n x (c : Bool) M => f_X10_knownOf_100 k70 n (enI c b) (i3 b) (i3 s) (i3 x) M)
    (I := fun x c N => Fo [59] [] M N ∧ (∀ i : Nat, N.1 59 i = @ite _ (∃ a q : Nat, a < x ∧ caP R p s a ∧ nxR R p s a (fc b) = (q : Int) ∧ i = 2079 * b + 2079 + q) (Classical.propDecidable _) 1 (M.1 59 i)) ∧ c = (c0 || b_ (∃ a q : Nat, a < x ∧ caP R p s a ∧ nxR R p s a (fc b) = (q : Int) ∧ ovP R q))) (rNa R) ?_ ?_ FU 0 c0 M (by omega) (by rw [FU_s]; omega) ⟨Fo.rf, fun i => ?_, ?_⟩
  · intro n x c N hx hI hk2
    obtain ⟨f, i1, i2⟩ := hI
    have H1 := H.mv f (by decide) (by decide)
    have hfc := hF.2.2 b hb
    have e38 : N.1 38 b = i3 (fc b) := by rw [f.e1 (by decide) (by decide)]; exact hfc.1
    have e1 : (6 * (s : Int) + x).toNat = 6 * s + x := by omega
    rw [f_X10_knownOf_100, d_acts H1.1, g_b_some]
    simp (disch := omega) only [i3_le]
    rw [if_neg (by omega)]
    simp (disch := omega) only [iL6, i3_mul, i3_add, ck_ok, i3_tn, e1, d_can H1 hs hx, b2i_0, b_ifn, Int.toNat_natCast, e38]
    have none : ¬ (caP R p s x ∧ 0 ≤ nxR R p s x (fc b)) → wp (f_X10_knownOf_100 k70 n (enI c b) (i3 b) (i3 s) (i3 ((x + 1 : Nat) : Int)) N) Q := by
      intro hno
      refine hk2 c N ⟨f, fun i => ?_, ?_⟩
      · rw [i1 i]
        by_cases hE : ∃ a q : Nat, a < x ∧ caP R p s a ∧ nxR R p s a (fc b) = (q : Int) ∧ i = 2079 * b + 2079 + q
        · obtain ⟨a, q, h1, h2⟩ := id hE
          rw [if_pos hE, if_pos ⟨a, q, by omega, h2⟩]
        · rw [if_neg hE, if_neg]
          rintro ⟨a, q, h1, h2, h3, h4⟩
          by_cases hax : a = x
          · subst hax
            exact hno ⟨h2, by omega⟩
          · exact hE ⟨a, q, by omega, h2, h3, h4⟩
      · rw [i2]
        congr 1
        refine b_e ⟨fun ⟨a, q, h1, h2⟩ => ⟨a, q, by omega, h2⟩, fun ⟨a, q, h1, h2, h3, h4⟩ => ⟨a, q, ?_, h2, h3, h4⟩⟩
        by_cases hax : a = x
        · subst hax
          exact absurd ⟨h2, by omega⟩ hno
        · omega
    refine wp_if (fun hc => ?_) (fun hc => ?_)
    · rw [f_X10_knownOf_144, if_pos (show ((-2) : Int32) = -2 from rfl), i3_sn]
      exact none (fun h => hc h.1)
    · have hc : caP R p s x := Classical.not_not.1 hc
      rw [d_leads H1 hs hc hfc.2, g_b_some, f_X10_knownOf_144]
      rw [show i3 (x : Int) + 1 = i3 ((x + 1 : Nat) : Int) from i3_sn x]
      rcases nx_q hR p s x (fc b) with hq | ⟨q, hq, hq2, hq3⟩
      · rw [hq, if_pos (show i3 (-2) = ((-2) : Int32) from rfl)]
        exact none (fun h => by have := h.2; omega)
      · have e2 : (2079 * (b : Int) + 2079 + q).toNat = 2079 * b + 2079 + q := by omega
        rw [hq]
        simp (disch := omega) only [i3_m2, i3_eq]
        rw [if_neg (by omega)]
        simp (disch := omega) only [iL2079, i3_mul, i3_add, ck_ok, i3_tn, e2]
        rw [wp_m, show zb (1 : Int32) = 1 from rfl]
        have fQ : Fo [59] [] M (sI N 59 (2079 * b + 2079 + q) 1) := f.i (by decide) (by decide)
        have q59 : (sI N 59 (2079 * b + 2079 + q) 1).1 59 = upd (N.1 59) (2079 * b + 2079 + q) 1 := rI_e
        generalize sI N 59 (2079 * b + 2079 + q) 1 = N2 at fQ q59 ⊢
        have lay : ∀ i : Nat, N2.1 59 i = @ite _ (∃ a q : Nat, a < x + 1 ∧ caP R p s a ∧ nxR R p s a (fc b) = (q : Int) ∧ i = 2079 * b + 2079 + q) (Classical.propDecidable _) 1 (M.1 59 i) := by
          intro i
          rw [q59, up_x]
          by_cases hi : i = 2079 * b + 2079 + q
          · rw [if_pos hi, if_pos ⟨x, q, by omega, hc, hq, hi⟩]
          · rw [if_neg hi, i1 i]
            by_cases hE : ∃ a q : Nat, a < x ∧ caP R p s a ∧ nxR R p s a (fc b) = (q : Int) ∧ i = 2079 * b + 2079 + q
            · obtain ⟨a, q, h1, h2⟩ := id hE
              rw [if_pos hE, if_pos ⟨a, q, by omega, h2⟩]
            · rw [if_neg hE, if_neg]
              rintro ⟨a, u, h1, h2, h3, h4⟩
              by_cases hax : a = x
              · subst hax
                exact hi (by omega)
              · exact hE ⟨a, u, by omega, h2, h3, h4⟩
        have ovr : ∀ d : Bool, d = (c || b_ (ovP R q)) → d = (c0 || b_ (∃ a u : Nat, a < x + 1 ∧ caP R p s a ∧ nxR R p s a (fc b) = (u : Int) ∧ ovP R u)) := by
          intro d hd
          rw [hd, i2, Bool.or_assoc]
          congr 1
          by_cases ho : ovP R q
          · rw [b_t ho, b_t (p := ∃ a u : Nat, a < x + 1 ∧ caP R p s a ∧ nxR R p s a (fc b) = (u : Int) ∧ ovP R u) ⟨x, q, by omega, hc, hq, ho⟩, Bool.or_true]
          · rw [b_f ho, Bool.or_false]
            refine b_e ⟨fun ⟨a, u, h1, h2⟩ => ⟨a, u, by omega, h2⟩, fun ⟨a, u, h1, h2, h3, h4⟩ => ⟨a, u, ?_, h2, h3, h4⟩⟩
            by_cases hax : a = x
            · subst hax
              have : u = q := by omega
              subst this
              exact absurd h4 ho
            · omega
        rw [d_over (H.mv fQ (by decide) (by decide)).1 hq2, g_b_some, b_if]
        refine wp_if (fun ho => ?_) (fun ho => ?_)
        · rw [wp_v, i3_sn]
          exact hk2 true N2 ⟨fQ, lay, ovr true (by rw [b_t ho, Bool.or_true])⟩
        · exact hk2 c N2 ⟨fQ, lay, ovr c (by rw [b_f ho, Bool.or_false])⟩
  · intro n c N hI
    obtain ⟨f, i1, i2⟩ := hI
    rw [f_X10_knownOf_100, d_acts (H.mv f (by decide) (by decide)).1, g_b_some]
    simp (disch := omega) only [i3_le]
    rw [if_pos (by omega), i3_sn]
    refine hk c N f (fun i => ?_) ?_
    · rw [i1 i]
      by_cases hE : ∃ a q : Nat, a < rNa R ∧ caP R p s a ∧ nxR R p s a (fc b) = (q : Int) ∧ i = 2079 * b + 2079 + q
      · obtain ⟨a, q, h1, h2⟩ := id hE
        rw [if_pos hE, if_pos ⟨a, q, h2⟩]
      · rw [if_neg hE, if_neg]
        rintro ⟨a, q, h2⟩
        exact hE ⟨a, q, h2.1.1, h2⟩
    · rw [i2]
      congr 1
      exact b_e ⟨fun ⟨a, q, _, h2⟩ => ⟨a, q, h2⟩, fun ⟨a, q, h2⟩ => ⟨a, q, h2.1.1, h2⟩⟩
  · rw [if_neg (fun ⟨a, q, h1, _⟩ => by omega)]
  · rw [b_f (fun ⟨a, q, h1, _⟩ => by omega), Bool.or_false]
/-- what is had after up to n BEATS -/
def dlI (R : tR) (p : Int) (fc : Nat → Int) (s0 n : Nat) (N : gM) : Prop := ∀ b : Nat, b ≤ 24 → ∀ q : Nat, q < 2079 → N.1 59 (2079 * b + q) = b2i (b_ (b ≤ n ∧ kyR R p fc s0 b q))
theorem d_k70 {R : tR} {p : Int} {h F b s0 : Nat} {fc : Nat → Int} {k55 : Int32 → Int32 → gM → Option (Int32 × gM)} {Q : Int32 → gM → Prop} {M : gM} (H : D2 R p h M) (hF : fcJ fc F M) (hb : b < F) (h0 : stP R s0) (hl : dlI R p fc s0 b M)
    (hk : ∀ (c : Bool) N, Fo [59] [] M N → dlI R p fc s0 (b + 1) N → c = b_ (∃ q, kyR R p fc s0 (b + 1) q ∧ ovP R q) → wp (k55 (enI c b) (i3 ((b + 1 : Nat) : Int)) N) Q) :
    wp (f_X10_knownOf_70 k55 FU (i3 (-1)) (i3 b) (i3 ((0 : Nat) : Int)) M) Q := by
  have hR := H.1.1
  have hF1 := hF.1
  refine wp_lp (F := fun n x (c : Bool) M => f_X10_knownOf_70 k55 n (enI c b) (i3 b) (i3 x) M)
    (I := fun x c N => Fo [59] [] M N ∧ (∀ i : Nat, N.1 59 i = @ite _ (∃ s a q : Nat, s < x ∧ kyR R p fc s0 b s ∧ caP R p s a ∧ nxR R p s a (fc b) = (q : Int) ∧ i = 2079 * b + 2079 + q) (Classical.propDecidable _) 1 (M.1 59 i)) ∧ c = b_ (∃ s a q : Nat, s < x ∧ kyR R p fc s0 b s ∧ caP R p s a ∧ nxR R p s a (fc b) = (q : Int) ∧ ovP R q)) 2079 ?_ ?_ FU 0 false M (by omega) (by rw [FU_s]; omega) ⟨Fo.rf, fun i => ?_, ?_⟩
  · intro n x c N hx hI hk2
    obtain ⟨f, i1, i2⟩ := hI
    have e1 : (2079 * (b : Int) + x).toNat = 2079 * b + x := by omega
    have e59 : N.1 59 (2079 * b + x) = b2i (b_ (kyR R p fc s0 b x)) := by
      rw [i1, if_neg (fun ⟨s, a, q, _, _, _, _, h⟩ => by omega), hl b (by omega) x hx]
      congr 1
      exact b_e ⟨fun h => h.2, fun h => ⟨Nat.le_refl _, h⟩⟩
    rw [f_X10_knownOf_70]
    rw [show i3 (x : Int) + 1 = i3 ((x + 1 : Nat) : Int) from i3_sn x]
    simp (disch := omega) only [iL2079, i3_le, i3_mul, i3_add, ck_ok, i3_tn, e1, e59, b2i_0, b_ifn]
    rw [if_neg (by omega)]
    refine wp_if (fun hy => ?_) (fun hy => ?_)
    · refine hk2 c N ⟨f, fun i => ?_, ?_⟩
      · rw [i1 i]
        by_cases hE : ∃ s a q : Nat, s < x ∧ kyR R p fc s0 b s ∧ caP R p s a ∧ nxR R p s a (fc b) = (q : Int) ∧ i = 2079 * b + 2079 + q
        · obtain ⟨s, a, q, h1, h2⟩ := id hE
          rw [if_pos hE, if_pos ⟨s, a, q, by omega, h2⟩]
        · rw [if_neg hE, if_neg]
          rintro ⟨s, a, q, h1, h2, h3⟩
          by_cases hsx : s = x
          · subst hsx
            exact hy h2
          · exact hE ⟨s, a, q, by omega, h2, h3⟩
      · rw [i2]
        refine b_e ⟨fun ⟨s, a, q, h1, h2⟩ => ⟨s, a, q, by omega, h2⟩, fun ⟨s, a, q, h1, h2, h3⟩ => ⟨s, a, q, ?_, h2, h3⟩⟩
        by_cases hsx : s = x
        · subst hsx
          exact absurd h2 hy
        · omega
    · have hy : kyR R p fc s0 b x := Classical.not_not.1 hy
      refine d_k100 (H.mv f (by decide) (by decide)) (hF.mv f (by decide) (by decide)) hb (ky_st hR h0 _ _ hy) c (fun c2 N2 g1 g2 g3 => ?_)
      refine hk2 c2 N2 ⟨f.tr g1, fun i => ?_, ?_⟩
      · rw [g2 i]
        by_cases hE : ∃ a q : Nat, caP R p x a ∧ nxR R p x a (fc b) = (q : Int) ∧ i = 2079 * b + 2079 + q
        · obtain ⟨a, q, h1⟩ := id hE
          rw [if_pos hE, if_pos ⟨x, a, q, by omega, hy, h1⟩]
        · rw [if_neg hE, i1 i]
          by_cases hE2 : ∃ s a q : Nat, s < x ∧ kyR R p fc s0 b s ∧ caP R p s a ∧ nxR R p s a (fc b) = (q : Int) ∧ i = 2079 * b + 2079 + q
          · obtain ⟨s, a, q, h1, h2⟩ := id hE2
            rw [if_pos hE2, if_pos ⟨s, a, q, by omega, h2⟩]
          · rw [if_neg hE2, if_neg]
            rintro ⟨s, a, q, h1, h2, h3⟩
            by_cases hsx : s = x
            · subst hsx
              exact hE ⟨a, q, h3⟩
            · exact hE2 ⟨s, a, q, by omega, h2, h3⟩
      · rw [g3, i2]
        by_cases hE : ∃ a q : Nat, caP R p x a ∧ nxR R p x a (fc b) = (q : Int) ∧ ovP R q
        · obtain ⟨a, q, h1⟩ := id hE
          rw [b_t hE, Bool.or_true, b_t]
          exact ⟨x, a, q, by omega, hy, h1⟩
        · rw [b_f hE, Bool.or_false]
          refine b_e ⟨fun ⟨s, a, q, h1, h2⟩ => ⟨s, a, q, by omega, h2⟩, fun ⟨s, a, q, h1, h2, h3⟩ => ⟨s, a, q, ?_, h2, h3⟩⟩
          by_cases hsx : s = x
          · subst hsx
            exact absurd ⟨a, q, h3⟩ hE
          · omega
  · intro n c N hI
    obtain ⟨f, i1, i2⟩ := hI
    rw [f_X10_knownOf_70]
    simp (disch := omega) only [iL2079, i3_le]
    rw [if_pos (by omega), i3_sn]
    have eky : ∀ q : Nat, kyR R p fc s0 (b + 1) q ↔ ∃ s a : Nat, s < 2079 ∧ kyR R p fc s0 b s ∧ caP R p s a ∧ nxR R p s a (fc b) = (q : Int) := fun q => ⟨fun ⟨s, a, h1, h2, h3⟩ => ⟨s, a, st_lt (ky_st hR h0 _ _ h1), h1, h2, h3⟩, fun ⟨s, a, _, h1, h2, h3⟩ => ⟨s, a, h1, h2, h3⟩⟩
    refine hk c N f (fun b2 hb2 q hq => ?_) ?_
    · rw [i1]
      by_cases hbb : b2 = b + 1
      · subst hbb
        by_cases hky : kyR R p fc s0 (b + 1) q
        · obtain ⟨s, a, h1, h2, h3, h4⟩ := (eky q).1 hky
          rw [if_pos ⟨s, a, q, h1, h2, h3, h4, by omega⟩, b_t ⟨Nat.le_refl _, hky⟩]
          rfl
        · rw [if_neg, hl (b + 1) hb2 q hq, b_f (fun h => by omega), b_f (fun h => hky h.2)]
          rintro ⟨s, a, u, h1, h2, h3, h4, h5⟩
          have : u = q := by omega
          subst this
          exact hky ((eky u).2 ⟨s, a, h1, h2, h3, h4⟩)
      · rw [if_neg, hl b2 hb2 q hq]
        · congr 1
          exact b_e ⟨fun h => ⟨by omega, h.2⟩, fun h => ⟨by omega, h.2⟩⟩
        · rintro ⟨s, a, u, h1, h2, h3, h4, h5⟩
          have := nx_n hR p s a (fc b)
          omega
    · rw [i2]
      exact b_e ⟨fun ⟨s, a, q, h1, h2, h3, h4, h5⟩ => ⟨q, (eky q).2 ⟨s, a, h1, h2, h3, h4⟩, h5⟩, fun ⟨q, h1, h2⟩ => by
        obtain ⟨s, a, g1, g2, g3, g4⟩ := (eky q).1 h1
        exact ⟨s, a, q, g1, g2, g3, g4, h2⟩⟩
  · rw [if_neg (fun ⟨s, a, q, h1, _⟩ => by omega)]
  · rw [b_f (fun ⟨s, a, q, h1, _⟩ => by omega)]
/-! from where one is OVER in time -/
def duI (R : tR) (p : Int) (fc : Nat → Int) (s0 e b : Nat) (N : gM) : Prop := (∀ j : Nat, b ≤ j → j ≤ e → ∀ q : Nat, q < 2079 → N.1 60 (2079 * j + q) = b2i (b_ (usR R p fc s0 e (e - j) q))) ∧ ∀ j : Nat, j < b → ∀ q : Nat, q < 2079 → N.1 60 (2079 * j + q) = 0
theorem d_k289 {R : tR} {p : Int} {h F e b s s0 : Nat} {fc : Nat → Int} {k278 : Int32 → Int32 → Int32 → gM → Option (Int32 × gM)} {Q : Int32 → gM → Prop} {M : gM} {x2 : Int32} (H : D2 R p h M) (hF : fcJ fc F M) (he : e ≤ F) (hb : b < e) (h0 : stP R s0) (hs : s < 2079) (hl : M.1 59 (2079 * b + s) = b2i (b_ (kyR R p fc s0 b s))) (hu : ∀ q : Nat, q < 2079 → M.1 60 (2079 * b + 2079 + q) = b2i (b_ (usR R p fc s0 e (e - (b + 1)) q))) (h60 : M.1 60 (2079 * b + s) = 0)
    (hk : ∀ N, Fo [60] [] M N → (∀ i : Nat, i ≠ 2079 * b + s → N.1 60 i = M.1 60 i) → N.1 60 (2079 * b + s) = b2i (b_ (usR R p fc s0 e (e - b) s)) → wp (k278 x2 (i3 b) (i3 ((s + 1 : Nat) : Int)) N) Q) :
    wp (f_X10_knownOf_289 k278 FU x2 (i3 b) (i3 s) (i3 ((0 : Nat) : Int)) M) Q := by
  have hR := H.1.1
  have hna := hR.2.1
  have hF1 := hF.1
  have e1 : (2079 * (b : Int) + s).toNat = 2079 * b + s := by omega
  by_cases hky : kyR R p fc s0 b s
  · have hst := ky_st hR h0 _ _ hky
    refine wp_lp (F := fun n x (_ : Unit) M => f_X10_knownOf_289 k278 n x2 (i3 b) (i3 s) (i3 x) M)
      (I := fun x _ N => Fo [60] [] M N ∧ (∀ i : Nat, i ≠ 2079 * b + s → N.1 60 i = M.1 60 i) ∧ N.1 60 (2079 * b + s) = b2i (b_ (∃ a, a < x ∧ caP R p s a ∧ okP R p (usR R p fc s0 e (e - (b + 1))) s a (fc b)))) (rNa R) ?_ ?_ FU 0 () M (by omega) (by rw [FU_s]; omega) ⟨Fo.rf, fun _ _ => rfl, ?_⟩
    · intro n x _ N hx hI hk2
      obtain ⟨f, i1, i2⟩ := hI
      have H1 := H.mv f (by decide) (by decide)
      have hfc := hF.2.2 b (by omega)
      have e38 : N.1 38 b = i3 (fc b) := by rw [f.e1 (by decide) (by decide)]; exact hfc.1
      have e2 : (6 * (s : Int) + x).toNat = 6 * s + x := by omega
      have e59 : N.1 59 (2079 * b + s) = b2i true := by rw [f.e1 (by decide) (by decide), hl, b_t hky]
      rw [f_X10_knownOf_289, d_acts H1.1, g_b_some]
      simp (disch := omega) only [i3_le]
      rw [if_neg (by omega)]
      simp (disch := omega) only [iL6, iL2079, i3_mul, i3_add, ck_ok, i3_tn, e1, e2, d_can H1 hst hx, e59, b2i_0, b_ifn, Int.toNat_natCast, e38]
      rw [if_neg (by decide)]
      have none : ¬ (caP R p s x ∧ okP R p (usR R p fc s0 e (e - (b + 1))) s x (fc b)) → wp (f_X10_knownOf_289 k278 n x2 (i3 b) (i3 s) (i3 ((x + 1 : Nat) : Int)) N) Q := by
        intro hno
        refine hk2 () N ⟨f, i1, ?_⟩
        rw [i2]
        congr 1
        refine b_e ⟨fun ⟨a, h1, h2⟩ => ⟨a, by omega, h2⟩, fun ⟨a, h1, h2⟩ => ⟨a, ?_, h2⟩⟩
        by_cases hax : a = x
        · subst hax
          exact absurd h2 hno
        · omega
      refine wp_if (fun hc => ?_) (fun hc => ?_)
      · rw [f_X10_knownOf_349, if_pos (show ((-2) : Int32) = -2 from rfl), i3_sn]
        exact none (fun h => hc h.1)
      · have hc : caP R p s x := Classical.not_not.1 hc
        rw [d_leads H1 hst hc hfc.2, g_b_some, f_X10_knownOf_349]
        rw [show i3 (x : Int) + 1 = i3 ((x + 1 : Nat) : Int) from i3_sn x]
        rcases nx_q hR p s x (fc b) with hq | ⟨q, hq, hq2, hq3⟩
        · rw [hq, if_pos (show i3 (-2) = ((-2) : Int32) from rfl)]
          exact none (fun h => ok_f hq h.2)
        · have e3 : (2079 * (b : Int) + 2079 + q).toNat = 2079 * b + 2079 + q := by omega
          have e60 : N.1 60 (2079 * b + 2079 + q) = b2i (b_ (usR R p fc s0 e (e - (b + 1)) q)) := by rw [i1 _ (by omega)]; exact hu q hq2
          rw [hq]
          simp (disch := omega) only [i3_m2, i3_eq]
          rw [if_neg (by omega)]
          simp (disch := omega) only [iL2079, i3_mul, i3_add, ck_ok, i3_tn, e1, e3, e60, b2i_0, b_ifn]
          refine wp_if (fun hy => ?_) (fun hy => ?_)
          · exact none (fun h => hy ((ok_t hq).1 h.2))
          · have hy : usR R p fc s0 e (e - (b + 1)) q := Classical.not_not.1 hy
            rw [wp_m]
            refine hk2 () _ ⟨f.i (by decide) (by decide), fun i hi => by rw [rI_e, up_n hi]; exact i1 i hi, ?_⟩
            rw [rI_e, up_e, b_t ⟨x, by omega, hc, (ok_t hq).2 hy⟩]
            rfl
    · intro n _ N hI
      obtain ⟨f, i1, i2⟩ := hI
      rw [f_X10_knownOf_289, d_acts (H.mv f (by decide) (by decide)).1, g_b_some]
      simp (disch := omega) only [i3_le]
      rw [if_pos (by omega), i3_sn]
      refine hk N f i1 ?_
      rw [i2]
      congr 1
      rw [b_e (us_b hb)]
      exact b_e ⟨fun ⟨a, _, h2⟩ => ⟨hky, a, h2⟩, fun ⟨_, a, h2⟩ => ⟨a, h2.1.1, h2⟩⟩
    · rw [h60, b_f (fun ⟨a, h1, _⟩ => by omega)]
      rfl
  · rw [FU_s, f_X10_knownOf_289, d_acts H.1, g_b_some]
    rw [show i3 (s : Int) + 1 = i3 ((s + 1 : Nat) : Int) from i3_sn s]
    simp (disch := omega) only [i3_le]
    rw [if_neg (by omega)]
    simp (disch := omega) only [iL2079, i3_mul, i3_add, ck_ok, i3_tn, e1, hl, b2i_0, b_ifn]
    rw [if_pos hky]
    refine hk M Fo.rf (fun _ _ => rfl) ?_
    rw [h60, b_f (fun h => hky ((us_b hb).1 h).1)]
    rfl
theorem d_k271 {R : tR} {p : Int} {h F e s0 : Nat} {fc : Nat → Int} {M0 : gM} (H : D2 R p h M0) (hF : fcJ fc F M0) (he : e ≤ F) (h0 : stP R s0) (hl : ∀ b : Nat, b ≤ e → ∀ q : Nat, q < 2079 → M0.1 59 (2079 * b + q) = b2i (b_ (kyR R p fc s0 b q))) : ∀ (n b : Nat) (M : gM), b ≤ e → b < n → Fo [60] [] M0 M → duI R p fc s0 e b M →
    wp (f_X10_knownOf_271 n (i3 e) (i3 ((b : Int) - 1)) M) (fun r N => r = i3 e ∧ Fo [60] [] M0 N ∧ duI R p fc s0 e 0 N) := by
  have hF1 := hF.1
  intro n
  induction n with
  | zero => intro b M h1 h2; omega
  | succ n ih =>
    intro b M h1 h2 f hd
    rw [f_X10_knownOf_271]
    simp (disch := omega) only [iL0, i3_lt]
    cases b with
    | zero =>
      rw [if_pos (by omega), wp_some]
      exact ⟨rfl, f, hd⟩
    | succ b =>
      rw [if_neg (by omega)]
      have eb : ((b + 1 : Nat) : Int) - 1 = b := by omega
      rw [eb]
      refine wp_lp (F := fun n2 x (_ : Unit) M => f_X10_knownOf_278 (f_X10_knownOf_271 n) n2 (i3 e) (i3 b) (i3 x) M)
        (I := fun x _ N => Fo [60] [] M0 N ∧ (∀ j : Nat, j ≠ b → ∀ q : Nat, q < 2079 → N.1 60 (2079 * j + q) = M.1 60 (2079 * j + q)) ∧ (∀ q : Nat, q < x → N.1 60 (2079 * b + q) = b2i (b_ (usR R p fc s0 e (e - b) q))) ∧ ∀ q : Nat, x ≤ q → q < 2079 → N.1 60 (2079 * b + q) = 0) 2079 ?_ ?_ FU 0 () M (by omega) (by rw [FU_s]; omega) ⟨f, fun _ _ _ _ => rfl, fun q hq => by omega, fun q _ hq => hd.2 b (by omega) q hq⟩
      · intro n2 x _ N hx hI hk2
        obtain ⟨g, i1, i2, i4⟩ := hI
        rw [f_X10_knownOf_278]
        simp (disch := omega) only [iL2079, i3_le]
        rw [if_neg (by omega)]
        refine d_k289 (H.mv g (by decide) (by decide)) (hF.mv g (by decide) (by decide)) he (by omega) h0 hx (by rw [g.e1 (by decide) (by decide)]; exact hl b (by omega) x hx) (fun q hq => ?_) (i4 x (Nat.le_refl _) hx) (fun N2 u1 u2 u3 => ?_)
        · rw [show 2079 * b + 2079 + q = 2079 * (b + 1) + q by omega, i1 (b + 1) (by omega) q hq]
          exact hd.1 (b + 1) (Nat.le_refl _) h1 q hq
        · refine hk2 () N2 ⟨g.tr u1, fun j hj q hq => ?_, fun q hq => ?_, fun q h1 h2 => ?_⟩
          · rw [u2 _ (by omega)]
            exact i1 j hj q hq
          · by_cases hqx : q = x
            · subst hqx
              exact u3
            · rw [u2 _ (by omega)]
              exact i2 q (by omega)
          · rw [u2 _ (by omega)]
            exact i4 q (by omega) h2
      · intro n2 _ N hI
        obtain ⟨g, i1, i2, i4⟩ := hI
        rw [f_X10_knownOf_278]
        simp (disch := omega) only [iL2079, i3_le]
        rw [if_pos (by omega), i3_m1, i3_add]
        have e1 : (b : Int) + -1 = (b : Int) - 1 := by omega
        rw [e1]
        refine ih b N (by omega) (by omega) g ⟨fun j h3 h4 q hq => ?_, fun j h3 q hq => ?_⟩
        · by_cases hjb : j = b
          · subst hjb
            exact i2 q hq
          · rw [i1 j hjb q hq]
            exact hd.1 j (by omega) h4 q hq
        · rw [i1 j (by omega) q hq]
          exact hd.2 j (by omega) q hq
theorem d_k214 {R : tR} {p : Int} {h F e s0 : Nat} {fc : Nat → Int} {M : gM} (H : D2 R p h M) (hF : fcJ fc F M) (he : e ≤ F) (h0 : stP R s0) (hl : ∀ b : Nat, b ≤ e → ∀ q : Nat, q < 2079 → M.1 59 (2079 * b + q) = b2i (b_ (kyR R p fc s0 b q))) (h60 : ∀ i : Nat, i < 51975 → M.1 60 i = 0) :
    wp (f_X10_knownOf_214 FU (i3 e) (i3 ((0 : Nat) : Int)) M) (fun r N => r = i3 e ∧ Fo [60] [] M N ∧ duI R p fc s0 e 0 N) := by
  have hF1 := hF.1
  refine wp_lp (F := fun n x (_ : Unit) M => f_X10_knownOf_214 n (i3 e) (i3 x) M)
    (I := fun x _ N => Fo [60] [] M N ∧ (∀ i : Nat, i < 2079 * e → N.1 60 i = 0) ∧ (∀ q : Nat, q < x → N.1 60 (2079 * e + q) = b2i (b_ (usR R p fc s0 e 0 q)))) 2079 ?_ ?_ FU 0 () M (by omega) (by rw [FU_s]; omega) ⟨Fo.rf, fun i hi => h60 i (by omega), fun q hq => by omega⟩
  · intro n x _ N hx hI hk2
    obtain ⟨f, i1, i2⟩ := hI
    have H1 := H.mv f (by decide) (by decide)
    have e1 : (2079 * (e : Int) + x).toNat = 2079 * e + x := by omega
    have e59 : N.1 59 (2079 * e + x) = b2i (b_ (kyR R p fc s0 e x)) := by rw [f.e1 (by decide) (by decide)]; exact hl e (Nat.le_refl _) x hx
    rw [f_X10_knownOf_214, d_over H1.1 hx, g_b_some]
    rw [show i3 (x : Int) + 1 = i3 ((x + 1 : Nat) : Int) from i3_sn x]
    simp (disch := omega) only [iL2079, i3_le, i3_mul, i3_add, ck_ok, i3_tn, e1, e59, b2i_0, b_ifn, b_if]
    rw [if_neg (by omega)]
    have fin : ∀ v : Bool, v = b_ (usR R p fc s0 e 0 x) → wp (f_X10_knownOf_214 n (i3 e) (i3 ((x + 1 : Nat) : Int)) (sI N 60 (2079 * e + x) (b2i v))) (fun r N => r = i3 e ∧ Fo [60] [] M N ∧ duI R p fc s0 e 0 N) := by
      intro v hv
      refine hk2 () _ ⟨f.i (by decide) (by decide), fun i hi => by rw [rI_e, up_n (by omega)]; exact i1 i hi, fun q hq => ?_⟩
      rw [rI_e]
      by_cases hqx : q = x
      · subst hqx
        rw [up_e, hv]
      · rw [up_n (by omega)]
        exact i2 q (by omega)
    refine wp_if (fun hy => ?_) (fun hy => ?_)
    · exact fin false (by rw [b_f (fun h => hy h.1)])
    · have hy : kyR R p fc s0 e x := Classical.not_not.1 hy
      refine wp_if (fun ho => ?_) (fun ho => ?_)
      · exact fin true (by rw [b_t (p := usR R p fc s0 e 0 x) ⟨hy, ho⟩])
      · exact fin false (by rw [b_f (fun h => ho h.2)])
  · intro n _ N hI
    obtain ⟨f, i1, i2⟩ := hI
    rw [f_X10_knownOf_214]
    simp (disch := omega) only [iL2079, i3_le]
    rw [if_pos (by omega), iL1, i3_sub, wp_v]
    refine wp_mono (d_k271 (H.mv f (by decide) (by decide)) (hF.mv f (by decide) (by decide)) he h0 (fun b hb q hq => by rw [f.e1 (by decide) (by decide)]; exact hl b hb q hq) FU e N (Nat.le_refl _) (by rw [FU_s]; omega) Fo.rf ⟨fun j h1 h2 q hq => ?_, fun j h1 q hq => i1 _ (by omega)⟩) (fun r N2 hN => ⟨hN.1, f.tr hN.2.1, hN.2.2⟩)
    have : j = e := by omega
    subst this
    rw [Nat.sub_self]
    exact i2 q hq
theorem d_k55 {R : tR} {p : Int} {h F s0 : Nat} {fc : Nat → Int} {M0 : gM} (H : D2 R p h M0) (hF : fcJ fc F M0) (h0 : stP R s0) (h60 : ∀ i : Nat, i < 51975 → M0.1 60 i = 0) : ∀ (n b : Nat) (x : Int32) (M : gM), b ≤ F → F + 1 < n + b → Fo [59] [] M0 M → dlI R p fc s0 b M → ((x = i3 (-1) ∧ ∀ m : Nat, m ≤ b → ¬ ∃ q, kyR R p fc s0 m q ∧ ovP R q) ∨ (x = i3 b ∧ keE R p fc F s0 = b ∧ ∃ q, kyR R p fc s0 b q ∧ ovP R q)) →
    wp (f_X10_knownOf_55 n x (i3 b) M) (fun r N => r = i3 (keE R p fc F s0) ∧ Fo [59, 60] [] M0 N ∧ ∀ e : Nat, keE R p fc F s0 = e → duI R p fc s0 e 0 N) := by
  have hR := H.1.1
  have hF1 := hF.1
  intro n
  induction n with
  | zero => intro b x M h1 h2; omega
  | succ n ih =>
    intro b x M h1 h2 f hd hcase
    have H1 := H.mv f (by decide) (by decide)
    have hF2 := hF.mv f (by decide) (by decide)
    have fin : ((x = i3 (-1) ∧ b = F ∧ ∀ m : Nat, m ≤ b → ¬ ∃ q, kyR R p fc s0 m q ∧ ovP R q) ∨ (x = i3 b ∧ keE R p fc F s0 = b ∧ ∃ q, kyR R p fc s0 b q ∧ ovP R q)) → wp (f_X10_knownOf_205 x M) (fun r N => r = i3 (keE R p fc F s0) ∧ Fo [59, 60] [] M0 N ∧ ∀ e : Nat, keE R p fc F s0 = e → duI R p fc s0 e 0 N) := by
      rintro (⟨rfl, g2, g3⟩ | ⟨rfl, g2, g3⟩)
      · have hke : keE R p fc F s0 = -2 := leA_d (fun m hm => g3 m (by omega))
        rw [f_X10_knownOf_205, if_neg (show ¬ (0 : Int32) ≤ i3 (-1) by decide), wp_some, hke]
        exact ⟨rfl, f.up (by decide) (by decide), fun e he => by omega⟩
      · rw [f_X10_knownOf_205]
        simp (disch := omega) only [iL0, i3_le]
        rw [if_pos (by omega)]
        refine wp_mono (d_k214 H1 hF2 h1 h0 (fun j hj q hq => ?_) (fun i hi => by rw [f.e1 (by decide) (by decide)]; exact h60 i hi)) (fun r N hN => ⟨by rw [hN.1, g2], (f.up (by decide) (by decide)).tr (hN.2.1.up (by decide) (by decide)), fun e he => ?_⟩)
        · rw [hd j (by omega) q hq]
          congr 1
          exact b_e ⟨fun h => h.2, fun h => ⟨hj, h⟩⟩
        · have : e = b := by omega
          subst this
          exact hN.2.2
    have hx : -1 ≤ x.toInt ∧ x.toInt ≤ 24 := by
      rcases hcase with ⟨h, -⟩ | ⟨h, -⟩
      · rw [h, i3_toInt (by omega) (by omega)]; omega
      · rw [h, i3_toInt (by omega) (by omega)]; omega
    rw [f_X10_knownOf_55, hF2.2.1]
    simp (disch := omega) only [i3_le]
    refine wp_if (fun hx1 => ?_) (fun hx1 => ?_)
    · refine fin ?_
      rcases hcase with h | h
      · exact Or.inl ⟨h.1, by omega, h.2⟩
      · exact Or.inr h
    · refine wp_if (fun hx2 => ?_) (fun hx2 => ?_)
      · refine fin ?_
        rcases hcase with h | h
        · rw [h.1] at hx2
          exact absurd hx2 (by decide)
        · exact Or.inr h
      · rcases hcase with ⟨rfl, hno⟩ | h
        · refine d_k70 H1 hF2 (by omega) h0 hd (fun c N g1 g2 g3 => ?_)
          refine ih (b + 1) (enI c b) N (by omega) (by omega) (f.tr g1) g2 ?_
          by_cases hE : ∃ q, kyR R p fc s0 (b + 1) q ∧ ovP R q
          · rw [b_t hE] at g3
            subst g3
            exact Or.inr ⟨rfl, leA_e (by omega) hE (fun m hm => hno m (by omega)), hE⟩
          · rw [b_f hE] at g3
            subst g3
            refine Or.inl ⟨rfl, fun m hm => ?_⟩
            by_cases hmb : m = b + 1
            · subst hmb; exact hE
            · exact hno m (by omega)
        · rw [h.1, iL0, i3_le (by omega) (by omega) (by omega) (by omega)] at hx2
          omega
theorem d_known {R : tR} {p : Int} {h F s0 : Nat} {fc : Nat → Int} {M : gM} (H : D2 R p h M) (hF : fcJ fc F M) (h0 : stP R s0) : wp (f_X10_knownOf_6 FU (i3 s0) (i3 ((0 : Nat) : Int)) M) (fun r N => r = i3 (keE R p fc F s0) ∧ Fo [59, 60] [] M N ∧ ∀ e : Nat, keE R p fc F s0 = e → duI R p fc s0 e 0 N) := by
  have hs := st_lt h0
  refine wp_lp (F := fun n x (_ : Unit) M => f_X10_knownOf_6 n (i3 s0) (i3 x) M) (I := fun x _ N => Fo [59, 60] [] M N ∧ ∀ i : Nat, i < x → N.1 59 i = 0 ∧ N.1 60 i = 0) 51975 ?_ ?_ FU 0 () M (by omega) (by rw [FU_s]; omega) ⟨Fo.rf, fun i hi => by omega⟩
  · intro n x _ N hx hI hk2
    obtain ⟨f, i1⟩ := hI
    rw [f_X10_knownOf_6, i3_sn]
    simp (disch := omega) only [iL51975, i3_le, ck_ok, i3_tn, Int.toNat_natCast]
    rw [if_neg (by omega), wp_m, wp_m, show zb (0 : Int32) = 0 from rfl]
    refine hk2 () _ ⟨(f.i (by decide) (by decide)).i (by decide) (by decide), fun i hi => ?_⟩
    rw [rI_n (by decide), rI_e, rI_e, rI_n (by decide)]
    by_cases hix : i = x
    · subst hix
      rw [up_e, up_e]
      exact ⟨rfl, rfl⟩
    · rw [up_n hix, up_n hix]
      exact i1 i (by omega)
  · intro n _ N hI
    obtain ⟨f, i1⟩ := hI
    rw [f_X10_knownOf_6]
    simp (disch := omega) only [iL51975, i3_le, ck_ok, i3_tn, Int.toNat_natCast]
    rw [if_pos (by omega), wp_m, show zb (1 : Int32) = 1 from rfl]
    have fQ : Fo [59, 60] [] M (sI N 59 s0 1) := f.i (by decide) (by decide)
    have q59 : (sI N 59 s0 1).1 59 = upd (N.1 59) s0 1 := rI_e
    have q60 : (sI N 59 s0 1).1 60 = N.1 60 := rI_n (by decide)
    generalize sI N 59 s0 1 = N2 at fQ q59 q60 ⊢
    have H2 := H.mv fQ (by decide) (by decide)
    have hF2 := hF.mv fQ (by decide) (by decide)
    have hd : dlI R p fc s0 0 N2 := by
      intro b hb q hq
      rw [q59, up_x]
      by_cases hE : 2079 * b + q = s0
      · have : b = 0 := by omega
        subst this
        have : q = s0 := by omega
        subst this
        rw [if_pos (by omega), b_t ⟨Nat.le_refl _, rfl⟩]
        rfl
      · rw [if_neg hE, (i1 _ (by omega)).1, b_f]
        · rfl
        · rintro ⟨g1, g2⟩
          have : b = 0 := by omega
          subst this
          exact hE (by rw [show q = s0 from g2]; omega)
    have h60 : ∀ i : Nat, i < 51975 → N2.1 60 i = 0 := fun i hi => by rw [q60]; exact (i1 i hi).2
    rw [d_over H2.1 hs, g_b_some, b_if]
    refine wp_if (fun ho => ?_) (fun ho => ?_)
    · refine wp_mono (d_k55 H2 hF2 h0 h60 FU 0 0 N2 (by omega) (by have := hF.1; rw [FU_s]; omega) Fo.rf hd (Or.inr ⟨rfl, leA_e (by omega) ⟨s0, rfl, ho⟩ (fun b hb => by omega), s0, rfl, ho⟩)) (fun r N3 hN => ⟨hN.1, fQ.tr hN.2.1, hN.2.2⟩)
    · refine wp_mono (d_k55 H2 hF2 h0 h60 FU 0 (-1) N2 (by omega) (by have := hF.1; rw [FU_s]; omega) Fo.rf hd (Or.inl ⟨rfl, fun m hm => ?_⟩)) (fun r N3 hN => ⟨hN.1, fQ.tr hN.2.1, hN.2.2⟩)
      have : m = 0 := by omega
      subst this
      rintro ⟨q, h1, h2⟩
      rw [show q = s0 from h1] at h2
      exact ho h2
