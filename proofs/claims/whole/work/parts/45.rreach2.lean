theorem d_near {R : tR} {p : Int} {h s a r : Nat} {P : Nat → Prop} {M : gM} (H : D2 R p h M) (hs : stP R s) (ha : a < rNa R) (hP : ∀ q : Nat, q < 2079 → stP R q → ((¬ M.1 52 q < 0 ∧ M.1 52 q < i3 (r : Int)) ↔ P q)) : f_X10_isNearer (i3 s) (i3 a) (i3 r) M = some (b_ (caP R p s a ∧ gdP R p P 0 s a), M) := by
  have hR := H.1.1
  have hna := hR.2.1
  have hs2 := st_lt hs
  have hlh := lh_r (p := p) (s := s) hR
  have e1 : (6 * (s : Int) + a).toNat = 6 * s + a := by omega
  rw [f_X10_isNearer]
  simp (disch := omega) only [iL6, i3_mul, i3_add, ck_ok, i3_tn, e1, d_can H hs ha, b2i_0, Int.toNat_natCast, d_lo H hs, g_v]
  by_cases hc : caP R p s a
  · rw [b_t hc, if_neg (by decide)]
    rw [gl_all (F := fun n g => f_X10_isNearer_24 n (i3 s) (i3 a) (i3 r) (i3 g) M) (ok := okP R p P s a) (lo := loR R p s) (hi := hiR R p s) ?_ FU (loR R p s) (by omega) (by omega) (by rw [FU_s]; omega), gd_i (k := 0) (by omega) (by omega)]
    · congr 2
      exact b_e ⟨fun h => ⟨hc, h⟩, fun h => h.2⟩
    · intro n g h1 h2
      rw [f_X10_isNearer_24]
      simp (disch := omega) only [ck_ok, i3_tn, Int.toNat_natCast, d_hi H hs, i3_lt]
      by_cases hx : hiR R p s < g
      · rw [if_pos hx, if_pos hx]
      · rw [if_neg hx, if_neg hx, d_leads H hs hc (by omega), g_b_some]
        rcases nx_q hR p s a g with hq | ⟨q, hq, hq2, hq3⟩
        · rw [hq, if_pos (show i3 (-2) = ((-2) : Int32) from rfl), if_neg (ok_f hq)]
        · rw [hq, i3_m2]
          simp (disch := omega) only [i3_eq]
          rw [if_neg (by omega)]
          simp (disch := omega) only [ck_ok, i3_tn, Int.toNat_natCast, iL1, i3_add]
          have e : okP R p P s a g ↔ (¬ M.1 52 q < 0 ∧ M.1 52 q < i3 (r : Int)) := (ok_t hq).trans (hP q hq2 hq3).symm
          by_cases g1 : M.1 52 q < 0
          · rw [if_pos g1, if_neg (fun h => (e.1 h).1 g1)]
          · rw [if_neg g1]
            by_cases g2 : M.1 52 q < i3 (r : Int)
            · rw [if_pos g2, if_pos (e.2 ⟨g1, g2⟩)]
            · rw [if_neg g2, if_neg (fun h => g2 (e.1 h).2)]
  · rw [b_f hc, if_pos rfl, b_f (fun h => hc h.1)]
theorem d_r105 {R : tR} {p : Int} {h s r : Nat} {P : Nat → Prop} {M : gM} {k72 : Int32 → Int32 → Int32 → gM → Option (Unit × gM)} {x1 : Int32} (H : D2 R p h M) (hs : stP R s) (hP : ∀ q : Nat, q < 2079 → stP R q → ((¬ M.1 52 q < 0 ∧ M.1 52 q < i3 (r : Int)) ↔ P q)) : ∀ (n a : Nat) (b : Bool), a ≤ rNa R → rNa R < n + a →
    f_X10_reaches_105 k72 n x1 (i3 r) (i3 s) (b2i b) (i3 a) M = f_X10_reaches_135 k72 x1 (i3 r) (i3 s) (b2i (b_ (b = true ∨ ∃ c, a ≤ c ∧ caP R p s c ∧ gdP R p P 0 s c))) M := by
  have hR := H.1.1
  have hna := hR.2.1
  intro n
  induction n with
  | zero => intro a b h1 h2; omega
  | succ n ih =>
    intro a b h1 h2
    rw [f_X10_reaches_105, d_acts H.1, g_b_some]
    simp (disch := omega) only [i3_le]
    by_cases hx : (rNa R : Int) ≤ a
    · rw [if_pos hx]
      congr 2
      cases b with
      | true => exact (b_t (Or.inl rfl)).symm
      | false => exact (b_f (fun h => h.elim (fun h => by cases h) (fun ⟨c, h1, h2, _⟩ => by have := h2.1; omega))).symm
    · rw [if_neg hx]
      simp (disch := omega) only [b2i_0]
      cases b with
      | true => rw [if_neg (by decide), b_t (Or.inl rfl)]
      | false =>
        rw [if_pos rfl, d_near H hs (by omega) hP, g_b_some, i3_sn, g_v, ih (a + 1) _ (by omega) (by omega)]
        congr 2
        refine b_e ⟨fun h => Or.inr (h.elim (fun h => ⟨a, Nat.le_refl _, b_i.mp h⟩) (fun ⟨c, h1, h2⟩ => ⟨c, by omega, h2⟩)), fun h => ?_⟩
        rcases h with h | ⟨c, q1, q2⟩
        · cases h
        · by_cases hca : c = a
          · subst hca
            exact Or.inl (b_i.mpr q2)
          · exact Or.inr ⟨c, by omega, q2⟩
/-- ahead of round r + 1, and within it -/
def uB (R : tR) (p : Int) (r : Nat) (N : gM) (s : Nat) : Prop := (¬ lrR R p r s ∧ N.1 52 s = i3 (-2)) ∨ ∃ n : Nat, n ≤ r ∧ lrR R p n s ∧ (n = 0 ∨ ¬ lrR R p (n - 1) s) ∧ N.1 52 s = i3 n
def uS (R : tR) (p : Int) (r : Nat) (N : gM) (s : Nat) : Prop := (¬ lrR R p r s ∧ N.1 52 s = i3 (-2)) ∨ ∃ n : Nat, n ≤ r + 1 ∧ lrR R p n s ∧ (n = 0 ∨ ¬ lrR R p (n - 1) s) ∧ N.1 52 s = i3 n
theorem uS.fl {R : tR} {p : Int} {r s : Nat} {N : gM} (hr : r ≤ 5000) (h : uS R p r N s) : (¬ N.1 52 s < 0 ∧ N.1 52 s < i3 ((r + 1 : Nat) : Int)) ↔ lrR R p r s := by
  rcases h with ⟨h1, h2⟩ | ⟨n, h2, h3, h4, h5⟩
  · rw [h2]
    exact ⟨fun h => absurd (by decide) h.1, fun h => absurd h h1⟩
  · rw [h5, iL0]
    simp (disch := omega) only [i3_lt]
    constructor
    · intro h
      exact lr_le (by omega) h3
    · intro h
      by_cases hn : n = r + 1
      · subst hn
        exact absurd h (h4.resolve_left (by omega))
      · omega
theorem d_r72 {R : tR} {p : Int} {h r : Nat} {M : gM} {k64 : Int32 → Int32 → gM → Option (Unit × gM)} {Q : Unit → gM → Prop} (hr : r ≤ 2080) (H : D2 R p h M) (hB : ∀ s : Nat, s < 2079 → stP R s → uB R p r M s)
    (hk : ∀ (b : Bool) N, Fo [52] [] M N → (∀ s : Nat, s < 2079 → stP R s → uB R p (r + 1) N s) → (b = false → ∀ s, lrR R p (r + 1) s → lrR R p r s) → (b = true → ∃ s, lrR R p (r + 1) s ∧ ¬ lrR R p r s) → wp (k64 (b2i b) (i3 ((r + 1 + 1 : Nat) : Int)) N) Q) :
    wp (f_X10_reaches_72 k64 FU (b2i false) (i3 ((r + 1 : Nat) : Int)) (i3 ((0 : Nat) : Int)) M) Q := by
  have hR := H.1.1
  refine wp_lp (F := fun n x (c : Bool) M => f_X10_reaches_72 k64 n (b2i c) (i3 ((r + 1 : Nat) : Int)) (i3 x) M)
    (I := fun x c N => Fo [52] [] M N ∧ (∀ s : Nat, s < 2079 → stP R s → uS R p r N s) ∧ (∀ s : Nat, s < x → stP R s → uB R p (r + 1) N s) ∧ (c = false → ∀ s : Nat, s < x → lrR R p (r + 1) s → lrR R p r s) ∧ (c = true → ∃ s, lrR R p (r + 1) s ∧ ¬ lrR R p r s) ∧ ∀ s, x ≤ s → N.1 52 s = M.1 52 s) 2079 ?_ ?_ FU 0 false M (by omega) (by rw [FU_s]; omega) ⟨Fo.rf, fun s hs hst => ?_, fun s hs => by omega, fun _ s hs => by omega, fun h => (by cases h), fun _ _ => rfl⟩
  · intro n x c N hx hI hk2
    obtain ⟨f, i1, i2, i4, i5, i6⟩ := hI
    have H1 := H.mv f (by decide) (by decide)
    rw [f_X10_reaches_72, d_state H1.1 (by omega), g_b_some]
    simp (disch := omega) only [b_if]
    rw [show i3 (x : Int) + 1 = i3 ((x + 1 : Nat) : Int) from i3_sn x]
    simp (disch := omega) only [iL2079, i3_le, ck_ok, i3_tn, Int.toNat_natCast]
    rw [if_neg (by omega)]
    have go : (stP R x → uB R p (r + 1) N x) → (lrR R p (r + 1) x → lrR R p r x) → wp (f_X10_reaches_72 k64 n (b2i c) (i3 ((r + 1 : Nat) : Int)) (i3 ((x + 1 : Nat) : Int)) N) Q := by
      intro g1 g2
      refine hk2 c N ⟨f, i1, fun s hs hst => ?_, fun hc s hs => ?_, i5, fun s hs => i6 s (by omega)⟩
      · by_cases hsx : s = x
        · subst hsx; exact g1 hst
        · exact i2 s (by omega) hst
      · by_cases hsx : s = x
        · subst hsx; exact g2
        · exact i4 hc s (by omega)
    refine wp_if (fun hst => ?_) (fun hst => ?_)
    · have e52 := i6 x (Nat.le_refl _)
      refine wp_if (fun h52 => ?_) (fun h52 => ?_)
      · have hl : ¬ lrR R p r x := fun hq => (((i1 x hx hst).fl (by omega)).2 hq).1 h52
        have hm2 : N.1 52 x = i3 (-2) := by
          rcases i1 x hx hst with g | ⟨m, g1, g2, g3, g4⟩
          · exact g.2
          · rw [g4, iL0, i3_lt (by omega) (by omega) (by omega) (by omega)] at h52
            omega
        have := d_r105 (k72 := f_X10_reaches_72 k64 n) (x1 := b2i c) H1 hst (P := lrR R p r) (r := r + 1) (fun q hq hq2 => (i1 q hq hq2).fl (by omega)) FU 0 false (by omega) (by have := hR.2.1; rw [FU_s]; omega)
        rw [show f_X10_reaches_105 (f_X10_reaches_72 k64 n) FU (b2i c) (i3 ((r + 1 : Nat) : Int)) (i3 (x : Int)) (0 : Int32) (0 : Int32) N = _ from this, f_X10_reaches_135]
        simp (disch := omega) only [b2i_0, b_ifn]
        rw [show i3 (x : Int) + 1 = i3 ((x + 1 : Nat) : Int) from i3_sn x]
        have ew : lrR R p (r + 1) x ↔ (false = true ∨ ∃ c, 0 ≤ c ∧ caP R p x c ∧ gdP R p (lrR R p r) 0 x c) := ⟨fun h => Or.inr (h.elim (fun h => absurd h hl) (fun ⟨_, a, h1⟩ => ⟨a, Nat.zero_le _, h1⟩)), fun h => h.elim (fun h => by cases h) (fun ⟨a, _, h1⟩ => Or.inr ⟨hst, a, h1⟩)⟩
        rw [← ew]
        refine wp_if (fun hw1 => ?_) (fun hw1 => ?_)
        · exact go (fun _ => Or.inl ⟨hw1, hm2⟩) (fun h => absurd h hw1)
        · have hw2 : lrR R p (r + 1) x := Classical.not_not.1 hw1
          rw [ck_ok (by omega) (by omega) (by omega), wp_m, i3_tn (by omega) (by omega), Int.toNat_natCast]
          have q52 : (sI N 52 x (i3 ((r + 1 : Nat) : Int))).1 52 = upd (N.1 52) x (i3 ((r + 1 : Nat) : Int)) := rI_e
          have fQ : Fo [52] [] M (sI N 52 x (i3 ((r + 1 : Nat) : Int))) := f.i (by decide) (by decide)
          generalize sI N 52 x (i3 ((r + 1 : Nat) : Int)) = N2 at q52 fQ ⊢
          refine hk2 true N2 ⟨fQ, fun s hs hst => ?_, fun s hs hst => ?_, fun h => (by cases h), fun _ => ⟨x, hw2, hl⟩, fun s hs => by rw [q52, up_n (by omega)]; exact i6 s (by omega)⟩
          · by_cases hsx : s = x
            · subst hsx
              exact Or.inr ⟨r + 1, Nat.le_refl _, hw2, Or.inr hl, by rw [q52, up_e]⟩
            · unfold uS
              rw [q52, up_n hsx]
              exact i1 s hs hst
          · by_cases hsx : s = x
            · subst hsx
              exact Or.inr ⟨r + 1, Nat.le_refl _, hw2, Or.inr hl, by rw [q52, up_e]⟩
            · unfold uB
              rw [q52, up_n hsx]
              exact i2 s (by omega) hst
      · rcases hB x hx hst with h | ⟨m, h1, h2, h3, h4⟩
        · exact absurd (by rw [e52, h.2]; decide) h52
        · exact go (fun _ => Or.inr ⟨m, by omega, h2, h3, e52.trans h4⟩) (fun _ => lr_le h1 h2)
    · exact go (fun h => absurd h hst) (fun h => absurd (lr_st _ _ h) hst)
  · intro n c N hI
    obtain ⟨f, i1, i2, i4, i5, i6⟩ := hI
    rw [f_X10_reaches_72]
    rw [show i3 ((r + 1 : Nat) : Int) + 1 = i3 ((r + 1 + 1 : Nat) : Int) from i3_sn (r + 1)]
    simp (disch := omega) only [iL2079, i3_le]
    rw [if_pos (by omega)]
    exact hk c N f i2 (fun hc s hw => i4 hc s (st_lt (lr_st _ _ hw)) hw) i5
  · exact (hB s hs hst).elim Or.inl (fun ⟨n, h1, h2⟩ => Or.inr ⟨n, by omega, h2⟩)
def uOk (R : tR) (p : Int) (N : gM) : Prop := ∀ s : Nat, s < 2079 → stP R s → N.1 52 s = i3 (reR R p s)
theorem d_rrounds {R : tR} {p : Int} {h : Nat} {M0 : gM} : ∀ (n r : Nat) (b : Bool) (M : gM), r ≤ 2080 → 2080 < n + r → D2 R p h M → Fo [52] [] M0 M → (∀ s : Nat, s < 2079 → stP R s → uB R p r M s) → (b = false → ∀ m s, lrR R p m s → lrR R p r s) → (b = true → r ≤ 2079) →
    wp (f_X10_reaches_64 n (b2i b) (i3 ((r + 1 : Nat) : Int)) M) (fun _ N => Fo [52] [] M0 N ∧ uOk R p N) := by
  intro n
  induction n with
  | zero => intro r b M h1 h2; omega
  | succ n ih =>
    intro r b M h1 h2 H f hB hb1 hb2
    rw [f_X10_reaches_64]
    simp (disch := omega) only [b2i_0]
    refine wp_if (fun hx => ?_) (fun hx => ?_)
    · have g2 := hb1 hx
      rw [wp_some]
      refine ⟨f, fun s hs hst => ?_⟩
      rcases hB s hs hst with ⟨q1, q2⟩ | ⟨m, q1, q2, q3, q4⟩
      · rw [q2, re_n (fun m hm => q1 (g2 m s hm))]
      · rw [q4, re_e q2 q3]
    · have hx : b = true := by cases b <;> simp_all
      have hr := hb2 hx
      refine d_r72 (by omega) H hB (fun b2 N g1 g2 g3 g4 => ?_)
      refine ih (r + 1) b2 N (by omega) (by omega) (H.mv g1 (by decide) (by decide)) (f.tr g1) g2 (fun hb m s hs => Or.inl (lr_all (g3 hb) m s hs)) (fun hb => ?_)
      obtain ⟨s, q1, q2⟩ := g4 hb
      by_cases hr2 : r = 2079
      · subst hr2
        exact absurd (lr_top q1) q2
      · omega
theorem d_r19 {R : tR} {p : Int} {h : Nat} {M : gM} (H : D2 R p h M) : wp (f_X10_reaches_19 FU (i3 ((0 : Nat) : Int)) M) (fun _ N => Fo [52] [] M N ∧ uOk R p N) := by
  refine wp_lp (F := fun n x (_ : Unit) M => f_X10_reaches_19 n (i3 x) M) (I := fun x _ N => Fo [52] [] M N ∧ ∀ s : Nat, s < x → N.1 52 s = i3 (@ite _ (stP R s ∧ ovP R s) (Classical.propDecidable _) 0 (-2))) 2079 ?_ ?_ FU 0 () M (by omega) (by rw [FU_s]; omega) ⟨Fo.rf, fun s hs => by omega⟩
  · intro n x _ N hx hI hk
    obtain ⟨f, i1⟩ := hI
    have H1 := H.mv f (by decide) (by decide)
    rw [f_X10_reaches_19, d_state H1.1 (by omega), g_b_some, d_over H1.1 hx, g_b_some]
    simp (disch := omega) only [b_if]
    simp only [i3_sn]
    simp (disch := omega) only [i3_lit, i3_neg, i3_le, ck_ok, i3_tn, Int.toNat_natCast, wp_m]
    rw [if_neg (by omega)]
    have fin : ∀ v : Int, v = @ite _ (stP R x ∧ ovP R x) (Classical.propDecidable _) 0 (-2) → wp (f_X10_reaches_19 n (i3 ((x + 1 : Nat) : Int)) (sI N 52 x (i3 v))) (fun _ N => Fo [52] [] M N ∧ uOk R p N) := by
      intro v hv
      refine hk () _ ⟨f.i (by decide) (by decide), fun s hs => ?_⟩
      rw [rI_e]
      by_cases hsx : s = x
      · subst hsx
        rw [up_e, hv]
      · rw [up_n hsx]
        exact i1 s (by omega)
    refine wp_if (fun h1 => ?_) (fun h1 => ?_)
    · refine wp_if (fun h2 => ?_) (fun h2 => ?_)
      · exact fin _ (by rw [if_pos ⟨h1, h2⟩])
      · exact fin _ (by rw [if_neg (fun h => h2 h.2)])
    · exact fin _ (by rw [if_neg (fun h => h1 h.1)])
  · intro n _ N hI
    obtain ⟨f, i1⟩ := hI
    rw [f_X10_reaches_19]
    simp (disch := omega) only [iL2079, i3_le]
    rw [if_pos (by omega)]
    refine d_rrounds FU 0 true N (by omega) (by rw [FU_s]; omega) (H.mv f (by decide) (by decide)) f (fun s hs hst => ?_) (fun h => by cases h) (fun _ => by omega)
    by_cases ho : ovP R s
    · exact Or.inr ⟨0, Nat.le_refl _, ⟨hst, ho⟩, Or.inl rfl, by rw [i1 s hs, if_pos ⟨hst, ho⟩]; rfl⟩
    · exact Or.inl ⟨fun h => ho h.2, by rw [i1 s hs, if_neg (fun h => ho h.2)]⟩
/-- LEAD -/
theorem d_lead {R : tR} {p : Int} {h s : Nat} {M : gM} (H : D2 R p h M) (hu : uOk R p M) (hs : stP R s) (h1 : 1 ≤ reR R p s) : f_X10_lead_29 FU (i3 s) (i3 ((0 : Nat) : Int)) M = some (i3 (ldR R p s), M) := by
  have hR := H.1.1
  have hna := hR.2.1
  have hs2 := st_lt hs
  rcases re_x (R := R) (p := p) (s := s) with ⟨g, -⟩ | ⟨m, g1, g2, g3, g4⟩
  · omega
  · obtain ⟨m, rfl⟩ : ∃ m', m = m' + 1 := ⟨m - 1, by omega⟩
    have e52 := hu s hs2 hs
    rw [g2] at e52
    have hP : ∀ q : Nat, q < 2079 → stP R q → ((¬ M.1 52 q < 0 ∧ M.1 52 q < i3 ((m + 1 : Nat) : Int)) ↔ lrR R p m q) := by
      intro q hq hq2
      rw [hu q hq hq2]
      rcases re_x (R := R) (p := p) (s := q) with ⟨u1, u2⟩ | ⟨j, u1, u2, u3, u4⟩
      · rw [u1]
        exact ⟨fun h => absurd (by decide) h.1, fun h => absurd h (u2 m)⟩
      · rw [u2, iL0]
        simp (disch := omega) only [i3_lt]
        constructor
        · intro h
          exact lr_le (by omega) u3
        · intro h
          by_cases hj : j ≤ m
          · omega
          · exact absurd (lr_le (by omega) h) (u4.resolve_left (by omega))
    have hld : ldR R p s = leA (fun a => caP R p s a ∧ gdP R p (lrR R p m) 0 s a) 6 (-2) := by
      unfold ldR lqR
      rw [if_neg (by omega), g2, Int.toNat_natCast, if_neg (by omega)]
      rfl
    rw [hld]
    have key : ∀ (n a : Nat), a ≤ rNa R → rNa R < n + a → (∀ b : Nat, b < a → ¬ (caP R p s b ∧ gdP R p (lrR R p m) 0 s b)) → f_X10_lead_29 n (i3 s) (i3 a) M = some (i3 (leA (fun a => caP R p s a ∧ gdP R p (lrR R p m) 0 s a) 6 (-2)), M) := by
      intro n
      induction n with
      | zero => intro a h1 h2; omega
      | succ n ih =>
        intro a h1 h2 h3
        rw [f_X10_lead_29, d_acts H.1, g_b_some]
        simp (disch := omega) only [i3_le]
        by_cases hx : (rNa R : Int) ≤ a
        · rw [if_pos hx, leA_d (fun b hb hq => h3 b (by have := hq.1.1; omega) hq)]
          rfl
        · rw [if_neg hx, ck_ok (by omega) (by omega) (by omega), tn_n (by omega), e52, d_near H hs (by omega) hP, g_b_some]
          simp (disch := omega) only [b_if]
          rw [i3_sn]
          by_cases hq : caP R p s a ∧ gdP R p (lrR R p m) 0 s a
          · rw [if_pos hq, leA_e (by omega) hq h3]
          · rw [if_neg hq]
            refine ih (a + 1) (by omega) (by omega) (fun b hb hb2 => ?_)
            by_cases hba : b = a
            · subst hba; exact hq hb2
            · exact h3 b (by omega) hb2
    exact key FU 0 (by omega) (by rw [FU_s]; omega) (fun b hb => by omega)
