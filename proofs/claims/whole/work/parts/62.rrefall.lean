/-! ===== the reference's rounds over falls and arrivals ===== -/
abbrev cRf : List Nat := [56, 57, 58]
theorem d_ra149 {R : tR} {p : Int} {h r s : Nat} {X : Nat → Int} {k96 : Int32 → Int32 → Int32 → gM → Option (Unit × gM)} {Q : Unit → gM → Prop} {M : gM} {b : Bool} (hrb : r ≤ 5000) (H : D2 R p h M) (hX : XP R p X) (hr : rfI R X M) (hs : stP R s) (ho : ¬ ovP R s) (hZ : ∀ q : Nat, q < 2079 → stP R q → zS R p X r M q) (hZs : zB R p X r M s)
    (hk : ∀ (c : Bool) N, Fo [58] [] M N → (∀ q : Nat, q ≠ s → N.1 58 q = M.1 58 q) → zB R p X (r + 1) N s → ((c = b ∧ (apX R p X (r + 1) s → apX R p X r s)) ∨ (c = true ∧ apX R p X (r + 1) s ∧ ¬ apX R p X r s)) → wp (k96 (b2i c) (i3 ((r + 1 : Nat) : Int)) (i3 ((s + 1 : Nat) : Int)) N) Q) :
    wp (f_X10_reflexAll_149 k96 (b2i b) (i3 ((r + 1 : Nat) : Int)) (i3 s) M) Q := by
  have hR := H.1.1
  have hs2 := st_lt hs
  rw [f_X10_reflexAll_149]
  rw [show i3 (s : Int) + 1 = i3 ((s + 1 : Nat) : Int) from i3_sn s]
  simp (disch := omega) only [ck_ok, i3_tn, Int.toNat_natCast]
  rcases hZs with ⟨z1, z2⟩ | ⟨n, z1, z2, z3, z4⟩
  · rw [z2, if_neg (show ¬ (0 : Int32) ≤ i3 (-2) by decide), d_comes (P := apX R p X r) H hX hr hs (fun q hq hq2 => (hZ q hq hq2).fl hrb), g_b_some, b_if]
    have e : apX R p X (r + 1) s ↔ ∀ g : Int, loR R p s ≤ g → g ≤ hiR R p s → ∃ q : Nat, drX R p X s g = q ∧ apX R p X r q := ⟨fun h => h.elim (fun h => absurd h z1) (fun h => h.2.2), fun h => Or.inr ⟨hs, ho, h⟩⟩
    refine wp_if (fun hc => ?_) (fun hc => ?_)
    · have hap := e.2 hc
      rw [wp_m]
      exact hk true _ (Fo.rf.i (by decide) (by decide)) (fun q hq => by rw [rI_e, up_n hq]) (Or.inr ⟨r + 1, Nat.le_refl _, hap, Or.inr z1, by rw [rI_e, up_e]⟩) (Or.inr ⟨rfl, hap, z1⟩)
    · have hap : ¬ apX R p X (r + 1) s := fun h => hc (e.1 h)
      exact hk b M Fo.rf (fun q _ => rfl) (Or.inl ⟨hap, z2⟩) (Or.inl ⟨rfl, fun h => absurd h hap⟩)
  · rw [z4]
    simp (disch := omega) only [iL0, i3_le]
    rw [if_pos (by omega)]
    exact hk b M Fo.rf (fun q _ => rfl) (Or.inr ⟨n, by omega, z2, z3, z4⟩) (Or.inl ⟨rfl, fun _ => ap_le z1 z2⟩)
theorem d_ra96 {R : tR} {p : Int} {h r : Nat} {X : Nat → Int} {k88 : Int32 → Int32 → gM → Option (Unit × gM)} {Q : Unit → gM → Prop} {M : gM} (hrb : r ≤ 2080) (H : D2 R p h M) (hX : XP R p X) (hr : rfI R X M) (hY : ∀ s : Nat, s < 2079 → stP R s → yB R p X r M s) (hZ : ∀ s : Nat, s < 2079 → stP R s → zB R p X r M s)
    (hk : ∀ (b : Bool) N, Fo [57, 58] [] M N → (∀ s : Nat, s < 2079 → stP R s → yB R p X (r + 1) N s) → (∀ s : Nat, s < 2079 → stP R s → zB R p X (r + 1) N s) → (b = false → (∀ s, fpX R p X (r + 1) s → fpX R p X r s) ∧ ∀ s, apX R p X (r + 1) s → apX R p X r s) → (b = true → ∃ s, (fpX R p X (r + 1) s ∧ ¬ fpX R p X r s) ∨ (apX R p X (r + 1) s ∧ ¬ apX R p X r s)) → wp (k88 (b2i b) (i3 ((r + 1 + 1 : Nat) : Int)) N) Q) :
    wp (f_X10_reflexAll_96 k88 FU (b2i false) (i3 ((r + 1 : Nat) : Int)) (i3 ((0 : Nat) : Int)) M) Q := by
  have hR := H.1.1
  refine wp_lp (F := fun n x (c : Bool) M => f_X10_reflexAll_96 k88 n (b2i c) (i3 ((r + 1 : Nat) : Int)) (i3 x) M)
    (I := fun x c N => Fo [57, 58] [] M N ∧ (∀ s : Nat, s < 2079 → stP R s → yS R p X r N s ∧ zS R p X r N s) ∧ (∀ s : Nat, s < x → stP R s → yB R p X (r + 1) N s ∧ zB R p X (r + 1) N s) ∧ (c = false → ∀ s : Nat, s < x → (fpX R p X (r + 1) s → fpX R p X r s) ∧ (apX R p X (r + 1) s → apX R p X r s)) ∧ (c = true → ∃ s, (fpX R p X (r + 1) s ∧ ¬ fpX R p X r s) ∨ (apX R p X (r + 1) s ∧ ¬ apX R p X r s)) ∧ ∀ s : Nat, x ≤ s → N.1 57 s = M.1 57 s ∧ N.1 58 s = M.1 58 s) 2079 ?_ ?_ FU 0 false M (by omega) (by rw [FU_s]; omega) ⟨Fo.rf, fun s hs hst => ⟨?_, ?_⟩, fun s hs => by omega, fun _ s hs => by omega, fun h => (by cases h), fun _ _ => ⟨rfl, rfl⟩⟩
  · intro n x c N hx hI hk2
    obtain ⟨f, i1, i2, i4, i5, i6⟩ := hI
    have H1 := H.mv f (by decide) (by decide)
    have hr1 : rfI R X N := fun s hs hst => by rw [f.e1 (by decide) (by decide)]; exact hr s hs hst
    have e57 := (i6 x (Nat.le_refl _)).1
    have e58 := (i6 x (Nat.le_refl _)).2
    rw [f_X10_reflexAll_96, d_state H1.1 (by omega), g_b_some, b_if]
    rw [show i3 (x : Int) + 1 = i3 ((x + 1 : Nat) : Int) from i3_sn x]
    simp (disch := omega) only [iL2079, i3_le]
    rw [if_neg (by omega)]
    refine wp_if (fun hst => ?_) (fun hst => ?_)
    · rw [d_over H1.1 hx, g_b_some, b_if]
      have yx : yB R p X r N x := by
        unfold yB
        rw [e57]
        exact hY x hx hst
      have zx : zB R p X r N x := by
        unfold zB
        rw [e58]
        exact hZ x hx hst
      refine wp_if (fun ho => ?_) (fun ho => ?_)
      · have nofp : ∀ m, ¬ fpX R p X m x := fun m hm => (fp_st _ _ hm).2 ho
        have ap0 : apX R p X 0 x := ⟨hst, ho⟩
        refine hk2 c N ⟨f, i1, fun s hs hst => ?_, fun hc s hs => ?_, i5, fun s hs => i6 s (by omega)⟩
        · by_cases hsx : s = x
          · subst hsx
            refine ⟨Or.inl ⟨nofp _, ?_⟩, ?_⟩
            · rcases yx with y | ⟨m, _, _, y, _⟩
              · exact y.2
              · exact absurd y.1 (nofp _)
            · rcases zx with z | ⟨m, z1, z2⟩
              · exact absurd (ap_le (Nat.zero_le _) ap0) z.1
              · exact Or.inr ⟨m, by omega, z2⟩
          · exact i2 s (by omega) hst
        · by_cases hsx : s = x
          · subst hsx
            exact ⟨fun h => absurd h (nofp _), fun _ => ap_le (Nat.zero_le _) ap0⟩
          · exact i4 hc s (by omega)
      · simp (disch := omega) only [ck_ok, i3_tn, Int.toNat_natCast]
        -- behind the falls
        have rest : ∀ (b1 : Bool) (N1 : gM), Fo [57] [] N N1 → (∀ q : Nat, q ≠ x → N1.1 57 q = N.1 57 q) → yB R p X (r + 1) N1 x → yS R p X r N1 x → ((b1 = c ∧ (fpX R p X (r + 1) x → fpX R p X r x)) ∨ (b1 = true ∧ fpX R p X (r + 1) x ∧ ¬ fpX R p X r x)) → wp (f_X10_reflexAll_149 (f_X10_reflexAll_96 k88 n) (b2i b1) (i3 ((r + 1 : Nat) : Int)) (i3 x) N1) Q := by
          intro b1 N1 f1 q57 y1 y1s hb1
          have q58 : N1.1 58 = N.1 58 := f1.e1 (by decide) (by decide)
          refine d_ra149 (by omega) (H1.mv f1 (by decide) (by decide)) hX (fun s hs hst => by rw [f1.e1 (by decide) (by decide)]; exact hr1 s hs hst) hst ho (fun q hq hq2 => by unfold zS; rw [q58]; exact (i1 q hq hq2).2) (by unfold zB; rw [q58]; exact zx) (fun b2 N2 g1 g2 g3 g4 => ?_)
          have p57 : N2.1 57 = N1.1 57 := g1.e1 (by decide) (by decide)
          refine hk2 b2 N2 ⟨(f.tr (f1.up (by decide) (by decide))).tr (g1.up (by decide) (by decide)), fun s hs hst => ⟨?_, ?_⟩, fun s hs hst => ⟨?_, ?_⟩, fun hc s hs => ?_, fun hc => ?_, fun s hs => ⟨?_, ?_⟩⟩
          · unfold yS
            rw [p57]
            by_cases hsx : s = x
            · subst hsx; exact y1s
            · rw [q57 s hsx]; exact (i1 s hs hst).1
          · by_cases hsx : s = x
            · subst hsx
              rcases g3 with ⟨z1, z2⟩ | z
              · exact Or.inl ⟨fun h => z1 (Or.inl h), z2⟩
              · exact Or.inr z
            · unfold zS
              rw [g2 s hsx, q58]
              exact (i1 s hs hst).2
          · unfold yB
            rw [p57]
            by_cases hsx : s = x
            · subst hsx; exact y1
            · rw [q57 s hsx]; exact (i2 s (by omega) hst).1
          · by_cases hsx : s = x
            · subst hsx; exact g3
            · unfold zB
              rw [g2 s hsx, q58]
              exact (i2 s (by omega) hst).2
          · rcases g4 with ⟨h1, h2⟩ | ⟨h1, -⟩
            · rw [hc] at h1
              rcases hb1 with ⟨h3, h4⟩ | ⟨h3, -⟩
              · by_cases hsx : s = x
                · subst hsx; exact ⟨h4, h2⟩
                · exact i4 (by rw [← h3, ← h1]) s (by omega)
              · rw [h3] at h1; cases h1
            · rw [hc] at h1; cases h1
          · rcases g4 with ⟨h1, -⟩ | ⟨-, h2, h3⟩
            · rcases hb1 with ⟨h3, -⟩ | ⟨-, h4, h5⟩
              · exact i5 (by rw [← h3, ← h1, hc])
              · exact ⟨x, Or.inl ⟨h4, h5⟩⟩
            · exact ⟨x, Or.inr ⟨h2, h3⟩⟩
          · rw [p57, q57 s (by omega)]
            exact (i6 s (by omega)).1
          · rw [g2 s (by omega), q58]
            exact (i6 s (by omega)).2
        rcases yx with ⟨y1, y2⟩ | ⟨m, y1, y2, y3, y4⟩
        · rw [y2, if_pos (show i3 0 = (0 : Int32) from rfl), d_mayF H1 hX hr1 hst (by omega) (fun q hq hq2 hr1 => (i1 q hq hq2).1.fl (by omega) hr1), g_b_some, b_if]
          have e := fx_s (p := p) (X := X) (r := r) hst ho y1
          refine wp_if (fun hc => ?_) (fun hc => ?_)
          · have hfp := e.2 hc
            rw [wp_m]
            exact rest true _ (Fo.rf.i (by decide) (by decide)) (fun q hq => by rw [rI_e, up_n hq]) (Or.inr ⟨r + 1, by omega, Nat.le_refl _, ⟨hfp, y1⟩, by rw [rI_e, up_e]⟩) (Or.inr ⟨r + 1, by omega, Nat.le_refl _, ⟨hfp, y1⟩, by rw [rI_e, up_e]⟩) (Or.inr ⟨rfl, hfp, y1⟩)
          · have hfp : ¬ fpX R p X (r + 1) x := fun h => hc (e.1 h)
            exact rest c N Fo.rf (fun q _ => rfl) (Or.inl ⟨hfp, y2⟩) (Or.inl ⟨y1, y2⟩) (Or.inl ⟨rfl, fun h => absurd h hfp⟩)
        · rw [y4]
          simp (disch := omega) only [iL0, i3_eq]
          rw [if_neg (by omega)]
          exact rest c N Fo.rf (fun q _ => rfl) (Or.inr ⟨m, y1, by omega, y3, y4⟩) (Or.inr ⟨m, y1, by omega, y3, y4⟩) (Or.inl ⟨rfl, fun _ => fp_le y2 y3.1⟩)
    · refine hk2 c N ⟨f, i1, fun s hs hst2 => ?_, fun hc s hs => ?_, i5, fun s hs => i6 s (by omega)⟩
      · by_cases hsx : s = x
        · subst hsx; exact absurd hst2 hst
        · exact i2 s (by omega) hst2
      · by_cases hsx : s = x
        · subst hsx
          exact ⟨fun h => absurd (fp_st _ _ h).1 hst, fun h => absurd (ap_st _ _ h) hst⟩
        · exact i4 hc s (by omega)
  · intro n c N hI
    obtain ⟨f, i1, i2, i4, i5, i6⟩ := hI
    rw [f_X10_reflexAll_96]
    rw [show i3 ((r + 1 : Nat) : Int) + 1 = i3 ((r + 1 + 1 : Nat) : Int) from i3_sn (r + 1)]
    simp (disch := omega) only [iL2079, i3_le]
    rw [if_pos (by omega)]
    exact hk c N f (fun s hs hst => (i2 s hs hst).1) (fun s hs hst => (i2 s hs hst).2) (fun hc => ⟨fun s h => (i4 hc s (st_lt (fp_st _ _ h).1)).1 h, fun s h => (i4 hc s (st_lt (ap_st _ _ h))).2 h⟩) i5
  · exact (hY s hs hst).elim Or.inl (fun ⟨n, h1, h2, h3⟩ => Or.inr ⟨n, h1, by omega, h3⟩)
  · exact (hZ s hs hst).elim Or.inl (fun ⟨n, h1, h2⟩ => Or.inr ⟨n, by omega, h2⟩)
theorem fp_all {R : tR} {p : Int} {X : Nat → Int} {n : Nat} (h : ∀ s, fpX R p X (n + 1) s → fpX R p X n s) : ∀ m s, fpX R p X m s → fpX R p X n s := by
  have step : ∀ k, (∀ s, fpX R p X (k + 1) s → fpX R p X k s) → ∀ s, fpX R p X (k + 2) s → fpX R p X (k + 1) s := fun k hk s hs => hs.elim id (fun ⟨g1, g2, g, g3, g4, g5⟩ => Or.inr ⟨g1, g2, g, g3, g4, g5.imp id (fun ⟨q, q1, q2⟩ => ⟨q, q1, hk q q2⟩)⟩)
  have up : ∀ j, ∀ s, fpX R p X (n + j + 1) s → fpX R p X (n + j) s := by
    intro j
    induction j with
    | zero => exact h
    | succ j ihj => exact step _ ihj
  have all : ∀ j s, fpX R p X (n + j) s → fpX R p X n s := by
    intro j
    induction j with
    | zero => exact fun s hs => hs
    | succ j ihj => exact fun s hs => ihj s (up j s hs)
  exact fun m s hs => all m s (fp_le (by omega) hs)
theorem ap_all {R : tR} {p : Int} {X : Nat → Int} {n : Nat} (h : ∀ s, apX R p X (n + 1) s → apX R p X n s) : ∀ m s, apX R p X m s → apX R p X n s := by
  have step : ∀ k, (∀ s, apX R p X (k + 1) s → apX R p X k s) → ∀ s, apX R p X (k + 2) s → apX R p X (k + 1) s := fun k hk s hs => hs.elim id (fun ⟨g1, g2, g3⟩ => Or.inr ⟨g1, g2, fun g g4 g5 => by
    obtain ⟨q, q1, q2⟩ := g3 g g4 g5
    exact ⟨q, q1, hk q q2⟩⟩)
  have up : ∀ j, ∀ s, apX R p X (n + j + 1) s → apX R p X (n + j) s := by
    intro j
    induction j with
    | zero => exact h
    | succ j ihj => exact step _ ihj
  have all : ∀ j s, apX R p X (n + j) s → apX R p X n s := by
    intro j
    induction j with
    | zero => exact fun s hs => hs
    | succ j ihj => exact fun s hs => ihj s (up j s hs)
  exact fun m s hs => all m s (ap_le (by omega) hs)
def rxI (R : tR) (p : Int) (X : Nat → Int) (N : gM) : Prop := rfI R X N ∧ ∀ s : Nat, s < 2079 → stP R s → N.1 57 s = i3 (fiX R p X s) ∧ N.1 58 s = i3 (avX R p X s)
theorem d_ra88 {R : tR} {p : Int} {h : Nat} {X : Nat → Int} {M0 : gM} (hX : XP R p X) (hr0 : rfI R X M0) : ∀ (n r : Nat) (b : Bool) (M : gM), r ≤ 2080 → 2080 < n + r → D2 R p h M → Fo [57, 58] [] M0 M → (∀ s : Nat, s < 2079 → stP R s → yB R p X r M s) → (∀ s : Nat, s < 2079 → stP R s → zB R p X r M s) → (b = false → (∀ m s, fpX R p X m s → fpX R p X r s) ∧ ∀ m s, apX R p X m s → apX R p X r s) → (b = true → r ≤ 2079) →
    wp (f_X10_reflexAll_88 n (b2i b) (i3 ((r + 1 : Nat) : Int)) M) (fun _ N => Fo [57, 58] [] M0 N ∧ rxI R p X N) := by
  intro n
  induction n with
  | zero => intro r b M h1 h2; omega
  | succ n ih =>
    intro r b M h1 h2 H f hY hZ hb1 hb2
    have hr : rfI R X M := fun s hs hst => by rw [f.e1 (by decide) (by decide)]; exact hr0 s hs hst
    rw [f_X10_reflexAll_88]
    simp only [b2i_0]
    refine wp_if (fun hx => ?_) (fun hx => ?_)
    · obtain ⟨g1, g2⟩ := hb1 hx
      rw [wp_some]
      refine ⟨f, hr, fun s hs hst => ⟨?_, ?_⟩⟩
      · rcases hY s hs hst with ⟨y1, y2⟩ | ⟨m, y1, y2, y3, y4⟩
        · rcases fi_x (R := R) (p := p) (X := X) (s := s) with ⟨e, -⟩ | ⟨k, -, -, -, e, -⟩
          · rw [y2, e]
          · exact absurd (g1 k s e) y1
        · rw [y4, fi_e (n := m) y3.1 (fun k hk => ?_)]
          apply Classical.byContradiction
          intro hlt
          exact y3.2 (fp_le (by omega) hk)
      · rcases hZ s hs hst with ⟨z1, z2⟩ | ⟨m, z1, z2, z3, z4⟩
        · rw [z2, av_n (fun k hk => z1 (g2 k s hk))]
        · rw [z4, av_e (n := m) z2 (fun k hk => ?_)]
          apply Classical.byContradiction
          intro hlt
          exact (z3.resolve_left (by omega)) (ap_le (by omega) hk)
    · have hrr := hb2 (bnf hx)
      refine d_ra96 (by omega) H hX hr hY hZ (fun b2 N u1 u2 u3 u4 u5 => ?_)
      refine ih (r + 1) b2 N (by omega) (by omega) (H.mv u1 (by decide) (by decide)) (f.tr u1) u2 u3 (fun hb => ⟨fun m s hs => Or.inl (fp_all (u4 hb).1 m s hs), fun m s hs => Or.inl (ap_all (u4 hb).2 m s hs)⟩) (fun hb => ?_)
      obtain ⟨s, hs⟩ := u5 hb
      by_cases hr2 : r = 2079
      · subst hr2
        rcases hs with ⟨q1, q2⟩ | ⟨q1, q2⟩
        · exact absurd (fp_top q1) q2
        · exact absurd (ap_top q1) q2
      · omega
theorem d_ra19 {R : tR} {p : Int} {h L : Nat} {ls : Nat → Nat} {M : gM} (H : D2 R p h M) (hl : lnJ R p L ls M) : wp (f_X10_reflexAll_19 FU (i3 ((0 : Nat) : Int)) M) (fun _ N => Fo (46 :: cRf) jV M N ∧ rxI R p (rxX R p L ls) N) := by
  have hR := H.1.1
  have hX := rx_XP hR hl.1
  refine wp_lp (F := fun n x (_ : Unit) M => f_X10_reflexAll_19 n (i3 x) M) (I := fun x _ N => Fo (46 :: cRf) jV M N ∧ ∀ s : Nat, s < x → N.1 57 s = i3 0 ∧ (stP R s → N.1 56 s = i3 (rxX R p L ls s) ∧ N.1 58 s = i3 (@ite _ (ovP R s) (Classical.propDecidable _) 0 (-2)))) 2079 ?_ ?_ FU 0 () M (by omega) (by rw [FU_s]; omega) ⟨Fo.rf, fun s hs => by omega⟩
  · intro n x _ N hx hI hk2
    obtain ⟨f, i1⟩ := hI
    rw [f_X10_reflexAll_19]
    rw [show i3 (x : Int) + 1 = i3 ((x + 1 : Nat) : Int) from i3_sn x]
    simp (disch := omega) only [iL2079, i3_le, ck_ok, i3_tn, Int.toNat_natCast]
    rw [if_neg (by omega), wp_m, wp_m]
    have f2 : Fo (46 :: cRf) jV M (sI (sI N 57 x 0) 58 x (-2)) := (f.i (by decide) (by decide)).i (by decide) (by decide)
    have q56 : (sI (sI N 57 x 0) 58 x (-2)).1 56 = N.1 56 := by rw [rI_n (by decide), rI_n (by decide)]
    have q57 : (sI (sI N 57 x 0) 58 x (-2)).1 57 = upd (N.1 57) x 0 := by rw [rI_n (by decide), rI_e]
    have q58 : (sI (sI N 57 x 0) 58 x (-2)).1 58 = upd (N.1 58) x (-2) := by rw [rI_e, rI_n (by decide)]
    generalize sI (sI N 57 x 0) 58 x (-2) = N2 at f2 q56 q57 q58 ⊢
    have H2 := H.mv f2 (by decide) (by decide)
    rw [d_state H2.1 (by omega), g_b_some, b_if]
    refine wp_if (fun hst => ?_) (fun hst => ?_)
    · refine wp_b _ (d_rAt H2 (hl.mv f2 (by decide) (by decide) (by decide)) hst) (fun r N3 hN => ?_)
      obtain ⟨rfl, f3⟩ := hN
      rw [wp_m]
      have f4 : Fo (46 :: cRf) jV M (sI N3 56 x (i3 (rxX R p L ls x))) := (f2.tr (f3.up (by decide) (by decide))).i (by decide) (by decide)
      have p56 : (sI N3 56 x (i3 (rxX R p L ls x))).1 56 = upd (N.1 56) x (i3 (rxX R p L ls x)) := by rw [rI_e, f3.e1 (by decide) (by decide), q56]
      have p57 : (sI N3 56 x (i3 (rxX R p L ls x))).1 57 = upd (N.1 57) x 0 := by rw [rI_n (by decide), f3.e1 (by decide) (by decide), q57]
      have p58 : (sI N3 56 x (i3 (rxX R p L ls x))).1 58 = upd (N.1 58) x (-2) := by rw [rI_n (by decide), f3.e1 (by decide) (by decide), q58]
      generalize sI N3 56 x (i3 (rxX R p L ls x)) = N4 at f4 p56 p57 p58 ⊢
      rw [d_over (H.mv f4 (by decide) (by decide)).1 hx, g_b_some, b_if]
      refine wp_if (fun ho => ?_) (fun ho => ?_)
      · rw [wp_m]
        refine hk2 () _ ⟨f4.i (by decide) (by decide), fun s hs => ?_⟩
        rw [rI_n (by decide), rI_n (by decide), rI_e, p56, p57, p58]
        by_cases hsx : s = x
        · subst hsx
          rw [up_e, up_e, up_e, if_pos ho]
          exact ⟨rfl, fun _ => ⟨rfl, rfl⟩⟩
        · rw [up_n hsx, up_n hsx, up_n hsx, up_n hsx]
          exact i1 s (by omega)
      · refine hk2 () N4 ⟨f4, fun s hs => ?_⟩
        rw [p56, p57, p58]
        by_cases hsx : s = x
        · subst hsx
          rw [up_e, up_e, up_e, if_neg ho]
          exact ⟨rfl, fun _ => ⟨rfl, rfl⟩⟩
        · rw [up_n hsx, up_n hsx, up_n hsx]
          exact i1 s (by omega)
    · refine hk2 () N2 ⟨f2, fun s hs => ?_⟩
      rw [q56, q57, q58]
      by_cases hsx : s = x
      · subst hsx
        rw [up_e]
        exact ⟨rfl, fun h => absurd h hst⟩
      · rw [up_n hsx, up_n hsx]
        exact i1 s (by omega)
  · intro n _ N hI
    obtain ⟨f, i1⟩ := hI
    rw [f_X10_reflexAll_19]
    simp (disch := omega) only [iL2079, i3_le]
    rw [if_pos (by omega)]
    refine wp_mono (d_ra88 (M0 := N) hX (fun s hs hst => ((i1 s hs).2 hst).1) FU 0 true N (by omega) (by rw [FU_s]; omega) (H.mv f (by decide) (by decide)) Fo.rf (fun s hs hst => Or.inl ⟨fun h => h, (i1 s hs).1⟩) (fun s hs hst => ?_) (fun h => by cases h) (fun _ => by omega)) (fun _ N2 hN => ⟨f.tr (hN.1.up (by decide) (by decide)), hN.2⟩)
    have := ((i1 s hs).2 hst).2
    by_cases ho : ovP R s
    · rw [if_pos ho] at this
      exact Or.inr ⟨0, Nat.le_refl _, ⟨hst, ho⟩, Or.inl rfl, this⟩
    · rw [if_neg ho] at this
      exact Or.inl ⟨fun h => ho h.2, this⟩
/-! ===== the WITNESS by the reference ===== -/
theorem fi_r {R : tR} {p : Int} {X : Nat → Int} {s : Nat} : 0 ≤ fiX R p X s ∧ fiX R p X s < 2080 := by
  rcases fi_x (R := R) (p := p) (X := X) (s := s) with ⟨e, -⟩ | ⟨k, k1, k2, k3, -⟩ <;> omega
theorem d_fatal {R : tR} {p : Int} {h s d : Nat} {X : Nat → Int} {M : gM} (H : D2 R p h M) (hX : XP R p X) (hr : rxI R p X M) (hs : stP R s) (hd : fiX R p X s = d) (hd1 : 1 ≤ d) : f_X10_fatal (i3 s) M = some (i3 (fgX R p X s), M) := by
  have hR := H.1.1
  have hs2 := st_lt hs
  have hlh := lh_r (p := p) (s := s) hR
  have hfr := fi_r (R := R) (p := p) (X := X) (s := s)
  obtain ⟨w1, w2, w3⟩ := fg_x hR hd hd1
  have e57 : M.1 57 s = i3 d := by rw [(hr.2 s hs2 hs).1, hd]
  rw [f_X10_fatal]
  simp (disch := omega) only [ck_ok, i3_tn, Int.toNat_natCast, d_lo H hs, g_v]
  have key : ∀ (n : Nat) (g : Int), loR R p s ≤ g → g ≤ fgX R p X s → fgX R p X s - g < n → f_X10_fatal_7 n (i3 s) (i3 g) M = some (i3 (fgX R p X s), M) := by
    intro n
    induction n with
    | zero => intro g h1 h2 h3; omega
    | succ n ih =>
      intro g h1 h2 h3
      have hhi := w2.1
      rw [f_X10_fatal_7]
      rw [show i3 g + 1 = i3 (g + 1) from i3_add g 1]
      simp (disch := omega) only [ck_ok, i3_tn, Int.toNat_natCast, d_hi H hs, i3_lt]
      rw [if_neg (by omega), d_driven H hX hr.1 hs (by omega), g_b_some, e57]
      simp (disch := omega) only [iL1, i3_eq, i3_sub]
      have hP : fgP R p X s g → g = fgX R p X s := fun h => by
        apply Classical.byContradiction
        intro hne
        exact w3 g h1 (by omega) h
      have nx : ¬ fgP R p X s g → f_X10_fatal_7 n (i3 s) (i3 (g + 1)) M = some (i3 (fgX R p X s), M) := fun h => by
        refine ih (g + 1) (by omega) ?_ (by omega)
        apply Classical.byContradiction
        intro hne
        have : g = fgX R p X s := by omega
        rw [this] at h
        exact h w2
      by_cases h1d : d = 1
      · rw [if_pos (by omega)]
        by_cases hq : drX R p X s g = -2
        · rw [hq, if_pos (show i3 (-2) = ((-2) : Int32) from rfl), hP ⟨by omega, by rw [if_pos (by omega)]; exact hq⟩]
        · rcases dr_q hR p X s g with e | ⟨q, e, q2, q3⟩
          · exact absurd e hq
          · rw [e]
            simp (disch := omega) only [i3_m2, i3_eq]
            rw [if_neg (by omega)]
            refine nx (fun hf => ?_)
            have := hf.2
            rw [if_pos (by omega)] at this
            exact hq this
      · rw [if_neg (by omega)]
        rcases dr_q hR p X s g with e | ⟨q, e, q2, q3⟩
        · rw [e, if_pos (show i3 (-2) = ((-2) : Int32) from rfl)]
          refine nx (fun hf => ?_)
          have := hf.2
          rw [if_neg (by omega)] at this
          obtain ⟨u, u1, -⟩ := this
          omega
        · rw [e]
          have hfq := fi_r (R := R) (p := p) (X := X) (s := q)
          simp (disch := omega) only [i3_m2, i3_eq]
          rw [if_neg (by omega)]
          simp (disch := omega) only [ck_ok, i3_tn, Int.toNat_natCast, (hr.2 q q2 q3).1, i3_eq]
          by_cases hq : fiX R p X q = (d : Int) - 1
          · rw [if_pos hq, hP ⟨by omega, by rw [if_neg (by omega)]; exact ⟨q, e, by rw [hq, hd]⟩⟩]
          · rw [if_neg hq]
            refine nx (fun hf => ?_)
            have := hf.2
            rw [if_neg (by omega)] at this
            obtain ⟨u, u1, u2⟩ := this
            have : u = q := by omega
            subst this
            rw [hd] at u2
            exact hq u2
  exact key FU (loR R p s) (by omega) (by omega) (by have := w2.1; rw [FU_s]; omega)
theorem pt_s {R : tR} (hR : tOk R) {p : Int} {X : Nat → Int} {s0 d i : Nat} (hd : fiX R p X s0 = d) (hi : i + 1 < d) : drX R p X (ptX R p X s0 i) (fgX R p X (ptX R p X s0 i)) = (ptX R p X s0 (i + 1) : Int) ∧ -12 ≤ fgX R p X (ptX R p X s0 i) ∧ fgX R p X (ptX R p X s0 i) ≤ 12 := by
  have hf := pt_fi hR hd i (by omega)
  obtain ⟨w1, w2, w3⟩ := fg_x hR hf (by omega)
  have hlh := lh_r (p := p) (s := ptX R p X s0 i) hR
  have h4 := w2.2
  rw [if_neg (by omega)] at h4
  obtain ⟨q, q1, q2⟩ := h4
  refine ⟨by rw [ptX, q1, Int.toNat_natCast], by omega, by have := w2.1; omega⟩
theorem d_wit {R : tR} {p : Int} {h s0 d i : Nat} {X : Nat → Int} {M : gM} (H : D2 R p h M) (hX : XP R p X) (hr : rxI R p X M) (hd : fiX R p X s0 = d) (hi : i < d) (hd2 : d < 2080) : f_X10_witness_37 FU (i3 i) (i3 s0) (i3 ((0 : Nat) : Int)) M = some (i3 (fgX R p X (ptX R p X s0 i)), M) := by
  have hR := H.1.1
  have key : ∀ (n k : Nat), k ≤ i → i < n + k → f_X10_witness_37 n (i3 i) (i3 (ptX R p X s0 k)) (i3 k) M = some (i3 (fgX R p X (ptX R p X s0 i)), M) := by
    intro n
    induction n with
    | zero => intro k h1 h2; omega
    | succ n ih =>
      intro k h1 h2
      have hf := pt_fi hR hd k (by omega)
      have hst := (fg_P hf (by omega)).1
      rw [f_X10_witness_37, d_fatal H hX hr hst hf (by omega), g_b_some, g_b_some]
      simp (disch := omega) only [i3_le]
      by_cases hx : (i : Int) ≤ k
      · have : k = i := by omega
        subst this
        rw [if_pos hx]
      · obtain ⟨p1, p2⟩ := pt_s hR hd (show k + 1 < d by omega)
        rw [if_neg hx, d_driven H hX hr.1 hst p2, p1, g_b_some, i3_sn]
        exact ih (k + 1) (by omega) (by omega)
  exact key FU 0 (by omega) (by rw [FU_s]; omega)
