/-! ===== the reference's REFLEXES ===== -/
def lnJ (R : tR) (p : Int) (L : Nat) (ls : Nat → Nat) (M : gM) : Prop := lnL R p L ls ∧ M.1 0 50 = i3 L ∧ ∀ i : Nat, i < L → M.1 39 i = i3 (ls i) ∧ M.1 40 i = i3 (keR R p (ls i))
theorem lnJ.mv {R : tR} {p : Int} {L : Nat} {ls : Nat → Nat} {M M' : gM} {S J : List Nat} (h : lnJ R p L ls M) (f : Fo S J M M') (h1 : 39 ∉ S) (h2 : 40 ∉ S) (hJ : 50 ∉ J) : lnJ R p L ls M' := ⟨h.1, by rw [f.e0 hJ]; exact h.2.1, fun i hi => by rw [f.e1 (by decide) h1, f.e1 (by decide) h2]; exact h.2.2 i hi⟩
theorem d_lAt {R : tR} {p : Int} {L s : Nat} {ls : Nat → Nat} {M : gM} (h : lnJ R p L ls M) (hs : s < 2079) : ∃ r : Int, f_X10_learnedAt (i3 s) M = some (i3 r, M) ∧ ((r = -1 ∧ ¬ lnP L ls s) ∨ ∃ k : Nat, r = k ∧ k < L ∧ ls k = s) := by
  obtain ⟨⟨h1, h2, h3⟩, h4, h5⟩ := h
  have key : ∀ (n k : Nat), k ≤ L → L < n + k → (∀ j, j < k → ls j ≠ s) → ∃ r : Int, f_X10_learnedAt_2 n (i3 s) (i3 k) M = some (i3 r, M) ∧ ((r = -1 ∧ ¬ lnP L ls s) ∨ ∃ k : Nat, r = k ∧ k < L ∧ ls k = s) := by
    intro n
    induction n with
    | zero => intro k g1 g2; omega
    | succ n ih =>
      intro k g1 g2 g3
      rw [f_X10_learnedAt_2, h4]
      simp (disch := omega) only [i3_le]
      by_cases hx : (L : Int) ≤ k
      · rw [if_pos hx]
        exact ⟨-1, rfl, Or.inl ⟨rfl, fun ⟨i, i1, i2⟩ => g3 i (by omega) i2⟩⟩
      · have hlt := st_lt (sf_st (h2 k (by omega)).1)
        rw [if_neg hx, ck_ok (by omega) (by omega) (by omega), tn_n (by omega), (h5 k (by omega)).1, i3_sn]
        simp (disch := omega) only [i3_eq]
        by_cases he : (ls k : Int) = s
        · rw [if_pos he]
          exact ⟨k, rfl, Or.inr ⟨k, rfl, by omega, by omega⟩⟩
        · rw [if_neg he]
          refine ih (k + 1) (by omega) (by omega) (fun j hj e => ?_)
          by_cases hjk : j = k
          · subst hjk; omega
          · exact g3 j (by omega) e
  exact key FU 0 (by omega) (by rw [FU_s]; omega) (fun j hj => by omega)
theorem d_r117 {R : tR} {p : Int} {h s : Nat} {M : gM} (H : D2 R p h M) (hs : stP R s) : f_X10_reflexAt_117 FU (i3 s) (i3 ((0 : Nat) : Int)) M = some (i3 (leA (caP R p s) 6 (-2)), M) := by
  have hR := H.1.1
  have hna := hR.2.1
  have hs2 := st_lt hs
  have key : ∀ (n a : Nat), a ≤ rNa R → rNa R < n + a → (∀ b : Nat, b < a → ¬ caP R p s b) → f_X10_reflexAt_117 n (i3 s) (i3 a) M = some (i3 (leA (caP R p s) 6 (-2)), M) := by
    intro n
    induction n with
    | zero => intro a h1 h2; omega
    | succ n ih =>
      intro a h1 h2 h3
      have e1 : (6 : Int) * s + a = ((6 * s + a : Nat) : Int) := by omega
      rw [f_X10_reflexAt_117, d_acts H.1, g_b_some, i3_sn]
      simp (disch := omega) only [i3_le]
      by_cases hx : (rNa R : Int) ≤ a
      · rw [if_pos hx, leA_d (fun b hb hq => h3 b (by have := hq.1; omega) hq)]
        rfl
      · rw [if_neg hx]
        simp (disch := omega) only [iL6, i3_mul, i3_add, e1, ck_ok, i3_tn, Int.toNat_natCast, d_can H hs (show a < rNa R by omega), b2i_0, b2i_i0, b_ifn]
        by_cases hc : caP R p s a
        · rw [if_neg (fun h => h hc), leA_e (by omega) hc h3]
        · rw [if_pos hc]
          refine ih (a + 1) (by omega) (by omega) (fun b hb hq => ?_)
          by_cases hba : b = a
          · subst hba; exact hc hq
          · exact h3 b (by omega) hq
  exact key FU 0 (by omega) (by rw [FU_s]; omega) (fun b hb => by omega)
theorem d_r43 {R : tR} {p : Int} {h s : Nat} {M0 : gM} (H0 : D2 R p h M0) (hs : stP R s) : ∀ (n j : Nat) (M : gM), j ≤ rNr R → j < n → Fo [46] jV M0 M → Vr M s 0 0 p →
    wp (f_X10_reflexAt_43 n (i3 s) (i3 (12 * (h : Int) + ((rNr R : Int) - j))) M) (fun r N => r = i3 (dvR R p s j) ∧ Fo [46] jV M0 N) := by
  have hR := H0.1.1
  have hna := hR.2.1
  have hs2 := st_lt hs
  have hh := H0.1.2.2.1
  intro n
  induction n with
  | zero => intro j M h1 h2; omega
  | succ n ih =>
    intro j M hj hn f hv
    have H := H0.mv f (by decide) (by decide)
    have h13 := H.1.2.2.2.1
    have h24 : M.1 24 h = i3 (rNr R) := H.1.2.2.2.2.2.1.2.2.2.2
    rw [f_X10_reflexAt_43, h13, d_ck hh, tn_n (by omega), h24]
    simp (disch := omega) only [iL12, i3_mul, i3_add, i3_le]
    cases j with
    | zero =>
      rw [if_pos (by omega)]
      have := d_r117 H hs
      rw [show f_X10_reflexAt_117 FU (i3 (s : Int)) (0 : Int32) M = _ from this, wp_some]
      exact ⟨rfl, f⟩
    | succ j =>
      rw [if_neg (by omega)]
      have hr : rNr R - 1 - j < rNr R := by omega
      obtain ⟨c1, c2⟩ := H.1.2.2.2.2.2.2.2.2.1 _ hr
      have hra := hR.2.2.2.2 _ hr
      have e1 : 12 * (h : Int) + ((rNr R : Int) - ((j + 1 : Nat) : Int)) = ((12 * h + (rNr R - 1 - j) : Nat) : Int) := by omega
      have e2 : ((12 * h + (rNr R - 1 - j) : Nat) : Int) + 1 = 12 * (h : Int) + ((rNr R : Int) - (j : Int)) := by omega
      have e3 : (6 : Int) * s + (rRa R (rNr R - 1 - j) : Int) = ((6 * s + rRa R (rNr R - 1 - j) : Nat) : Int) := by omega
      rw [e1]
      simp (disch := omega) only [iL1, i3_add, e2, ck_ok, i3_tn, Int.toNat_natCast, c1, iL6, i3_mul, e3, d_can H hs hra, b2i_0, b2i_i0, b_ifn]
      refine wp_if (fun hc => ?_) (fun hc => ?_)
      · refine wp_mono (ih j M (by omega) (by omega) f hv) (fun r N hN => ⟨?_, hN.2⟩)
        rw [hN.1, dvR, if_neg (fun h => hc h.1)]
      · have hc : caP R p s (rRa R (rNr R - 1 - j)) := Classical.not_not.1 hc
        refine wp_b _ (d_cond c2 (Fo.rf (S := []) (J := [])) (by decide) hv) (fun r M2 hq => ?_)
        obtain ⟨hq1, f2⟩ := hq
        have f3 := f.tr (f2.up (by decide) (by decide) : Fo [46] jV M M2)
        refine wp_if (fun hx4 => ?_) (fun hx4 => ?_)
        · rw [wp_some, f2.e1 (by decide) (by decide), c1, dvR, if_pos ⟨hc, by rw [← hq1]; exact hx4⟩]
          exact ⟨rfl, f3⟩
        · refine wp_mono (ih j M2 (by omega) (by omega) f3 (hv.mv f2 (by decide))) (fun r N hN => ⟨?_, hN.2⟩)
          rw [hN.1, dvR, if_neg (fun h => hx4 (by rw [hq1]; exact h.2))]
theorem dr_ov {R : tR} {p : Int} {s : Nat} (h : ovP R s) : ∀ j, dvR R p s j = -2 := by
  intro j
  induction j with
  | zero => rw [dvR, leA_d (fun a _ => ca_ov h)]
  | succ j ih => rw [dvR, if_neg (fun g => ca_ov h g.1), ih]
theorem d_rAt {R : tR} {p : Int} {h L s : Nat} {ls : Nat → Nat} {M : gM} (H : D2 R p h M) (hl : lnJ R p L ls M) (hs : stP R s) : wp (f_X10_reflexAt (i3 s) M) (fun r N => r = i3 (rxX R p L ls s) ∧ Fo [46] jV M N) := by
  have hR := H.1.1
  have hna := hR.2.1
  have hs2 := st_lt hs
  rw [f_X10_reflexAt, d_over H.1 hs2, g_b_some, b_if]
  unfold rxX
  refine wp_if (fun ho => ?_) (fun ho => ?_)
  · rw [wp_some, if_neg (fun ⟨i, i1, i2⟩ => (hl.1.2.1 i i1).2 (by rw [i2]; exact ho)), show drR R p s = -2 from dr_ov ho _]
    exact ⟨rfl, Fo.rf⟩
  · obtain ⟨r, e, hr⟩ := d_lAt hl hs2
    rw [e, g_b_some]
    rcases hr with ⟨rfl, hno⟩ | ⟨k, rfl, k1, k2⟩
    · rw [if_pos (show i3 (-1) < 0 by decide), if_neg hno]
      refine wp_b _ (d_look (pu := 0) (g := 0) H.1 hs2) (fun _ M2 hN => ?_)
      obtain ⟨f, hv⟩ := hN
      rw [(H.1.mv f (by decide) (by decide)).2.2.2.1, iL12, i3_mul, wp_v]
      have := d_r43 H hs FU (rNr R) M2 (Nat.le_refl _) (by rw [FU_s]; omega) (f.up (by decide) (by decide)) hv
      rw [show 12 * (h : Int) + ((rNr R : Int) - (rNr R : Int)) = 12 * (h : Int) by omega] at this
      exact this
    · have hk40 := hl.1.1
      simp (disch := omega) only [iL0, i3_lt]
      rw [if_neg (by omega), ck_ok (by omega) (by omega) (by omega), wp_some, tn_n (by omega), (hl.2.2 k k1).2, k2, if_pos ⟨k, k1, k2⟩]
      exact ⟨rfl, Fo.rf⟩
def rfI (R : tR) (X : Nat → Int) (M : gM) : Prop := ∀ s : Nat, s < 2079 → stP R s → M.1 56 s = i3 (X s)
theorem d_driven {R : tR} {p : Int} {h s : Nat} {X : Nat → Int} {g : Int} {M : gM} (H : D2 R p h M) (hX : XP R p X) (hr : rfI R X M) (hs : stP R s) (hg : -12 ≤ g ∧ g ≤ 12) : f_X10_driven (i3 s) (i3 g) M = some (i3 (drX R p X s g), M) := by
  have hR := H.1.1
  have hs2 := st_lt hs
  rw [f_X10_driven]
  simp (disch := omega) only [ck_ok, i3_tn, Int.toNat_natCast, hr s hs2 hs]
  unfold drX
  rcases hX s hs with e | ⟨a, e, hc⟩
  · rw [e, if_neg (show ¬ (0 : Int32) ≤ i3 (-2) by decide), if_pos (by omega)]
    rfl
  · have ha := ca_6 hR hc
    rw [e]
    simp (disch := omega) only [iL0, i3_le]
    rw [if_pos (by omega), if_neg (by omega), Int.toNat_natCast, d_leads H hs hc hg, g_b_some]
/-- a loop over gusts that looks for one -/
theorem gl_ex {F : Nat → Int → Option (Bool × gM)} {ok : Int → Prop} {lo hi : Int} {M : gM} (hF : ∀ n g, lo ≤ g → g ≤ hi + 1 → F (n + 1) g = @ite _ (hi < g) (Classical.propDecidable _) (some (false, M)) (@ite _ (ok g) (Classical.propDecidable _) (some (true, M)) (F n (g + 1)))) : ∀ (n : Nat) (g : Int), lo ≤ g → g ≤ hi + 1 → hi + 1 - g < n → F n g = some (b_ (∃ x, g ≤ x ∧ x ≤ hi ∧ ok x), M) := by
  intro n
  induction n with
  | zero => intro g h1 h2 h3; omega
  | succ n ih =>
    intro g h1 h2 h3
    rw [hF n g h1 h2]
    by_cases hx : hi < g
    · rw [if_pos hx, b_f (fun ⟨x, h1, h2, _⟩ => by omega)]
    · rw [if_neg hx]
      by_cases ho : ok g
      · rw [if_pos ho, b_t ⟨g, by omega, by omega, ho⟩]
      · rw [if_neg ho, ih (g + 1) (by omega) (by omega) (by omega)]
        congr 2
        refine b_e ⟨fun ⟨x, h1, h2⟩ => ⟨x, by omega, h2⟩, fun ⟨x, h1, h2, h3⟩ => ⟨x, ?_, h2, h3⟩⟩
        by_cases hxg : x = g
        · rw [hxg] at h3; exact absurd h3 ho
        · omega
theorem d_comes {R : tR} {p : Int} {h s r : Nat} {X : Nat → Int} {P : Nat → Prop} {M : gM} (H : D2 R p h M) (hX : XP R p X) (hr : rfI R X M) (hs : stP R s) (hP : ∀ q : Nat, q < 2079 → stP R q → ((¬ M.1 58 q < 0 ∧ M.1 58 q < i3 (r : Int)) ↔ P q)) : f_X10_comes (i3 s) (i3 r) M = some (b_ (∀ g : Int, loR R p s ≤ g → g ≤ hiR R p s → ∃ q : Nat, drX R p X s g = q ∧ P q), M) := by
  have hR := H.1.1
  have hs2 := st_lt hs
  have hlh := lh_r (p := p) (s := s) hR
  rw [f_X10_comes]
  simp (disch := omega) only [ck_ok, i3_tn, Int.toNat_natCast, d_lo H hs, g_v]
  rw [gl_all (F := fun n g => f_X10_comes_7 n (i3 s) (i3 r) (i3 g) M) (ok := fun g => ∃ q : Nat, drX R p X s g = q ∧ P q) (lo := loR R p s) (hi := hiR R p s) ?_ FU (loR R p s) (by omega) (by omega) (by rw [FU_s]; omega)]
  intro n g h1 h2
  rw [f_X10_comes_7]
  simp (disch := omega) only [ck_ok, i3_tn, Int.toNat_natCast, d_hi H hs, i3_lt]
  by_cases hx : hiR R p s < g
  · rw [if_pos hx, if_pos hx]
  · rw [if_neg hx, if_neg hx, d_driven H hX hr hs (by omega), g_b_some]
    rcases dr_q hR p X s g with hq | ⟨q, hq, hq2, hq3⟩
    · rw [hq, if_pos (show i3 (-2) = ((-2) : Int32) from rfl), if_neg]
      rintro ⟨q, q1, -⟩
      omega
    · rw [hq]
      simp (disch := omega) only [i3_m2, i3_eq]
      rw [if_neg (by omega)]
      simp (disch := omega) only [ck_ok, i3_tn, Int.toNat_natCast, iL1, i3_add]
      have e : (∃ u : Nat, (q : Int) = u ∧ P u) ↔ (¬ M.1 58 q < 0 ∧ M.1 58 q < i3 (r : Int)) := by
        rw [hP q hq2 hq3]
        exact ⟨fun ⟨u, u1, u2⟩ => by rw [show q = u by omega]; exact u2, fun h => ⟨q, rfl, h⟩⟩
      by_cases g1 : M.1 58 q < 0
      · rw [if_pos g1, if_neg (fun h => (e.1 h).1 g1)]
      · rw [if_neg g1]
        by_cases g2 : M.1 58 q < i3 (r : Int)
        · rw [if_pos g2, if_pos (e.2 ⟨g1, g2⟩)]
        · rw [if_neg g2, if_neg (fun h => g2 (e.1 h).2)]
/-- the STATES from which one falls in just n BEATS -/
def fxP (R : tR) (p : Int) (X : Nat → Int) (n s : Nat) : Prop := fpX R p X n s ∧ ¬ fpX R p X (n - 1) s
theorem d_mayF {R : tR} {p : Int} {h s r : Nat} {X : Nat → Int} {M : gM} (H : D2 R p h M) (hX : XP R p X) (hr : rfI R X M) (hs : stP R s) (hrb : r ≤ 5000) (hP : ∀ q : Nat, q < 2079 → stP R q → 1 ≤ r → (M.1 57 q = i3 (r : Int) ↔ fxP R p X r q)) : f_X10_mayFall (i3 s) (i3 ((r + 1 : Nat) : Int)) M = some (b_ (∃ g : Int, loR R p s ≤ g ∧ g ≤ hiR R p s ∧ ((r = 0 ∧ drX R p X s g = -2) ∨ (1 ≤ r ∧ ∃ q : Nat, drX R p X s g = q ∧ fxP R p X r q))), M) := by
  have hR := H.1.1
  have hs2 := st_lt hs
  have hlh := lh_r (p := p) (s := s) hR
  rw [f_X10_mayFall]
  simp (disch := omega) only [ck_ok, i3_tn, Int.toNat_natCast, d_lo H hs, g_v]
  rw [gl_ex (F := fun n g => f_X10_mayFall_7 n (i3 s) (i3 ((r + 1 : Nat) : Int)) (i3 g) M) (ok := fun g => (r = 0 ∧ drX R p X s g = -2) ∨ (1 ≤ r ∧ ∃ q : Nat, drX R p X s g = q ∧ fxP R p X r q)) (lo := loR R p s) (hi := hiR R p s) ?_ FU (loR R p s) (by omega) (by omega) (by rw [FU_s]; omega)]
  intro n g h1 h2
  have er : ((r + 1 : Nat) : Int) - 1 = r := by omega
  rw [f_X10_mayFall_7]
  rw [show i3 g + 1 = i3 (g + 1) from i3_add g 1]
  simp (disch := omega) only [ck_ok, i3_tn, Int.toNat_natCast, d_hi H hs, i3_lt, iL1, i3_sub, er, i3_eq]
  by_cases hx : hiR R p s < g
  · rw [if_pos hx, if_pos hx]
  · rw [if_neg hx, if_neg hx, d_driven H hX hr hs (by omega), g_b_some]
    have hdr := dr_q hR p X s g
    by_cases h0 : r = 0
    · rw [if_pos (by omega)]
      rcases hdr with hq | ⟨q, hq, hq2, hq3⟩
      · rw [hq, if_pos (show i3 (-2) = ((-2) : Int32) from rfl), if_pos (Or.inl ⟨h0, rfl⟩)]
      · rw [hq]
        simp (disch := omega) only [i3_m2, i3_eq]
        rw [if_neg (by omega), if_neg]
        rintro (h | h) <;> omega
    · rw [if_neg (by omega)]
      rcases hdr with hq | ⟨q, hq, hq2, hq3⟩
      · rw [hq, if_pos (show i3 (-2) = ((-2) : Int32) from rfl), if_neg]
        rintro (h | ⟨-, u, u1, -⟩) <;> omega
      · rw [hq]
        simp (disch := omega) only [i3_m2, i3_eq]
        rw [if_neg (by omega)]
        simp (disch := omega) only [ck_ok, i3_tn, Int.toNat_natCast]
        have e := hP q hq2 hq3 (by omega)
        by_cases g1 : M.1 57 q = i3 (r : Int)
        · rw [if_pos g1, if_pos (Or.inr ⟨by omega, q, rfl, e.1 g1⟩)]
        · rw [if_neg g1, if_neg]
          rintro (h | ⟨-, u, u1, u2⟩)
          · omega
          · have : u = q := by omega
            subst this
            exact g1 (e.2 u2)
/-- a fall in just r + 1 BEATS -/
theorem fx_s {R : tR} {p : Int} {X : Nat → Int} {r s : Nat} (hs : stP R s) (ho : ¬ ovP R s) (hn : ¬ fpX R p X r s) : fpX R p X (r + 1) s ↔ ∃ g : Int, loR R p s ≤ g ∧ g ≤ hiR R p s ∧ ((r = 0 ∧ drX R p X s g = -2) ∨ (1 ≤ r ∧ ∃ q : Nat, drX R p X s g = q ∧ fxP R p X r q)) := by
  constructor
  · rintro (h | ⟨-, -, g, g1, g2, g3⟩)
    · exact absurd h hn
    · refine ⟨g, g1, g2, ?_⟩
      rcases g3 with g3 | ⟨q, q1, q2⟩
      · refine Or.inl ⟨?_, g3⟩
        apply Classical.byContradiction
        intro h0
        exact hn (fp_le (by omega) (show fpX R p X 1 s from Or.inr ⟨hs, ho, g, g1, g2, Or.inl g3⟩))
      · have hr : 1 ≤ r := by
          cases r with
          | zero => exact q2.elim
          | succ r => omega
        refine Or.inr ⟨hr, q, q1, q2, fun h => hn ?_⟩
        obtain ⟨r, rfl⟩ : ∃ k, r = k + 1 := ⟨r - 1, by omega⟩
        exact Or.inr ⟨hs, ho, g, g1, g2, Or.inr ⟨q, q1, h⟩⟩
  · rintro ⟨g, g1, g2, (⟨-, g3⟩ | ⟨-, q, q1, q2⟩)⟩
    · exact Or.inr ⟨hs, ho, g, g1, g2, Or.inl g3⟩
    · exact Or.inr ⟨hs, ho, g, g1, g2, Or.inr ⟨q, q1, q2.1⟩⟩
/-- ahead of round r + 1: falls within r BEATS are known; and within it -/
def yB (R : tR) (p : Int) (X : Nat → Int) (r : Nat) (N : gM) (s : Nat) : Prop := (¬ fpX R p X r s ∧ N.1 57 s = i3 0) ∨ ∃ n : Nat, 1 ≤ n ∧ n ≤ r ∧ fxP R p X n s ∧ N.1 57 s = i3 n
def yS (R : tR) (p : Int) (X : Nat → Int) (r : Nat) (N : gM) (s : Nat) : Prop := (¬ fpX R p X r s ∧ N.1 57 s = i3 0) ∨ ∃ n : Nat, 1 ≤ n ∧ n ≤ r + 1 ∧ fxP R p X n s ∧ N.1 57 s = i3 n
theorem yS.fl {R : tR} {p : Int} {X : Nat → Int} {r s : Nat} {N : gM} (hr : r ≤ 5000) (h1 : 1 ≤ r) (h : yS R p X r N s) : N.1 57 s = i3 (r : Int) ↔ fxP R p X r s := by
  rcases h with ⟨g1, g2⟩ | ⟨n, g1, g2, g3, g4⟩
  · rw [g2, i3_eq (by omega) (by omega) (by omega) (by omega)]
    exact ⟨fun h => by omega, fun h => absurd h.1 g1⟩
  · rw [g4, i3_eq (by omega) (by omega) (by omega) (by omega)]
    constructor
    · intro h
      have : n = r := by omega
      subst this
      exact g3
    · intro h
      rcases Nat.lt_trichotomy n r with c | c | c
      · exact absurd (fp_le (by omega) g3.1) h.2
      · omega
      · exact absurd (fp_le (by omega) h.1) g3.2
def zB (R : tR) (p : Int) (X : Nat → Int) (r : Nat) (N : gM) (s : Nat) : Prop := (¬ apX R p X r s ∧ N.1 58 s = i3 (-2)) ∨ ∃ n : Nat, n ≤ r ∧ apX R p X n s ∧ (n = 0 ∨ ¬ apX R p X (n - 1) s) ∧ N.1 58 s = i3 n
def zS (R : tR) (p : Int) (X : Nat → Int) (r : Nat) (N : gM) (s : Nat) : Prop := (¬ apX R p X r s ∧ N.1 58 s = i3 (-2)) ∨ ∃ n : Nat, n ≤ r + 1 ∧ apX R p X n s ∧ (n = 0 ∨ ¬ apX R p X (n - 1) s) ∧ N.1 58 s = i3 n
theorem zS.fl {R : tR} {p : Int} {X : Nat → Int} {r s : Nat} {N : gM} (hr : r ≤ 5000) (h : zS R p X r N s) : (¬ N.1 58 s < 0 ∧ N.1 58 s < i3 ((r + 1 : Nat) : Int)) ↔ apX R p X r s := by
  rcases h with ⟨h1, h2⟩ | ⟨n, h2, h3, h4, h5⟩
  · rw [h2]
    exact ⟨fun h => absurd (by decide) h.1, fun h => absurd h h1⟩
  · rw [h5, iL0, i3_lt (by omega) (by omega) (by omega) (by omega), i3_lt (by omega) (by omega) (by omega) (by omega)]
    constructor
    · intro h
      exact ap_le (by omega) h3
    · intro h
      by_cases hn : n = r + 1
      · subst hn
        exact absurd h (h4.resolve_left (by omega))
      · omega
