/-! ===== the first ACT of a mask, draws ===== -/
theorem c_first {m : Int32} {P : Nat → Prop} (hm : ∀ b, b < 6 → bt m b = b_ (P b)) {M : gM} : f_X0_firstOf m M = some (i3 (leA P 6 (-2)), M) := by
  have key : ∀ (n a : Nat), a ≤ 6 → 6 < n + a → (∀ b, b < a → ¬ P b) → f_X0_firstOf_2 n m (i3 a) M = some (i3 (leA P 6 (-2)), M) := by
    intro n
    induction n with
    | zero => intro a h1 h2; omega
    | succ n ih =>
      intro a h1 h2 h3
      rw [f_X0_firstOf_2]
      simp (disch := omega) only [bt_i]
      by_cases h6 : a = 6
      · subst h6
        rw [leA_d h3]
        rfl
      · have e : ¬ ((6 : Int32) ≤ i3 a) := by
          rw [i3_lit, i3_le (by omega) (by omega) (by omega) (by omega)]
          omega
        have e7 : (((m >>> (i3 (a : Int) &&& 31)) &&& (1 : Int32)) = (1 : Int32)) = (bt m a = true) := bt_i (by omega)
        rw [if_neg e]
        by_cases hp : P a
        · rw [leA_e (by omega) hp h3, if_pos]
          rw [hm a (by omega), b_t hp]
        · rw [if_neg, i3_sn]
          · exact ih (a + 1) (by omega) (by omega) (fun b hb => by
              by_cases hba : b = a
              · subst hba; exact hp
              · exact h3 b (by omega))
          · rw [hm a (by omega), b_f hp]
            decide
  exact key FU 0 (by omega) (by rw [FU_s]; omega) (fun b hb => by omega)
theorem c_draws {R : tR} {p : Int} {t s : Nat} (hs : s < 2079) : ∀ (n j : Nat) (M : gM), BS R p t M → j ≤ rNr R → rNr R < n + j → At30 M s 0 0 p → (∀ b, b < 6 → bt (M.1 32 s) b = b_ (caP R p s b)) → M.1 35 s = i3 (dvR R p s j) →
    wp (f_X0_draw_67 n (i3 s) (i3 ((rNr R : Int) - 1 - j)) M) (fun r N => r = i3 (drR R p s) ∧ Fr [28, 29, 35] M N ∧ (∀ q, q ≠ s → N.1 35 q = M.1 35 q) ∧ N.1 35 s = i3 (drR R p s)) := by
  intro n
  induction n with
  | zero => intro k M _ h1 h2; omega
  | succ n ih =>
    intro j M hB hj hn hat hm h35
    obtain ⟨hR, hp, ht, ht2, ht3, hr⟩ := id hB
    have hna := hR.2.1
    rw [f_X0_draw_67, ht2]
    simp (disch := omega) only [i3_lit, i3_neg, i3_add, i3_sub, i3_mul, i3_lt, i3_le, i3_eq, or_ok ht]
    refine wp_if (fun hx => ?_) (fun hx => ?_)
    · have : j = rNr R := by omega
      subst this
      simp (disch := omega) only [ck_ok, wp_some, i3_tn, Int.toNat_natCast]
      refine ⟨h35, Fr.rf, ?_, h35⟩
      intros
      first | rfl | trivial
    · have hj2 : rNr R - 1 - j < rNr R := by omega
      have e1 : ((rNr R : Int) - 1 - j).toNat = rNr R - 1 - j := by omega
      have e2 : (rNr R : Int) - 1 - j + -1 = (rNr R : Int) - 1 - (j + 1 : Nat) := by omega
      obtain ⟨c1, c2⟩ := hr.2.2.2.1 _ hj2
      have hra := hR.2.2.2.2 _ hj2
      have hbt := bt_i (m := M.1 32 s) (a := rRa R (rNr R - 1 - j)) (by omega)
      rw [i3_lit 1, i3_lit 31] at hbt
      simp (disch := omega) only [ck_ok, wp_v, i3_tn, Int.toNat_natCast, e1, e2, c1, hbt]
      have skip : ¬ (caP R p s (rRa R (rNr R - 1 - j)) ∧ atS (rCR R (rNr R - 1 - j)) s 0 0 p = true) → ∀ M2, Fr [28, 29] M M2 → wp (f_X0_draw_67 n (i3 s) (i3 ((rNr R : Int) - 1 - (j + 1 : Nat))) M2) (fun r N => r = i3 (drR R p s) ∧ Fr [28, 29, 35] M N ∧ (∀ q, q ≠ s → N.1 35 q = M.1 35 q) ∧ N.1 35 s = i3 (drR R p s)) := by
        intro hno M2 f2
        refine wp_mono (ih (j + 1) M2 (hB.mv f2 (by decide)) (by omega) (by omega) (hat.mv f2 (by decide)) ?_ ?_) (fun r N hN => ?_)
        · rw [f2.e1 (by decide)]; exact hm
        · rw [f2.e1 (by decide), h35, dvR, if_neg hno]
        · obtain ⟨g0, f, g1, g2⟩ := hN
          exact ⟨g0, (f2.up (by decide)).tr f, fun q hq => by rw [g1 q hq, f2.e1 (by decide)], g2⟩
      refine wp_if (fun hx2 => ?_) (fun hx2 => ?_)
      · rw [hm _ (by omega), b_i] at hx2
        refine wp_b _ (c_cond c2 rfl hat) (fun r M2 hq => ?_)
        obtain ⟨hq1, f2⟩ := hq
        refine wp_if (fun hx4 => ?_) (fun hx4 => ?_)
        · have hyes : caP R p s (rRa R (rNr R - 1 - j)) ∧ atS (rCR R (rNr R - 1 - j)) s 0 0 p = true := ⟨hx2, by rw [← hq1]; exact hx4⟩
          rw [wp_m]
          have f3 : Fr [28, 29, 35] M (sI M2 35 s (i3 (rRa R (rNr R - 1 - j)))) := (f2.up (by decide)).i (by decide)
          refine wp_mono (ih (j + 1) _ (hB.mv f3 (by decide)) (by omega) (by omega) (hat.mv f3 (by decide)) ?_ ?_) (fun r N hN => ?_)
          · rw [f3.e1 (by decide)]; exact hm
          · rw [rI_e, up_e, dvR, if_pos hyes]
          · obtain ⟨g0, f, g1, g2⟩ := hN
            exact ⟨g0, f3.tr f, fun q hq => by rw [g1 q hq, rI_e, up_n hq, f2.e1 (by decide)], g2⟩
        · exact skip (fun h => hx4 (by rw [hq1]; exact h.2)) M2 f2
      · rw [hm _ (by omega), b_i] at hx2
        exact skip (fun h => hx2 h.1) M Fr.rf
theorem dv_ne {R : tR} {p : Int} {s : Nat} : ∀ j, -2 ≤ dvR R p s j := by
  intro j
  induction j with
  | zero =>
    rw [dvR]
    rcases leA_x (P := caP R p s) (n := 6) (-2) with ⟨a, -, -, -, h⟩ | ⟨-, h⟩ <;> omega
  | succ j ih =>
    rw [dvR]
    split <;> omega
theorem dv_lt {R : tR} {p : Int} {s : Nat} (hR : tOk R) : ∀ j, j ≤ rNr R → dvR R p s j < 6 := by
  intro j
  induction j with
  | zero =>
    intro _
    rw [dvR]
    rcases leA_x (P := caP R p s) (n := 6) (-2) with ⟨a, _, -, -, h⟩ | ⟨-, h⟩ <;> omega
  | succ j ih =>
    intro hj
    rw [dvR]
    have := hR.2.2.2.2 (rNr R - 1 - j) (by omega)
    have := hR.2.1
    have := ih (by omega)
    split <;> omega
theorem c_draw {R : tR} {p : Int} {t st s : Nat} (hs : s < 2079) {M : gM} (h : CB R p t st M) : wp (f_X0_draw (i3 s) M) (fun r N => r = i3 (drR R p s) ∧ CB R p t st N ∧ Fr cBt M N) := by
  rw [f_X0_draw]
  simp (disch := omega) only [i3_lit, i3_neg, i3_add, i3_sub, i3_mul, i3_lt, i3_le, i3_eq]
  rw [if_neg (by omega), if_pos (by omega)]
  refine wp_b _ (c_survey hs h) (fun _ N hN => ?_)
  obtain ⟨h1, h2, h3, h4⟩ := hN
  obtain ⟨hB, hst, k3, k4, k5⟩ := id h1
  obtain ⟨hR, hp, ht, ht2, ht3, hr⟩ := id hB
  have hna := hR.2.1
  simp (disch := omega) only [ck_ok, i3_tn, Int.toNat_natCast, c_first h4.1, wp_some, wp_m, wp_v, g_b_some]
  have hdr : -2 ≤ drR R p s := dv_ne _
  have hdr2 : drR R p s < 6 := dv_lt hR _ (Nat.le_refl _)
  refine wp_if (fun hx => ?_) (fun hx => ?_)
  · have f1 : Fr [35] N (sI N 35 s (i3 (leA (caP R p s) 6 (-2)))) := Fr.rf.i (by decide)
    have e35 : (sI N 35 s (i3 (leA (caP R p s) 6 (-2)))).1 35 = upd (N.1 35) s (i3 (leA (caP R p s) 6 (-2))) := rI_e
    have hB1 := hB.mv f1 (by decide)
    generalize sI N 35 s (i3 (leA (caP R p s) 6 (-2))) = M1 at f1 hB1 e35 ⊢
    rw [wp_m, hB1.2.2.2.2.1]
    refine wp_b _ (c_stand hs) (fun _ M2 hq => ?_)
    obtain ⟨f2, hat⟩ := hq
    have hB2 := hB1.mv f2 (by decide)
    rw [hB2.2.2.2.1, or_ok ht, hB2.2.2.2.2.2.1.2.2.2.2.2, i3_sub, wp_v]
    have := c_draws (R := R) (p := p) (t := t) hs FU 0 M2 hB2 (by omega) (by rw [FU_s]; omega) hat (by rw [f2.e1 (by decide), f1.e1 (by decide)]; exact h4.1) (by rw [f2.e1 (by decide), e35, up_e]; rfl)
    have e0 : (rNr R : Int) - 1 - ((0 : Nat) : Int) = rNr R - 1 := by omega
    rw [e0] at this
    refine wp_mono this (fun r N2 hN => ?_)
    obtain ⟨g0, f3, g1, g2⟩ := hN
    have f4 : Fr [28, 29, 30, 35] N N2 := ((f1.up (by decide)).tr (f2.up (by decide))).tr (f3.up (by decide))
    have j35 : ∀ q, q ≠ s → N2.1 35 q = N.1 35 q := fun q hq => by rw [g1 q hq, f2.e1 (by decide), e35, up_n hq]
    refine ⟨g0, ⟨hB.mv f4 (by decide), hst, by rw [f4.e1 (by decide), k3], fun q hq => ?_, fun i hi => ?_⟩, h2.tr (f4.up (by decide))⟩
    · obtain ⟨e, q1, q2, q3⟩ := k4 q hq
      refine ⟨e, q1, by rw [f4.e1 (by decide), q2], fun he => ?_⟩
      have := q3 he
      unfold sG
      rw [f4.e1 (by decide), f4.e1 (by decide), f4.e1 (by decide)]
      refine ⟨this.1, this.2.1, this.2.2.1, ?_⟩
      by_cases hqs : q = s
      · subst hqs
        exact Or.inr g2
      · rw [j35 q hqs]
        exact this.2.2.2
    · rw [f4.e2 (by decide)]
      exact k5 i hi
  · rw [wp_some]
    refine ⟨?_, h1, h2⟩
    rcases h4.2.2.2 with g | g
    · exact absurd g hx
    · exact g
theorem iL2 : (2 : Int32) = i3 2 := rfl
theorem iL3 : (3 : Int32) = i3 3 := rfl
theorem iL4 : (4 : Int32) = i3 4 := rfl
/-! ===== where a BEAT leads ===== -/
theorem c_result {M : gM} : f_X2_result M = some (M.1 29 0, M) := by
  rw [f_X2_result, i3_lit, ck_ok (by omega) (by decide) (by decide)]
  rfl
theorem c_land {R : tR} {p : Int} {t s a : Nat} (hs : s < 2079) (ha : a < rNa R) {sw le : Int32} {M : gM} (hB : BS R p t M) : f_X0_leap_208 (i3 s) (i3 a) sw le M = some (i3 (tgR R s a sw le), M) := by
  obtain ⟨hR, hp, ht, ht2, ht3, hr⟩ := id hB
  have hna := hR.2.1
  obtain ⟨zs, s1, s2, rfl⟩ := i3_ex sw
  obtain ⟨zl, l1, l2, rfl⟩ := i3_ex le
  have hg := gx s hs
  have hst := hR.2.2.1 a ha
  have ⟨⟨q1, q2, q3, q4, q5, q6⟩, _⟩ := hR
  obtain ⟨c1, c2, c3⟩ := hr.2.1 a ha
  rw [f_X0_leap_208, c_at (by omega), g_b_some, ht2]
  simp (disch := omega) only [or_ok ht, ck_ok, i3_tn, Int.toNat_natCast, c2, g_v, i3_lit, i3_neg, i3_add, i3_sub, i3_mul, i3_lt, i3_le, i3_eq]
  have key : ∀ b : Int, 0 ≤ b → b ≤ 9 → b = max 0 (gAt s + rSt R a) → (g_b (f_X4_number t (i3 b) (i3 zl) (i3 zs) M) (fun r27 M26 => (if r27 = i3 (-1) then (some (i3 (-2), M26)) else (some (r27, M26))))) = some (i3 (tgR R s a (i3 zs) (i3 zl)), M) := by
    intro b hb1 hb2 hb3
    rw [c_number hR hr (by omega) (by omega) (by omega), g_b_some]
    unfold tgR
    rw [← hb3, i3_toInt s1 s2, i3_toInt l1 l2]
    by_cases hi : inR R b zl zs
    · obtain ⟨n1, n2, -⟩ := ng hR hi
      rw [if_pos hi, if_pos hi, if_neg]
      rw [i3_eq (by omega) (by omega) (by omega) (by omega)]
      omega
    · rw [if_neg hi, if_neg hi, if_pos rfl]
  split
  · next hx => exact key _ hx (by omega) (by omega)
  · next hx => exact key 0 (by omega) (by omega) (by omega)
theorem c_leap {R : tR} {p : Int} {t s a : Nat} {g : Int} (hs : s < 2079) (ha : a < rNa R) (hg : -12 ≤ g ∧ g ≤ 12) {M : gM} (hB : BS R p t M) : wp (f_X0_leap (i3 s) (i3 a) (i3 g) M) (fun r N => r = i3 (nxR R p s a g) ∧ Fr [28, 29, 30] M N) := by
  obtain ⟨hR, hp, ht, ht2, ht3, hr⟩ := id hB
  have hna := hR.2.1
  have hgx := gx s hs
  rw [f_X0_leap, ht2, or_ok ht, c_hasAct hR hr (by omega), g_b_some, b_t (by omega), if_pos rfl, ht3]
  refine wp_b _ (c_stand hs) (fun _ M1 hq => ?_)
  obtain ⟨f1, hat⟩ := hq
  have hB1 := hB.mv f1 (by decide)
  obtain ⟨-, -, -, et2, et3, hr1⟩ := id hB1
  obtain ⟨c1, c2, c3⟩ := hr1.2.1 a ha
  rw [et2]
  simp (disch := omega) only [iL3, iL4, or_ok ht, ck_ok, i3_tn, Int.toNat_natCast, c1, wp_m]
  have f2 : Fr [30] M1 (sI (sI M1 30 (3 : Int).toNat (i3 (rPu R a))) 30 (4 : Int).toNat (i3 g)) := (Fr.rf.i (by decide)).i (by decide)
  have hat2 : At30 (sI (sI M1 30 (3 : Int).toNat (i3 (rPu R a))) 30 (4 : Int).toNat (i3 g)) s (rPu R a) g p := by
    obtain ⟨a0, a1, a2, a3, a4, a5⟩ := hat
    unfold At30
    simp only [rI_e, up_x]
    simp [a0, a1, a2, a5]
  have hB2 := hB1.mv f2 (by decide)
  generalize sI (sI M1 30 (3 : Int).toNat (i3 (rPu R a))) 30 (4 : Int).toNat (i3 g) = M2 at f2 hat2 hB2 ⊢
  obtain ⟨-, -, -, eu2, eu3, hr2⟩ := id hB2
  obtain ⟨d1, d2, d3⟩ := hr2.2.1 a ha
  rw [c_sw (by omega), g_b_some, c_le (by omega), g_b_some, eu2, eu3]
  simp (disch := omega) only [or_ok ht, ck_ok, i3_tn, Int.toNat_natCast, d1, wp_v]
  have f12 : Fr [28, 29, 30] M M2 := (f1.up (by decide)).tr (f2.up (by decide))
  obtain ⟨u0, u1, u2, u3, u4, u5⟩ := id hat2
  -- behind the swing
  have lean : ∀ (sw : Int32) (M3 : gM), Fr [28, 29, 30] M M3 → At30 M3 s (rPu R a) g p → atS (rSw R) s (rPu R a) g p = some sw → wp (f_X0_leap_138 (i3 s) (i3 a) sw M3) (fun r N => r = i3 (nxR R p s a g) ∧ Fr [28, 29, 30] M N) := by
    intro sw M3 f3 hat3 hsw
    have hnx : nxR R p s a g = match rLe R (i3 (gAt s)) (i3 (gLe s)) sw (i3 (rPu R a)) (i3 g) (i3 p) with
      | none => -2
      | some le => tgR R s a sw le := by
      unfold nxR
      rw [hsw]
      all_goals rfl
    rw [f_X0_leap_138]
    simp (disch := omega) only [iL2, ck_ok, i3_tn, wp_m]
    have f4 : Fr [30] M3 (sI M3 30 (2 : Int).toNat sw) := Fr.rf.i (by decide)
    have hat4 : (sI M3 30 (2 : Int).toNat sw).1 30 0 = i3 (gAt s) ∧ (sI M3 30 (2 : Int).toNat sw).1 30 1 = i3 (gLe s) ∧ (sI M3 30 (2 : Int).toNat sw).1 30 2 = sw ∧ (sI M3 30 (2 : Int).toNat sw).1 30 3 = i3 (rPu R a) ∧ (sI M3 30 (2 : Int).toNat sw).1 30 4 = i3 g ∧ (sI M3 30 (2 : Int).toNat sw).1 30 5 = i3 p := by
      obtain ⟨a0, a1, a2, a3, a4, a5⟩ := hat3
      simp only [rI_e, up_x]
      simp [a0, a1, a3, a4, a5]
    generalize sI M3 30 (2 : Int).toNat sw = M4 at f4 hat4 ⊢
    have f5 : Fr [28, 29, 30] M M4 := f3.tr (f4.up (by decide))
    have hB4 := hB.mv f5 (by decide)
    obtain ⟨-, -, -, ev2, ev3, hr4⟩ := id hB4
    rw [c_le (by omega), g_b_some, wp_v, ev2, or_ok ht]
    rcases hr4.2.2.2.2.2 with ⟨l1, l2⟩ | ⟨l1, l2⟩
    · rw [l1, if_pos rfl, c_land hs ha hB4, wp_some]
      refine ⟨?_, f5⟩
      rw [hnx, l2]
      rfl
    · rw [if_neg l1, or_ok ht, or_ok ht]
      refine wp_b _ (l2 M4 rfl) (fun _ M5 hq => ?_)
      obtain ⟨f6, hq⟩ := hq
      obtain ⟨v0, v1, v2, v3, v4, v5⟩ := hat4
      rw [v0, v1, v2, v3, v4, v5] at hq
      rw [c_result, g_b_some]
      have f7 := f5.tr (f6.up (by decide) : Fr [28, 29, 30] M4 M5)
      cases hle : rLe R (i3 (gAt s)) (i3 (gLe s)) sw (i3 (rPu R a)) (i3 g) (i3 p) with
      | none =>
        rw [hle] at hq hnx
        simp only at hq hnx
        rw [hq, if_neg (by decide), wp_some, hnx]
        exact ⟨rfl, f7⟩
      | some le =>
        rw [hle] at hq hnx
        simp only at hq hnx
        rw [hq.1, if_pos rfl, hq.2, c_land hs ha (hB.mv f7 (by decide)), wp_some, hnx]
        exact ⟨rfl, f7⟩
  rcases hr2.2.2.2.2.1 with ⟨l1, l2⟩ | ⟨l1, l2⟩
  · rw [l1, if_pos rfl]
    refine lean _ M2 f12 hat2 ?_
    unfold atS
    rw [l2]
    rfl
  · rw [if_neg l1]
    refine wp_b _ (l2 M2 rfl) (fun _ M5 hq => ?_)
    obtain ⟨f6, hq⟩ := hq
    rw [u0, u1, u2, u3, u4, u5] at hq
    rw [c_result, g_b_some]
    have f7 := f12.tr (f6.up (by decide) : Fr [28, 29, 30] M2 M5)
    cases hsw : atS (rSw R) s (rPu R a) g p with
    | none =>
      unfold atS at hsw
      rw [hsw] at hq
      simp only at hq
      rw [hq, if_neg (by decide), wp_some]
      refine ⟨?_, f7⟩
      unfold nxR atS
      rw [hsw]
      rfl
    | some sw =>
      have hsw2 := hsw
      unfold atS at hsw2
      rw [hsw2] at hq
      simp only at hq
      rw [hq.1, if_pos rfl, hq.2]
      exact lean _ M5 f7 (hat2.mv f6 (by decide)) hsw

theorem s_shr2 {n : Nat} (h : n < 2 ^ 31) : i3 (n : Int) >>> ((2 : Int32) &&& 31) = i3 ((n / 4 : Nat) : Int) := by
  have := pk_shrN h ((2 : Int32) &&& 31) 2 (by decide)
  exact this
theorem s_and3 {n : Nat} (h : n < 2 ^ 32) : i3 (n : Int) &&& (3 : Int32) = i3 ((n % 4 : Nat) : Int) := pk_andN h (m := 3) 2 (by decide)
theorem cE_zero_or {x e : Nat} (h : x = 0) : x ||| e = e := by rw [h, Nat.zero_or]
/-- the entry of a group, read or reckoned -/
theorem c_entry {R : tR} {p : Int} {t st s a i j : Nat} {g : Int} (hs : s < 2079) (ha : a < rNa R) (hg : -12 ≤ g ∧ g ≤ 12) (hi : i < 87318) (hi7 : i / 7 = s * 6 + a) (hj : j < 4) (hij : (4 * (i % 7 : Nat) + j - 12 : Int) = g) {M : gM} (h : CB R p t st M) {G : Nat} (hG : G < 2 ^ 64) (hGs : G / 2 ^ 48 = st) (hGe : ∀ s a j : Nat, s < 2079 → a < rNa R → j < 4 → i / 7 = s * 6 + a → cE G j = 0 ∨ (cE G j : Int) = nxR R p s a (4 * (i % 7 : Nat) + j - 12) + 3) :
    wp (f_X0_after_81 (i3 s) (i3 a) (i3 g) (i3 i) (i3 ((12 * j : Nat) : Int)) (lN G) M) (fun r N => r = i3 (nxR R p s a g) ∧ CB R p t st N ∧ Fr cBt M N) := by
  obtain ⟨hB, hst, k3, k4, k5⟩ := id h
  have hR := hB.1
  have hnr : -2 ≤ nxR R p s a g ∧ nxR R p s a g < 2079 := by
    rcases nx_r hR p s a g with h | h
    · omega
    · exact ⟨by have := h.1; omega, h.2.1⟩
  have fin : ∀ (e : Nat) (N : gM), (e : Int) = nxR R p s a g + 3 → f_X0_after_125 (i3 e) N = some (i3 (nxR R p s a g), N) := by
    intro e N he
    rw [f_X0_after_125]
    simp (disch := omega) only [i3_lit, i3_neg, i3_add, i3_sub, i3_mul, i3_lt, i3_le, i3_eq]
    rw [if_neg (by omega), he]
    congr 3
    omega
  rw [f_X0_after_81, cE_read hG hj, wp_v]
  have hlt := cE_lt G j
  refine wp_if (fun hx => ?_) (fun hx => ?_)
  · rw [i3_lit, i3_eq (by omega) (by omega) (by omega) (by omega)] at hx
    have hx0 : cE G j = 0 := by omega
    refine wp_b _ (c_leap hs ha hg hB) (fun r N hN => ?_)
    obtain ⟨rfl, f⟩ := hN
    obtain ⟨e, he⟩ : ∃ e : Nat, (e : Int) = nxR R p s a g + 3 := ⟨(nxR R p s a g + 3).toNat, by omega⟩
    have e1 : i3 (nxR R p s a g) + 3 = i3 e := by rw [i3_lit, i3_add, he]
    have he2 : e < 4096 := by omega
    rw [wp_v, e1, ck_ok (by omega) (by omega) (by omega), wp_m, cE_write hG he2 hj, fin e _ he, wp_some, i3_tn (by omega) (by omega), Int.toNat_natCast]
    have f2 : Fr [28, 29, 30, 36] M (sL N 36 i (lN (G ||| e * 2 ^ (12 * j)))) := (f.up (by decide)).l (by decide)
    have hG2 := cE_wlt hG he2 hj
    have j36 : (sL N 36 i (lN (G ||| e * 2 ^ (12 * j)))).2.1 36 = vp_updL (M.2.1 36) i (lN (G ||| e * 2 ^ (12 * j))) := by rw [rL_e, f.e2 (by decide)]
    generalize sL N 36 i (lN (G ||| e * 2 ^ (12 * j))) = N2 at f2 j36 ⊢
    refine ⟨rfl, ⟨hB.mv f2 (by decide), hst, by rw [f2.e1 (by decide), k3], fun q hq => ?_, fun q hq => ?_⟩, f2.up (by decide)⟩
    · obtain ⟨e, q1, q2, q3⟩ := k4 q hq
      refine ⟨e, q1, by rw [f2.e1 (by decide), q2], fun he => ?_⟩
      have := q3 he
      unfold sG
      rw [f2.e1 (by decide), f2.e1 (by decide), f2.e1 (by decide), f2.e1 (by decide)]
      exact this
    · rw [j36]
      by_cases hqi : q = i
      · subst hqi
        rw [uL_e]
        refine ⟨_, hG2, rfl, by rw [cE_top he2 hj, hGs]; exact Nat.le_refl _, fun _ s2 a2 j2 b1 b2 b3 b4 => ?_⟩
        have hsa : s2 = s ∧ a2 = a := by
          have := hR.2.1
          omega
        rw [cE_or he2]
        by_cases hjj : j2 = j
        · subst hjj
          rw [if_pos rfl, hx0, Nat.zero_or, hsa.1, hsa.2, hij]
          exact Or.inr he
        · rw [if_neg hjj, Nat.or_zero]
          exact hGe s2 a2 j2 b1 b2 b3 b4
      · rw [uL_n hqi]
        exact k5 q hq
  · rw [i3_lit, i3_eq (by omega) (by omega) (by omega) (by omega)] at hx
    rcases hGe s a j hs ha hj hi7 with g0 | g0
    · omega
    · rw [hij] at g0
      rw [fin _ _ g0, wp_some]
      exact ⟨rfl, h, Fr.rf⟩
theorem c_after {R : tR} {p : Int} {t st s a : Nat} {g : Int} (hs : s < 2079) (ha : a < rNa R) (hg : -12 ≤ g ∧ g ≤ 12) {M : gM} (h : CB R p t st M) : wp (f_X0_after (i3 s) (i3 a) (i3 g) M) (fun r N => r = i3 (nxR R p s a g) ∧ CB R p t st N ∧ Fr cBt M N) := by
  obtain ⟨hB, hst, k3, k4, k5⟩ := id h
  have hR := hB.1
  have hna := hR.2.1
  obtain ⟨sl, hsl⟩ : ∃ sl : Nat, (sl : Int) = g + 12 := ⟨(g + 12).toNat, by omega⟩
  have e1 : i3 g + 12 = i3 sl := by rw [i3_lit, i3_add, hsl]
  rw [f_X0_after, e1, wp_v, s_shr2 (by omega), s_and3 (by omega), wp_v]
  have e2 : (i3 (s : Int) * 6 + i3 (a : Int)) * 7 + i3 ((sl / 4 : Nat) : Int) = i3 (((s * 6 + a) * 7 + sl / 4 : Nat) : Int) := by
    simp only [i3_lit, i3_neg, i3_add, i3_sub, i3_mul]
    congr 1
  have e3 : i3 ((sl % 4 : Nat) : Int) * 12 = i3 ((12 * (sl % 4) : Nat) : Int) := by
    simp only [i3_lit, i3_neg, i3_add, i3_sub, i3_mul]
    congr 1
    omega
  rw [e2, e3]
  have hi : (s * 6 + a) * 7 + sl / 4 < 87318 := by omega
  have hi7 : ((s * 6 + a) * 7 + sl / 4) / 7 = s * 6 + a := by omega
  have hij : (4 * (((s * 6 + a) * 7 + sl / 4) % 7 : Nat) + (sl % 4 : Nat) - 12 : Int) = g := by omega
  have hj : sl % 4 < 4 := by omega
  generalize (s * 6 + a) * 7 + sl / 4 = i at hi hi7 hij ⊢
  generalize sl % 4 = j at hij hj ⊢
  have n1 : ¬ (i3 (i : Int) < 0) := by
    rw [i3_lit, i3_lt (by omega) (by omega) (by omega) (by omega)]
    omega
  have n2 : i3 (i : Int) < 87318 := by
    rw [i3_lit, i3_lt (by omega) (by omega) (by omega) (by omega)]
    omega
  rw [if_neg n1, if_pos n2, wp_v, ck_ok (by omega) (by omega) (by omega), wp_v, i3_tn (by omega) (by omega), Int.toNat_natCast]
  obtain ⟨G, g1, g2, g3, g4⟩ := k5 i hi
  rw [g2, cE_stamp g1, k3]
  refine wp_if (fun hx => ?_) (fun hx => ?_)
  · have hx2 : G / 2 ^ 48 = st := by
      rw [i3_eq (by omega) (by omega) (by omega) (by omega)] at hx
      omega
    exact c_entry hs ha hg hi hi7 hj hij h g1 hx2 (g4 hx2)
  · rw [wp_v, cE_new hst.2]
    refine c_entry hs ha hg hi hi7 hj hij h ?_ ?_ ?_
    · have : st * 2 ^ 48 < 65536 * 2 ^ 48 := Nat.mul_lt_mul_of_pos_right hst.2 (by decide)
      exact Nat.lt_of_lt_of_le this (by decide)
    · exact Nat.mul_div_cancel _ (by decide)
    · intro _ _ j2 _ _ hj2 _
      exact Or.inl (cE_fresh hj2)
