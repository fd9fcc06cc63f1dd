/-! ===== the reference's calls, on ===== -/
section
variable {S : eT'} {h : Nat} {M N : gM}
theorem R_borne (H : DI S h M) {z : Int} (hz : -2147483648 ≤ z ∧ z < 2147483648) : wp (f_X10_borne (i3 z) M) (fun r N => r = i3 (aSt S z (boR (eR S) (eP S))) ∧ DI S h N) := by
  rw [f_X10_borne, H.st hz, g_b_some, b_if]
  refine wp_if (fun hx => ?_) (fun hx => ?_)
  · obtain ⟨s, e, hs⟩ := st_n hx
    rw [aSt_t hx e]
    subst e
    refine wp_b _ H.lay (fun _ N hN => ?_)
    obtain ⟨hN, g1, g2, g3⟩ := hN
    obtain ⟨⟨a1, a2⟩, ⟨b1, b2, b3⟩, c, ⟨d1, d2⟩, e, w⟩ := id hN
    refine wp_if (fun h0 => ?_) (fun h0 => ?_)
    · rw [wp_m, show (0 : Int32) = i3 ((0 : Nat) : Int) from rfl]
      have f0 : Fo [] [74] N (sI N 0 74 1) := Fo.rf.o (by decide)
      refine wp_mono (d_bornes hs (g1.mv f0 (by decide) (by decide))) (fun r N2 hN2 => ?_)
      obtain ⟨rfl, f1, u⟩ := hN2
      have f : Fo [53, 55] [74] N N2 := (f0.up (by decide) (by decide)).tr (f1.up (by decide) (by decide))
      have e74 : N2.1 0 74 = 1 := by rw [f1.e0 (by decide), rI_e, up_e]
      have g1' := g1.mv f (by decide) (by decide)
      have g2' : gOk (eR S) (eP S) N2 := by
        unfold gOk
        rw [f.e1 (by decide) (by decide)]
        exact g2
      have g3' : N2.1 0 72 = 1 := by rw [f.e0 (by decide), g3]
      refine ⟨rfl, ⟨a1, g1'.1⟩, ⟨Or.inr ⟨g3', g1'.2, g2'⟩, ?_, fun _ => Or.inr ⟨e74, u⟩⟩, h3_f c f (by decide) (by decide), h4_f ⟨d1, d2⟩ f (by decide) (by decide), e.mv f (by decide) (by decide), h6_f w f (by decide) (by decide)⟩
      unfold uJ uOk
      rw [f.e0 (by decide), f.e0 (by decide), f.e1 (by decide) (by decide)]
      exact b2
    · rcases b3 g3 with e0 | ⟨-, u⟩
      · exact absurd e0 h0
      · rw [ck_ok (by omega) (by omega) (by omega), tn_n (by omega), wp_some, u s hs]
        exact ⟨rfl, hN⟩
  · rw [wp_some, aSt_f hx]
    exact ⟨rfl, H⟩
theorem R_poles (H : DI S h M) {z : Int} (hz : -2147483648 ≤ z ∧ z < 2147483648) : wp (f_X10_poles (i3 z) M) (fun r N => r = i3 (aSt S z (poR (eR S))) ∧ DI S h N) := by
  rw [f_X10_poles, H.st hz, g_b_some, b_if]
  refine wp_if (fun hx => ?_) (fun hx => ?_)
  · obtain ⟨s, e, hs⟩ := st_n hx
    rw [aSt_t hx e]
    subst e
    obtain ⟨⟨a1, a2⟩, ⟨b1, b2, b3⟩, c, ⟨d1, d2⟩, e, w⟩ := id H
    refine wp_if (fun h0 => ?_) (fun h0 => ?_)
    · have f0 : Fo [] [73] M (sI M 0 73 1) := Fo.rf.o (by decide)
      rw [wp_m, wp_v, show (0 : Int32) = i3 ((0 : Nat) : Int) from rfl, f0.e0 (by decide), a2.2.2.2.2.1]
      refine wp_mono (d_poles hs (a2.mv f0 (by decide) (by decide))) (fun r N2 hN2 => ?_)
      obtain ⟨rfl, f1, g3, u⟩ := hN2
      have f : Fo (cTb ++ [54, 55]) (jV ++ [72, 73]) M N2 := (f0.up (by decide) (by decide)).tr (f1.up (by decide) (by decide))
      have e73 : N2.1 0 73 = 1 := by rw [f1.e0 (by decide), rI_e, up_e]
      have n1 : ¬ N2.1 0 72 = 1 := by rw [g3]; decide
      exact ⟨rfl, ⟨a1, a2.mv f (by decide) (by decide)⟩, ⟨Or.inl g3, fun g => absurd g n1, fun g => absurd g n1⟩, Or.inr ⟨e73, u⟩, ⟨d1.mv f (by decide) (by decide) (by decide), fun g => absurd g n1⟩, e.mv f (by decide) (by decide), h6_f w f (by decide) (by decide)⟩
    · rcases c with e0 | ⟨-, u⟩
      · exact absurd e0 h0
      · rw [ck_ok (by omega) (by omega) (by omega), tn_n (by omega), wp_some, u s hs]
        exact ⟨rfl, H⟩
  · rw [wp_some, aSt_f hx]
    exact ⟨rfl, H⟩
theorem R_known (H : DI S h M) {z : Int} (hz : -2147483648 ≤ z ∧ z < 2147483648) : wp (f_X10_known (i3 z) M) (fun r N => r = i3 (aSt S z (keE (eR S) (eP S) (eFc S) (eF S))) ∧ DI S h N) := by
  rw [f_X10_known, H.st hz, g_b_some, b_if]
  refine wp_if (fun hx => ?_) (fun hx => ?_)
  · obtain ⟨s, e, hs⟩ := st_n hx
    rw [aSt_t hx e]
    subst e
    refine wp_b (fun r N => r = i3 (keE (eR S) (eP S) (eFc S) (eF S) s) ∧ DI S h N) ?_ (fun r N hN => by rw [wp_some]; exact hN)
    rw [f_X10_knownOf]
    refine wp_b _ H.lay (fun _ N hN => ?_)
    rw [show (0 : Int32) = i3 ((0 : Nat) : Int) from rfl]
    refine wp_mono (d_known hN.2.1 hN.1.2.2.2.2.1 hx) (fun r N2 hN2 => ?_)
    exact ⟨hN2.1, hN.1.kp hN2.2.1 (by decide) (by decide)⟩
  · rw [wp_some, aSt_f hx]
    exact ⟨rfl, H⟩
theorem R_knownAct (H : DI S h M) {z i : Int} (hz : -2147483648 ≤ z ∧ z < 2147483648) (hi : -2147483648 ≤ i ∧ i < 2147483648) : wp (f_X10_knownAct (i3 z) (i3 i) M) (fun r N => r = i3 (aSt S z (fun s => knA (eR S) (eP S) (eFc S) (eF S) s i)) ∧ DI S h N) := by
  rw [f_X10_knownAct, H.st hz, g_b_some, b_if]
  refine wp_if (fun hx => ?_) (fun hx => ?_)
  · obtain ⟨s, e, hs⟩ := st_n hx
    rw [aSt_t hx e]
    subst e
    refine wp_b (fun r N => (r = i3 (keE (eR S) (eP S) (eFc S) (eF S) s) ∧ ∀ e : Nat, keE (eR S) (eP S) (eFc S) (eF S) s = e → duI (eR S) (eP S) (eFc S) s e 0 N) ∧ DI S h N ∧ D2 (eR S) (eP S) h N) ?_ (fun r N hN => ?_)
    · rw [f_X10_knownOf]
      refine wp_b _ H.lay (fun _ N hN => ?_)
      rw [show (0 : Int32) = i3 ((0 : Nat) : Int) from rfl]
      refine wp_mono (d_known hN.2.1 hN.1.2.2.2.2.1 hx) (fun r N2 hN2 => ?_)
      exact ⟨⟨hN2.1, hN2.2.2⟩, hN.1.kp hN2.2.1 (by decide) (by decide), hN.2.1.mv hN2.2.1 (by decide) (by decide)⟩
    · obtain ⟨⟨rfl, u⟩, hN, hD⟩ := hN
      refine wp_mono (d_kAct hD hN.2.2.2.2.1 hx hi u) (fun r N2 hN2 => ?_)
      obtain ⟨rfl, rfl⟩ := hN2
      exact ⟨rfl, hN⟩
  · rw [wp_some, aSt_f hx]
    exact ⟨rfl, H⟩
theorem R_blind (H : DI S h M) {z n : Int} (hz : -2147483648 ≤ z ∧ z < 2147483648) (hn : -2147483648 ≤ n ∧ n < 2147483648) : wp (f_X10_blind (i3 z) (i3 n) M) (fun r N => r = i3 (aBl S z n) ∧ DI S h N) := by
  rw [f_X10_blind, H.st hz, g_b_some, b_if]
  unfold aBl
  refine wp_if (fun hx => ?_) (fun hx => ?_)
  · obtain ⟨s, e, hs⟩ := st_n hx
    subst e
    simp (disch := omega) only [iL1, show (4 : Int32) = i3 4 from rfl, i3_lt, i3_le]
    refine wp_if (fun h1 => ?_) (fun h1 => ?_)
    · rw [wp_some, if_neg (fun g => absurd g.2.1 (by omega))]
      exact ⟨rfl, H⟩
    refine wp_if (fun h2 => ?_) (fun h2 => ?_)
    · rw [if_pos ⟨hx, by omega, by omega⟩, Int.toNat_natCast]
      obtain ⟨b, rfl⟩ : ∃ b : Nat, n = b := ⟨n.toNat, by omega⟩
      rw [Int.toNat_natCast]
      refine wp_b _ H.lay (fun _ N hN => ?_)
      rw [d_rowsOf (by omega) hN.1.1.2, g_b_some, show (0 : Int32) = i3 ((0 : Nat) : Int) from rfl]
      refine wp_mono (d_blind (by omega) (by omega) hN.2.1 hx) (fun r N2 hN2 => ?_)
      exact ⟨hN2.1, hN.1.kp hN2.2 (by decide) (by decide)⟩
    · rw [wp_some, if_neg (fun g => absurd g.2.2 h2)]
      exact ⟨rfl, H⟩
  · rw [wp_some, if_neg (fun g => hx g.1)]
    exact ⟨rfl, H⟩
theorem R_blindAct (H : DI S h M) {z n i : Int} (hz : -2147483648 ≤ z ∧ z < 2147483648) (hn : -2147483648 ≤ n ∧ n < 2147483648) (hi : -2147483648 ≤ i ∧ i < 2147483648) : wp (f_X10_blindAct (i3 z) (i3 n) (i3 i) M) (fun r N => r = i3 (aBla S z n i) ∧ DI S h N) := by
  rw [f_X10_blindAct, H.st hz, g_b_some, b_if]
  unfold aBla
  refine wp_if (fun hx => ?_) (fun hx => ?_)
  · obtain ⟨s, e, hs⟩ := st_n hx
    subst e
    refine wp_if (fun h1 => ?_) (fun h1 => ?_)
    · rw [iL1, i3_lt (by omega) (by omega) (by omega) (by omega)] at h1
      rw [wp_some, if_neg (fun g => absurd g.2.1.1 (by omega))]
      exact ⟨rfl, H⟩
    rw [iL1, i3_lt (by omega) (by omega) (by omega) (by omega)] at h1
    refine wp_if (fun h2 => ?_) (fun h2 => ?_)
    · rw [iL4, i3_lt (by omega) (by omega) (by omega) (by omega)] at h2
      rw [wp_some, if_neg (fun g => absurd g.2.1.2 (by omega))]
      exact ⟨rfl, H⟩
    rw [iL4, i3_lt (by omega) (by omega) (by omega) (by omega)] at h2
    refine wp_if (fun h3 => ?_) (fun h3 => ?_)
    · rw [iL0, i3_lt (by omega) (by omega) (by omega) (by omega)] at h3
      rw [wp_some, if_neg (fun g => absurd g.2.2.1 (by omega))]
      exact ⟨rfl, H⟩
    rw [iL0, i3_lt (by omega) (by omega) (by omega) (by omega)] at h3
    refine wp_if (fun h4 => ?_) (fun h4 => ?_)
    · rw [i3_lt (by omega) (by omega) (by omega) (by omega)] at h4
      rw [if_pos ⟨hx, ⟨by omega, by omega⟩, by omega, by omega⟩, Int.toNat_natCast]
      obtain ⟨b, rfl⟩ : ∃ b : Nat, n = b := ⟨n.toNat, by omega⟩
      obtain ⟨j, rfl⟩ : ∃ b : Nat, i = b := ⟨i.toNat, by omega⟩
      simp only [Int.toNat_natCast]
      refine wp_b _ H.lay (fun _ N hN => ?_)
      rw [d_rowsOf (by omega) hN.1.1.2, g_b_some, show (0 : Int32) = i3 ((0 : Nat) : Int) from rfl]
      refine wp_mono (d_bAct (by omega) (by omega) (by omega) hN.2.1 hx) (fun r N2 hN2 => ?_)
      exact ⟨hN2.1, hN.1.kp hN2.2 (by decide) (by decide)⟩
    · rw [i3_lt (by omega) (by omega) (by omega) (by omega)] at h4
      rw [wp_some, if_neg (fun g => absurd g.2.2.2 (by omega))]
      exact ⟨rfl, H⟩
  · rw [wp_some, if_neg (fun g => hx g.1)]
    exact ⟨rfl, H⟩
theorem R_reflex (H : DI S h M) {z : Int} (hz : -2147483648 ≤ z ∧ z < 2147483648) : wp (f_X10_reflex (i3 z) M) (fun r N => r = i3 (aSt S z (eX S)) ∧ DI S h N) := by
  rw [f_X10_reflex, H.st hz, g_b_some, b_if]
  refine wp_if (fun hx => ?_) (fun hx => ?_)
  · obtain ⟨s, e, hs⟩ := st_n hx
    rw [aSt_t hx e]
    subst e
    refine wp_b _ H.all (fun _ N hN => ?_)
    rw [ck_ok (by omega) (by omega) (by omega), tn_n (by omega), wp_some]
    exact ⟨hN.2.1 s hs hx, hN.1.1⟩
  · rw [wp_some, aSt_f hx]
    exact ⟨rfl, H⟩
theorem R_proof (H : DI S h M) {z : Int} (hz : -2147483648 ≤ z ∧ z < 2147483648) : wp (f_X10_proof (i3 z) M) (fun r N => r = i3 (aSt S z (fiX (eR S) (eP S) (eX S))) ∧ DI S h N) := by
  rw [f_X10_proof, H.st hz, g_b_some, b_if]
  refine wp_if (fun hx => ?_) (fun hx => ?_)
  · obtain ⟨s, e, hs⟩ := st_n hx
    rw [aSt_t hx e]
    subst e
    refine wp_b _ H.all (fun _ N hN => ?_)
    rw [ck_ok (by omega) (by omega) (by omega), tn_n (by omega), wp_some]
    exact ⟨(hN.2.2 s hs hx).1, hN.1.1⟩
  · rw [wp_some, aSt_f hx]
    exact ⟨rfl, H⟩
theorem R_arrives (H : DI S h M) {z : Int} (hz : -2147483648 ≤ z ∧ z < 2147483648) : wp (f_X10_arrives (i3 z) M) (fun r N => r = i3 (aSt S z (avX (eR S) (eP S) (eX S))) ∧ DI S h N) := by
  rw [f_X10_arrives, H.st hz, g_b_some, b_if]
  refine wp_if (fun hx => ?_) (fun hx => ?_)
  · obtain ⟨s, e, hs⟩ := st_n hx
    rw [aSt_t hx e]
    subst e
    refine wp_b _ H.all (fun _ N hN => ?_)
    rw [ck_ok (by omega) (by omega) (by omega), tn_n (by omega), wp_some]
    exact ⟨(hN.2.2 s hs hx).2, hN.1.1⟩
  · rw [wp_some, aSt_f hx]
    exact ⟨rfl, H⟩
theorem DI.XP (H : DI S h M) : XP (eR S) (eP S) (eX S) := rx_XP H.1.1.1 H.2.2.2.1.1.1
theorem R_witness (H : DI S h M) {z i : Int} (hz : -2147483648 ≤ z ∧ z < 2147483648) (hi : -2147483648 ≤ i ∧ i < 2147483648) : wp (f_X10_witness (i3 z) (i3 i) M) (fun r N => r = i3 (aWi S z i) ∧ DI S h N) := by
  rw [f_X10_witness, H.st hz, g_b_some, b_if]
  unfold aWi wiR
  refine wp_if (fun hx => ?_) (fun hx => ?_)
  · obtain ⟨s, e, hs⟩ := st_n hx
    rw [if_pos hx]
    subst e
    rw [Int.toNat_natCast]
    have hf := fi_r (R := eR S) (p := eP S) (X := eX S) (s := s)
    refine wp_if (fun h1 => ?_) (fun h1 => ?_)
    · rw [iL0, i3_le (by omega) (by omega) (by omega) (by omega)] at h1
      refine wp_b _ H.all (fun _ N hN => ?_)
      rw [ck_ok (by omega) (by omega) (by omega), tn_n (by omega), (hN.2.2 s hs hx).1]
      simp (disch := omega) only [i3_lt]
      refine wp_if (fun h2 => ?_) (fun h2 => ?_)
      · obtain ⟨j, rfl⟩ : ∃ b : Nat, i = b := ⟨i.toNat, by omega⟩
        obtain ⟨d, hd⟩ : ∃ d : Nat, fiX (eR S) (eP S) (eX S) s = d := ⟨(fiX (eR S) (eP S) (eX S) s).toNat, by omega⟩
        rw [show (0 : Int32) = i3 ((0 : Nat) : Int) from rfl, d_wit hN.1.2.1 H.XP hN.2 hd (by omega) (by omega), wp_some, if_pos ⟨h1, h2⟩, Int.toNat_natCast]
        exact ⟨rfl, hN.1.1⟩
      · rw [wp_some, if_neg (fun g => h2 g.2)]
        exact ⟨rfl, hN.1.1⟩
    · rw [iL0, i3_le (by omega) (by omega) (by omega) (by omega)] at h1
      rw [wp_some, if_neg (fun g => h1 g.1)]
      exact ⟨rfl, H⟩
  · rw [wp_some, if_neg hx]
    exact ⟨rfl, H⟩
theorem R_odds (H : DI S h M) {z n w : Int} (hz : -2147483648 ≤ z ∧ z < 2147483648) (hn : -2147483648 ≤ n ∧ n < 2147483648) (hw : -2147483648 ≤ w ∧ w < 2147483648) : wp (f_X10_odds (i3 z) (i3 n) (i3 w) M) (fun r N => r = aOd S z n w ∧ DI S h N) := by
  rw [f_X10_odds, H.st hz, g_b_some, b_if]
  unfold aOd
  refine wp_if (fun hx => ?_) (fun hx => ?_)
  · obtain ⟨s, e, hs⟩ := st_n hx
    subst e
    refine wp_if (fun h1 => ?_) (fun h1 => ?_)
    · rw [iL0, i3_lt (by omega) (by omega) (by omega) (by omega)] at h1
      rw [wp_some, if_neg (fun g => absurd g.2.1.1 (by omega))]
      exact ⟨rfl, H⟩
    rw [iL0, i3_lt (by omega) (by omega) (by omega) (by omega)] at h1
    refine wp_if (fun h2 => ?_) (fun h2 => ?_)
    · rw [iL12, i3_lt (by omega) (by omega) (by omega) (by omega)] at h2
      rw [wp_some, if_neg (fun g => absurd g.2.1.2 (by omega))]
      exact ⟨rfl, H⟩
    rw [iL12, i3_lt (by omega) (by omega) (by omega) (by omega)] at h2
    refine wp_if (fun h3 => ?_) (fun h3 => ?_)
    · rw [iL0, i3_lt (by omega) (by omega) (by omega) (by omega)] at h3
      rw [wp_some, if_neg (fun g => absurd g.2.2.1 (by omega))]
      exact ⟨rfl, H⟩
    rw [iL0, i3_lt (by omega) (by omega) (by omega) (by omega)] at h3
    refine wp_if (fun h4 => ?_) (fun h4 => ?_)
    · rw [iL2, i3_le (by omega) (by omega) (by omega) (by omega)] at h4
      rw [if_pos ⟨hx, ⟨by omega, by omega⟩, by omega, by omega⟩, Int.toNat_natCast]
      obtain ⟨b, rfl⟩ : ∃ b : Nat, n = b := ⟨n.toNat, by omega⟩
      obtain ⟨j, rfl⟩ : ∃ b : Nat, w = b := ⟨w.toNat, by omega⟩
      rw [Int.toNat_natCast, Int.toNat_natCast]
      refine wp_b _ H.all (fun _ N hN => ?_)
      rw [show (0 : Int32) = i3 ((0 : Nat) : Int) from rfl]
      refine wp_mono (d_odds hN.1.2.1 H.XP hN.2.1 hx (by omega) (by omega)) (fun r N2 hN2 => ?_)
      exact ⟨hN2.1, hN.1.1.kp hN2.2 (by decide) (by decide)⟩
    · rw [iL2, i3_le (by omega) (by omega) (by omega) (by omega)] at h4
      rw [wp_some, if_neg (fun g => absurd g.2.2.2 (by omega))]
      exact ⟨rfl, H⟩
  · rw [wp_some, if_neg (fun g => hx g.1)]
    exact ⟨rfl, H⟩
theorem R_learn (H : DI S h M) {z : Int} (hz : -2147483648 ≤ z ∧ z < 2147483648) : wp (f_X10_learn (i3 z) M) (fun r N => r = i3 (aSt S z (fun s => (eL (uLn S s) : Int) - eL S)) ∧ DI (uLz S z) h N) := by
  rw [f_X10_learn, H.st hz, g_b_some, b_if]
  unfold uLz
  refine wp_if (fun hx => ?_) (fun hx => ?_)
  · obtain ⟨s, e, hs⟩ := st_n hx
    rw [aSt_t hx e, if_pos hx]
    subst e
    rw [Int.toNat_natCast]
    obtain ⟨⟨a1, a2⟩, ⟨b1, b2, b3⟩, c, ⟨d1, d2⟩, e, w⟩ := id H
    rw [wp_v, d1.2.1]
    refine wp_mono (d_l17 (L0 := eL S) a2 hx FU (eL S) (eLs S) M (by rw [FU_s]; omega) Fo.rf b1 d1 d2 (fun _ _ => ⟨rfl, rfl⟩) (fun g1 g2 => (by rw [g1] at g2; exact absurd g2 (by decide))) id) (fun r N hN => ?_)
    obtain ⟨rfl, f, g1, g2, g3, g4, g5⟩ := hN
    obtain ⟨o1, o2, o3, o4, o5, o6, o7, o8⟩ := a1
    refine ⟨rfl, ⟨⟨o1, o2, o3, g2.1, o5, o6, o7, o8⟩, a2.mv f (by decide) (by decide)⟩, ⟨g1, fun e1 => ?_, fun e1 => ?_⟩, h3_f c f (by decide) (by decide), ⟨g2, g3⟩, e.mv f (by decide) (by decide), h6_f w f (by decide) (by decide)⟩
    · rcases b1 with e0 | ⟨e0, -⟩
      · exact Or.inl (g5 e1 e0).2
      · unfold uOk
        rw [(g4 e1 e0).2, f.e1 (by decide) (by decide)]
        exact b2 e0
    · rcases b1 with e0 | ⟨e0, -⟩
      · exact Or.inl (g5 e1 e0).1
      · unfold vOk
        rw [(g4 e1 e0).1, f.e1 (by decide) (by decide)]
        exact b3 e0
  · rw [wp_some, aSt_f hx, if_neg hx]
    exact ⟨rfl, H⟩
theorem R_learned (H : DI S h M) {i : Int} (hi : -2147483648 ≤ i ∧ i < 2147483648) : wp (f_X10_learned (i3 i) M) (fun r N => r = i3 (aLd S i) ∧ DI S h N) := by
  have hL := H.2.2.2.1.1.1.1
  rw [f_X10_learned, H.2.2.2.1.1.2.1, aLd]
  simp (disch := omega) only [iL0, i3_lt, i3_le]
  refine wp_if (fun h1 => ?_) (fun h1 => ?_)
  · rw [wp_some, if_neg (by omega)]
    exact ⟨rfl, H⟩
  · refine wp_if (fun h2 => ?_) (fun h2 => ?_)
    · rw [wp_some, if_neg (by omega)]
      exact ⟨rfl, H⟩
    · obtain ⟨j, rfl⟩ : ∃ b : Nat, i = b := ⟨i.toNat, by omega⟩
      rw [ck_ok (by omega) (by omega) (by omega), wp_some, if_pos (by omega), tn_n (by omega), (H.2.2.2.1.1.2.2 j (by omega)).1, Int.toNat_natCast]
      exact ⟨rfl, H⟩
end
