/-! ===== groups of what is kept ===== -/
section
variable {R : tR} {p : Int} {M N : gM} {T : List Nat}
theorem g2_f (h : fI R p M ∧ rI R p M ∧ bI R p M ∧ pI R M) (f : Fr T M N) (hT : ∀ k ∈ T, ¬ (37 ≤ k ∧ k ≤ 43)) : fI R p N ∧ rI R p N ∧ bI R p N ∧ pI R N := by
  obtain ⟨b1, b2, b3, b4⟩ := h
  have g : ∀ k, (37 ≤ k ∧ k ≤ 43) → N.1 k = M.1 k := fun k hk => f.e1 (fun hm => hT k hm hk)
  exact ⟨b1.c (by rw [g 37 (by omega)]) (g 38 (by omega)) (g 39 (by omega)), b2.c (by rw [g 37 (by omega)]) (g 40 (by omega)) (g 41 (by omega)), b3.c (by rw [g 37 (by omega)]) (g 42 (by omega)), b4.c (by rw [g 37 (by omega)]) (g 43 (by omega))⟩
theorem g3_f {L : Nat} {ls : Nat → Nat} {X : Nat → Int} (h : lnI R p L ls M ∧ exI R p X M) (f : Fr T M N) (hT : ∀ k ∈ T, ¬ (47 ≤ k ∧ k ≤ 53)) : lnI R p L ls N ∧ exI R p X N := by
  obtain ⟨c1, c2⟩ := h
  have g : ∀ k, (47 ≤ k ∧ k ≤ 53) → N.1 k = M.1 k := fun k hk => f.e1 (fun hm => hT k hm hk)
  exact ⟨c1.c (by rw [g 47 (by omega)]) (g 48 (by omega)) (g 49 (by omega)), c2.c (by rw [g 47 (by omega)]) (by rw [g 47 (by omega)]) (by rw [g 47 (by omega)]) (by rw [g 47 (by omega)]) (g 50 (by omega)) (g 51 (by omega)) (g 52 (by omega)) (g 53 (by omega))⟩
theorem g4_f {fc : Nat → Int} {F mt : Nat} (h : fcI fc F M ∧ kI R p fc F M ∧ mtI mt M) (f : Fr T M N) (hT : ∀ k ∈ T, ¬ ((57 ≤ k ∧ k ≤ 59) ∨ k = 65)) : fcI fc F N ∧ kI R p fc F N ∧ mtI mt N := by
  obtain ⟨d1, d2, d3⟩ := h
  have g : ∀ k, ((57 ≤ k ∧ k ≤ 59) ∨ k = 65) → N.1 k = M.1 k := fun k hk => f.e1 (fun hm => hT k hm hk)
  exact ⟨d1.c (by rw [g 57 (by omega)]) (g 58 (by omega)), d2.c (by rw [g 57 (by omega)]) (by rw [g 57 (by omega)]) (g 59 (by omega)), d3.c (by rw [g 57 (by omega)]) (g 65 (by omega))⟩
theorem g5_f {S : eT'} (h : wkI S M ∧ slI S M ∧ tpI S M ∧ M.1 0 2 = i3 (eFp S)) (f : Fr T M N) (hT : ∀ k ∈ T, ¬ (k ≤ 2 ∨ (66 ≤ k ∧ k ≤ 69))) : wkI S N ∧ slI S N ∧ tpI S N ∧ N.1 0 2 = i3 (eFp S) := by
  obtain ⟨w1, w2, w3, w4⟩ := h
  have g : ∀ k, (k ≤ 2 ∨ (66 ≤ k ∧ k ≤ 69)) → N.1 k = M.1 k := fun k hk => f.e1 (fun hm => hT k hm hk)
  exact ⟨w1.c (g 66 (by omega)) (g 67 (by omega)) (g 68 (by omega)) (g 69 (by omega)), w2.c (g 2 (by omega)), w3.c (by rw [g 0 (by omega)]) (g 1 (by omega)), by rw [g 0 (by omega), w4]⟩
theorem g1_f {S : eT'} {t st st2 : Nat} (h : sOk S ∧ CB (eR S) (eP S) t st M ∧ M.2.2 0 4 = t ∧ M.2.2 0 5 = 15 - t ∧ M.1 0 3 = i3 (eP S)) (hC : CB (eR S) (eP S) t st2 N) (f : Fr T M N) (hT : ∀ k ∈ T, ¬ k = 0) : sOk S ∧ CB (eR S) (eP S) t st2 N ∧ N.2.2 0 4 = t ∧ N.2.2 0 5 = 15 - t ∧ N.1 0 3 = i3 (eP S) := by
  obtain ⟨a1, a2, a3, a4, a5⟩ := h
  have hm : 0 ∉ T := fun hm => hT 0 hm rfl
  exact ⟨a1, hC, by rw [f.e3 hm, a3], by rw [f.e3 hm, a4], by rw [f.e1 hm, a5]⟩
end
section
variable {S : eT'} {t st mt : Nat} {M N : gM}
theorem K_known (h : CI S t st mt M) {z : Int} (hz : -2147483648 ≤ z ∧ z < 2147483648) : wp (f_X9_known (i3 z) M) (fun r N => r = i3 (aSt S z (keE (eR S) (eP S) (eFc S) (eF S))) ∧ CI S t st mt N) := by
  rw [f_X9_known, h.or, h.has hz, g_b_some, b_if]
  refine wp_if (fun hx => ?_) (fun hx => ?_)
  · obtain ⟨s, e, hs⟩ := st_n hx
    rw [aSt_t hx e]
    subst e
    obtain ⟨q1, q2, q3, ⟨d1, d2, d3⟩, q5⟩ := id h
    refine wp_b _ (k_plan q1.2.1 d1 hx d2) (fun _ N hN => ?_)
    obtain ⟨g1, f, g5, g4, gp⟩ := hN
    rw [wp_some]
    exact ⟨gp.1, g1_f q1 g1 f (by decide), g2_f q2 f (by decide), g3_f q3 f (by decide), ⟨d1.c (g5 1 (by decide) (by decide)) (f.e1 (by decide)), Or.inr ⟨s, hx, g4, gp⟩, d3.c (g5 12 (by decide) (by decide)) (f.e1 (by decide))⟩, g5_f q5 f (by decide)⟩
  · rw [wp_some, aSt_f hx]
    exact ⟨rfl, h⟩
theorem K_knownAct (h : CI S t st mt M) {z i : Int} (hz : -2147483648 ≤ z ∧ z < 2147483648) (hi : -2147483648 ≤ i ∧ i < 2147483648) : wp (f_X9_knownAct (i3 z) (i3 i) M) (fun r N => r = i3 (aSt S z (fun s => knA (eR S) (eP S) (eFc S) (eF S) s i)) ∧ CI S t st mt N) := by
  rw [f_X9_knownAct, h.or, h.has hz, g_b_some, b_if]
  refine wp_if (fun hx => ?_) (fun hx => ?_)
  · obtain ⟨s, e, hs⟩ := st_n hx
    rw [aSt_t hx e]
    subst e
    obtain ⟨q1, q2, q3, ⟨d1, d2, d3⟩, q5⟩ := id h
    refine wp_b _ (k_plan q1.2.1 d1 hx d2) (fun _ N hN => ?_)
    obtain ⟨g1, f, g5, g4, gp⟩ := hN
    rw [k_plAct d1.1 gp hi, g_b_some, wp_some]
    exact ⟨rfl, g1_f q1 g1 f (by decide), g2_f q2 f (by decide), g3_f q3 f (by decide), ⟨d1.c (g5 1 (by decide) (by decide)) (f.e1 (by decide)), Or.inr ⟨s, hx, g4, gp⟩, d3.c (g5 12 (by decide) (by decide)) (f.e1 (by decide))⟩, g5_f q5 f (by decide)⟩
  · rw [wp_some, aSt_f hx]
    exact ⟨rfl, h⟩
noncomputable def aBl (S : eT') (z n : Int) : Int := @ite _ (stP (eR S) z ∧ 1 ≤ n ∧ n ≤ 4) (Classical.propDecidable _) (cN (blN (eR S) (eP S) n.toNat (bs0 (eR S) z.toNat)) (rNa (eR S) ^ n.toNat) : Nat) (-1)
theorem CI.rows (h : CI S t st mt M) {mt2 : Nat} (g1 : CB (eR S) (eP S) t st N) (f : Fr cRw M N) (g5 : ∀ j, j ≠ 12 → N.1 57 j = M.1 57 j) (g3 : mtI mt2 N) : CI S t st mt2 N := by
  obtain ⟨q1, q2, q3, ⟨d1, d2, d3⟩, q5⟩ := id h
  exact ⟨g1_f q1 g1 f (by decide), g2_f q2 f (by decide), g3_f q3 f (by decide), ⟨d1.c (g5 1 (by decide)) (f.e1 (by decide)), d2.c (g5 3 (by decide)) (g5 4 (by decide)) (f.e1 (by decide)), g3⟩, g5_f q5 f (by decide)⟩
theorem K_blind (h : CI S t st mt M) (hmt : mt + 1554 < 1900000000) {z n : Int} (hz : -2147483648 ≤ z ∧ z < 2147483648) (hn : -2147483648 ≤ n ∧ n < 2147483648) : wp (f_X9_blind (i3 z) (i3 n) M) (fun r N => r = i3 (aBl S z n) ∧ ∃ mt2, mt2 ≤ mt + 1554 ∧ CI S t st mt2 N) := by
  rw [f_X9_blind, h.or, h.has hz, g_b_some, b_if]
  unfold aBl
  refine wp_if (fun hx => ?_) (fun hx => ?_)
  · obtain ⟨s, e, hs⟩ := st_n hx
    subst e
    simp (disch := omega) only [iL1, show (4 : Int32) = i3 4 from rfl, i3_lt, i3_le]
    refine wp_if (fun h1 => ?_) (fun h1 => ?_)
    · rw [wp_some, if_neg (fun g => absurd g.2.1 (by omega))]
      exact ⟨rfl, mt, by omega, h⟩
    · refine wp_if (fun h2 => ?_) (fun h2 => ?_)
      · rw [if_pos ⟨hx, by omega, by omega⟩, Int.toNat_natCast]
        obtain ⟨b, rfl⟩ : ∃ b : Nat, n = b := ⟨n.toNat, by omega⟩
        rw [Int.toNat_natCast]
        refine wp_b _ (k_blind (by omega) false hs hmt h.1.2.1 h.2.2.2.1.2.2) (fun r N hN => ?_)
        obtain ⟨g1, f, g5, ⟨mt2, u1, u2⟩, g6, -⟩ := hN
        rw [wp_some]
        exact ⟨g6 rfl, mt2, u1, h.rows g1 f g5 u2⟩
      · rw [wp_some, if_neg (fun g => absurd g.2.2 h2)]
        exact ⟨rfl, mt, by omega, h⟩
  · rw [wp_some, if_neg (fun g => hx g.1)]
    exact ⟨rfl, mt, by omega, h⟩
noncomputable def aBla (S : eT') (z n i : Int) : Int := @ite _ (stP (eR S) z ∧ (1 ≤ n ∧ n ≤ 4) ∧ 0 ≤ i ∧ i < n) (Classical.propDecidable _) (blA (eR S) (eP S) n.toNat z.toNat i.toNat) (-1)
theorem K_blindAct (h : CI S t st mt M) (hmt : mt + 1554 < 1900000000) {z n i : Int} (hz : -2147483648 ≤ z ∧ z < 2147483648) (hn : -2147483648 ≤ n ∧ n < 2147483648) (hi : -2147483648 ≤ i ∧ i < 2147483648) : wp (f_X9_blindAct (i3 z) (i3 n) (i3 i) M) (fun r N => r = i3 (aBla S z n i) ∧ ∃ mt2, mt2 ≤ mt + 1554 ∧ CI S t st mt2 N) := by
  rw [f_X9_blindAct, h.or, h.has hz, g_b_some, b_if]
  unfold aBla
  refine wp_if (fun hx => ?_) (fun hx => ?_)
  · obtain ⟨s, e, hs⟩ := st_n hx
    subst e
    simp (disch := omega) only [iL1, iL0, show (4 : Int32) = i3 4 from rfl, i3_lt]
    refine wp_if (fun h1 => ?_) (fun h1 => ?_)
    · rw [wp_some, if_neg (fun g => absurd g.2.1.1 (by omega))]
      exact ⟨rfl, mt, by omega, h⟩
    · refine wp_if (fun h2 => ?_) (fun h2 => ?_)
      · rw [wp_some, if_neg (fun g => absurd g.2.1.2 (by omega))]
        exact ⟨rfl, mt, by omega, h⟩
      · refine wp_if (fun h3 => ?_) (fun h3 => ?_)
        · rw [wp_some, if_neg (fun g => absurd g.2.2.1 (by omega))]
          exact ⟨rfl, mt, by omega, h⟩
        · refine wp_if (fun h4 => ?_) (fun h4 => ?_)
          · rw [if_pos ⟨hx, ⟨by omega, by omega⟩, by omega, by omega⟩, Int.toNat_natCast]
            obtain ⟨b, rfl⟩ : ∃ b : Nat, n = b := ⟨n.toNat, by omega⟩
            obtain ⟨j, rfl⟩ : ∃ b : Nat, i = b := ⟨i.toNat, by omega⟩
            simp only [Int.toNat_natCast]
            refine wp_b _ (k_blind (by omega) true hs hmt h.1.2.1 h.2.2.2.1.2.2) (fun r N hN => ?_)
            obtain ⟨g1, f, g5, ⟨mt2, u1, u2⟩, -, g6⟩ := hN
            unfold blA
            rcases g6 rfl with ⟨rfl, v2⟩ | ⟨k, rfl, v2, v3, v4⟩
            · refine wp_if (fun _ => ?_) (fun hq => absurd (show i3 0 ≤ i3 0 by decide) hq)
              rw [wp_some, v2, if_pos rfl]
              exact ⟨rfl, mt2, u1, h.rows g1 f g5 u2⟩
            · refine wp_if (fun hq => absurd hq (show ¬ i3 1 ≤ i3 0 by decide)) (fun _ => ?_)
              rw [ck_ok (by omega) (by omega) (by omega), wp_some, v2, if_neg (show ¬ (k : Int) = -1 by omega), Int.toNat_natCast, tn_n (by omega), v4 j (by omega)]
              exact ⟨rfl, mt2, u1, h.rows g1 f g5 u2⟩
          · rw [wp_some, if_neg (fun g => absurd g.2.2.2 (by omega))]
            exact ⟨rfl, mt, by omega, h⟩
  · rw [wp_some, if_neg (fun g => hx g.1)]
    exact ⟨rfl, mt, by omega, h⟩
theorem K_reflex (h : CI S t st mt M) {z : Int} (hz : -2147483648 ≤ z ∧ z < 2147483648) : wp (f_X9_reflex (i3 z) M) (fun r N => r = i3 (aSt S z (eX S)) ∧ CI S t st mt N) := by
  rw [f_X9_reflex, h.or, h.has hz, g_b_some, b_if]
  refine wp_if (fun hx => ?_) (fun hx => ?_)
  · obtain ⟨s, e, hs⟩ := st_n hx
    rw [aSt_t hx e]
    subst e
    refine wp_b _ (k_actIn h.1.2.1 h.2.2.1.1.1 h.2.2.1.1.2.2.2 hs) (fun r N hN => ?_)
    rw [wp_some]
    exact ⟨hN.1, h.kp hN.2.1 hN.2.2 (by decide)⟩
  · rw [wp_some, aSt_f hx]
    exact ⟨rfl, h⟩
theorem CI.explore (h : CI S t st mt M) {s : Nat} (hs : stP (eR S) s) : wp (f_X3_explore (i3 s) M) (fun _ N => CI S t st mt N ∧ exE (eR S) (eP S) (eX S) s N) := by
  obtain ⟨q1, q2, ⟨c1, c2⟩, q4, q5⟩ := id h
  refine wp_mono (k_explore q1.2.1 hs c1 c2) (fun _ N hN => ?_)
  obtain ⟨g1, ⟨f, g5⟩, g4, gp⟩ := hN
  exact ⟨⟨g1_f q1 g1 f (by decide), g2_f q2 f (by decide), ⟨c1.c (g5 2 (by decide) (by decide) (by decide) (by decide)) (f.e1 (by decide)) (f.e1 (by decide)), Or.inr ⟨s, hs, g4, gp⟩⟩, g4_f q4 f (by decide), g5_f q5 f (by decide)⟩, gp⟩
theorem K_proof (h : CI S t st mt M) {z : Int} (hz : -2147483648 ≤ z ∧ z < 2147483648) : wp (f_X9_proof (i3 z) M) (fun r N => r = i3 (aSt S z (fiX (eR S) (eP S) (eX S))) ∧ CI S t st mt N) := by
  rw [f_X9_proof, h.or, h.has hz, g_b_some, b_if]
  refine wp_if (fun hx => ?_) (fun hx => ?_)
  · obtain ⟨s, e, hs⟩ := st_n hx
    rw [aSt_t hx e]
    subst e
    refine wp_b _ (h.explore hx) (fun _ N hN => ?_)
    rw [k_btf (ex_W h.1.1.1 hN.2), g_b_some, wp_some]
    exact ⟨rfl, hN.1⟩
  · rw [wp_some, aSt_f hx]
    exact ⟨rfl, h⟩
noncomputable def aWi (S : eT') (z i : Int) : Int := @ite _ (stP (eR S) z) (Classical.propDecidable _) (wiR (eR S) (eP S) (eX S) z.toNat i) (-100)
theorem K_witness (h : CI S t st mt M) {z i : Int} (hz : -2147483648 ≤ z ∧ z < 2147483648) (hi : -2147483648 ≤ i ∧ i < 2147483648) : wp (f_X9_witness (i3 z) (i3 i) M) (fun r N => r = i3 (aWi S z i) ∧ CI S t st mt N) := by
  rw [f_X9_witness, h.or, h.has hz, g_b_some, b_if]
  unfold aWi
  refine wp_if (fun hx => ?_) (fun hx => ?_)
  · obtain ⟨s, e, hs⟩ := st_n hx
    rw [if_pos hx]
    subst e
    rw [Int.toNat_natCast]
    refine wp_b _ (h.explore hx) (fun _ N hN => ?_)
    rw [k_wit (ex_W h.1.1.1 hN.2) hi, g_b_some, wp_some]
    exact ⟨rfl, hN.1⟩
  · rw [wp_some, if_neg hx]
    exact ⟨rfl, h⟩
theorem K_arrives (h : CI S t st mt M) {z : Int} (hz : -2147483648 ≤ z ∧ z < 2147483648) : wp (f_X9_arrives (i3 z) M) (fun r N => r = i3 (aSt S z (avX (eR S) (eP S) (eX S))) ∧ CI S t st mt N) := by
  rw [f_X9_arrives, h.or, h.has hz, g_b_some, b_if]
  refine wp_if (fun hx => ?_) (fun hx => ?_)
  · obtain ⟨s, e, hs⟩ := st_n hx
    rw [aSt_t hx e]
    subst e
    refine wp_b _ (h.explore hx) (fun _ N hN => ?_)
    refine wp_b _ (k_lway hN.1.1.2.1 hN.1.2.2.1.1.1 hN.1.2.2.1.1.2.2.2 hN.2 hx) (fun r N2 hN2 => ?_)
    rw [wp_some]
    exact ⟨hN2.1, hN.1.kp hN2.2.1 hN2.2.2 (by decide)⟩
  · rw [wp_some, aSt_f hx]
    exact ⟨rfl, h⟩
noncomputable def aOd (S : eT') (z n w : Int) : Int64 := @ite _ (stP (eR S) z ∧ (0 ≤ n ∧ n ≤ 12) ∧ 0 ≤ w ∧ w ≤ 2) (Classical.propDecidable _) (ooR (eR S) (eP S) (eX S) w.toNat n.toNat z.toNat) (-1)
theorem K_odds (h : CI S t st mt M) {z n w : Int} (hz : -2147483648 ≤ z ∧ z < 2147483648) (hn : -2147483648 ≤ n ∧ n < 2147483648) (hw : -2147483648 ≤ w ∧ w < 2147483648) : wp (f_X9_odds (i3 z) (i3 n) (i3 w) M) (fun r N => r = aOd S z n w ∧ CI S t st mt N) := by
  rw [f_X9_odds, h.or, h.has hz, g_b_some, b_if]
  unfold aOd
  refine wp_if (fun hx => ?_) (fun hx => ?_)
  · obtain ⟨s, e, hs⟩ := st_n hx
    subst e
    simp (disch := omega) only [iL0, iL12, show (2 : Int32) = i3 2 from rfl, i3_lt, i3_le]
    refine wp_if (fun h1 => ?_) (fun h1 => ?_)
    · rw [wp_some, if_neg (fun g => absurd g.2.1.1 (by omega))]
      exact ⟨rfl, h⟩
    · refine wp_if (fun h2 => ?_) (fun h2 => ?_)
      · rw [wp_some, if_neg (fun g => absurd g.2.1.2 (by omega))]
        exact ⟨rfl, h⟩
      · refine wp_if (fun h3 => ?_) (fun h3 => ?_)
        · rw [wp_some, if_neg (fun g => absurd g.2.2.1 (by omega))]
          exact ⟨rfl, h⟩
        · refine wp_if (fun h4 => ?_) (fun h4 => ?_)
          · rw [if_pos ⟨hx, ⟨by omega, by omega⟩, by omega, by omega⟩, Int.toNat_natCast]
            obtain ⟨b, rfl⟩ : ∃ b : Nat, n = b := ⟨n.toNat, by omega⟩
            obtain ⟨j, rfl⟩ : ∃ b : Nat, w = b := ⟨w.toNat, by omega⟩
            rw [Int.toNat_natCast, Int.toNat_natCast]
            refine wp_b _ (k_odds h.1.2.1 h.2.2.1.1.1 h.2.2.1.1.2.2.2 hx (by omega) (by omega)) (fun r N hN => ?_)
            rw [wp_some]
            exact ⟨hN.1, h.kp hN.2.1 hN.2.2 (by decide)⟩
          · rw [wp_some, if_neg (fun g => absurd g.2.2.2 (by omega))]
            exact ⟨rfl, h⟩
  · rw [wp_some, if_neg (fun g => hx g.1)]
    exact ⟨rfl, h⟩
/-! what a call changes -/
noncomputable def uLn (S : eT') (s0 : Nat) : eT' := (S.1, S.2.1, lnR (eR S) (eP S) s0 (40 - eL S) (eL S) (eLs S), S.2.2.2)
noncomputable def uLz (S : eT') (z : Int) : eT' := @ite _ (stP (eR S) z) (Classical.propDecidable _) (uLn S z.toNat) S
theorem K_learn (h : CI S t st mt M) {z : Int} (hz : -2147483648 ≤ z ∧ z < 2147483648) : wp (f_X9_learn (i3 z) M) (fun r N => r = i3 (aSt S z (fun s => (eL (uLn S s) : Int) - eL S)) ∧ CI (uLz S z) t st mt N) := by
  rw [f_X9_learn, h.or, h.has hz, g_b_some, b_if]
  unfold uLz
  refine wp_if (fun hx => ?_) (fun hx => ?_)
  · obtain ⟨s, e, hs⟩ := st_n hx
    rw [aSt_t hx e, if_pos hx]
    subst e
    rw [Int.toNat_natCast]
    refine wp_b _ h.fates (fun _ N hN => ?_)
    obtain ⟨hN, hk⟩ := hN
    obtain ⟨q1, q2, ⟨c1, c2⟩, q4, q5⟩ := id hN
    refine wp_b _ (k_learn q1.2.1 hx hk c1 c2) (fun r N2 hN2 => ?_)
    obtain ⟨rfl, g1, f, g5, g6, g7⟩ := hN2
    rw [wp_some]
    have q1' := g1_f q1 g1 f (by decide)
    obtain ⟨⟨o1, o2, o3, o4, o5⟩, o6⟩ := q1'
    exact ⟨rfl, ⟨⟨o1, o2, o3, g6.1, o5⟩, o6⟩, g2_f q2 f (by decide), ⟨g6, g7⟩, g4_f q4 f (by decide), g5_f q5 f (by decide)⟩
  · rw [wp_some, aSt_f hx, if_neg hx]
    exact ⟨rfl, h⟩
noncomputable def aLd (S : eT') (i : Int) : Int := if 0 ≤ i ∧ i < eL S then eLs S i.toNat else -1
theorem K_learned (h : CI S t st mt M) {i : Int} (hi : -2147483648 ≤ i ∧ i < 2147483648) : wp (f_X9_learned (i3 i) M) (fun r N => r = i3 (aLd S i) ∧ CI S t st mt N) := by
  have hL := h.2.2.1.1.1.1
  rw [f_X9_learned, h.2.2.1.1.2.1, aLd]
  simp (disch := omega) only [iL0, i3_lt, i3_le]
  refine wp_if (fun h1 => ?_) (fun h1 => ?_)
  · rw [wp_some, if_neg (by omega)]
    exact ⟨rfl, h⟩
  · refine wp_if (fun h2 => ?_) (fun h2 => ?_)
    · rw [wp_some, if_neg (by omega)]
      exact ⟨rfl, h⟩
    · obtain ⟨j, rfl⟩ : ∃ b : Nat, i = b := ⟨i.toNat, by omega⟩
      rw [ck_ok (by omega) (by omega) (by omega), wp_some, if_pos (by omega), tn_n (by omega), h.2.2.1.1.2.2.1 j (by omega), Int.toNat_natCast]
      exact ⟨rfl, h⟩
end
