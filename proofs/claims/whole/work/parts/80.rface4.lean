/-! ===== the reference: feed and the walk ===== -/
section
variable {S : eT'} {h : Nat} {M N : gM}
theorem d_word_2 {w : Int32} {n : Nat} (hn : n + 4 ≤ 2000) {M0 : gM} : ∀ (m k : Nat) (M : gM), k ≤ 4 → 4 < m + k → (Fo [1] [1] M0 M ∧ M.1 0 1 = i3 ((n + k : Nat) : Int) ∧ ∀ i : Nat, M.1 1 i = if n ≤ i ∧ i < n + k then i3 (byN w (i - n) : Int) else M0.1 1 i) → wp (f_X10_typed_2 m w (i3 (k : Int)) M) (fun _ N => Fo [1] [1] M0 N ∧ N.1 0 1 = i3 ((n + 4 : Nat) : Int) ∧ ∀ i : Nat, N.1 1 i = if n ≤ i ∧ i < n + 4 then i3 (byN w (i - n) : Int) else M0.1 1 i) := by
  intro m
  induction m with
  | zero => intro k M h1 h2; omega
  | succ m ih =>
    intro k M h1 h2 hI
    obtain ⟨f, g2, g3⟩ := id hI
    rw [f_X10_typed_2, g2]
    by_cases e : k = 4
    · subst e
      rw [if_pos (show (4 : Int32) ≤ i3 ((4 : Nat) : Int) by decide), wp_some]
      exact hI
    · rw [if_neg (show ¬ (4 : Int32) ≤ i3 (k : Int) by rw [iL4, i3_le (by omega) (by omega) (by omega) (by omega)]; omega), ck_ok (by omega) (by omega) (by omega), tn_n (by omega), wp_m, wp_m, rI_n (show (0 : Nat) ≠ 1 by decide), g2, i3_s1, i3_s1]
      have eb : (w >>> (((24 : Int32) - (8 : Int32) * i3 (k : Int)) &&& 31)) &&& 255 = i3 (byN w k : Int) := by
        rw [iL24, iL8, i3_mul, i3_sub, show 24 - 8 * (k : Int) = ((24 - 8 * k : Nat) : Int) by omega, ← i3_nI, by_r w (by omega)]
        exact (by_e w k).2
      rw [eb]
      refine ih (k + 1) _ (by omega) (by omega) ⟨(f.i (by decide) (by decide)).o (by decide), ?_, fun i => ?_⟩
      · rw [rI_e, up_e]
        rfl
      · rw [rI_n (by decide), rI_e]
        by_cases ei : i = n + k
        · rw [ei, up_e, if_pos (by omega), show n + k - n = k by omega]
        · rw [up_n ei, g3 i]
          by_cases h3 : n ≤ i ∧ i < n + k
          · rw [if_pos h3, if_pos (by omega)]
          · rw [if_neg h3, if_neg (by omega)]
/-- B2 does not look at the tape -/
theorem B2.m1 {R : tR} {p : Int} (H : B2 R p h M) (f : Fo [1] [1] M N) : B2 R p h N := by
  have e : ∀ k, k ≠ 0 → k ≠ 1 → N.1 k = M.1 k := fun k h0 h1 => f.e1 h0 (by simp [h1])
  obtain ⟨h1, h2, h3, h4, h5, h6⟩ := H
  exact ⟨h1, h2, h3, by rw [f.e0 (by decide), h4], by rw [f.e0 (by decide), h5], h6.mv (fun k k1 k2 => e k (by omega) (by omega))⟩
theorem R_word (H : DI S h M) {w : Int32} (hw : eTp S + 4 ≤ 2000) : wp (f_X10_typed w M) (fun _ N => DI (uW S w) h N) := by
  rw [f_X10_typed]
  obtain ⟨⟨a1, a2⟩, b, c, d, e, ⟨w1, w2, w3, w4⟩⟩ := id H
  refine wp_mono (d_word_2 (n := eTp S) hw FU 0 M (by omega) (by rw [FU_s]; omega) ⟨Fo.rf, w3.1, fun i => by rw [if_neg (by omega)]⟩) (fun _ N hN => ?_)
  obtain ⟨f, g2, g3⟩ := hN
  have w6 : wkJ S N ∧ slJ S N := by
    unfold wkJ slJ
    rw [f.e0 (by decide), f.e0 (by decide), f.e1 (by decide) (by decide), f.e1 (by decide) (by decide), f.e1 (by decide) (by decide), f.e1 (by decide) (by decide)]
    exact ⟨w1, w2⟩
  refine ⟨⟨ok_W a1 hw, a2.m1 f⟩, h2_f b f (by decide) (by decide), h3_f c f (by decide) (by decide), h4_f d f (by decide) (by decide), e.mv f (by decide) (by decide), ⟨w6.1, w6.2, ⟨g2, fun i hi => ?_⟩, by rw [f.e0 (by decide)]; exact w4⟩⟩
  have hi : i < eTp S + 4 := hi
  rw [g3 i]
  show _ = i3 ((if i < eTp S then eTb S i else byN w (i - eTp S) : Nat) : Int)
  by_cases h3 : i < eTp S
  · rw [if_neg (by omega), if_pos h3, w3.2 i h3]
  · rw [if_pos (by omega), if_neg h3]
theorem R_feed (H : DI S h M) {a b c d e : Int32} : wp (f_X10_feed a b c d e M) (fun r N => r = i3 (aFd S) ∧ DI (uFd S a b c d e) h N) := by
  have hT := H.1.1.2.2.2.2.2.2.1.1
  rw [f_X10_feed, H.2.2.2.2.2.2.2.1.1, iL20, i3_add]
  unfold uFd aFd
  simp (disch := omega) only [iL2000, i3_le]
  refine wp_if (fun h1 => ?_) (fun h1 => ?_)
  · have h1 : eTp S + 20 ≤ 2000 := by omega
    rw [if_pos h1, if_pos h1]
    refine wp_b _ (R_word H (w := a) (by omega)) (fun _ N1 h1' => ?_)
    refine wp_b _ (R_word h1' (w := b) (by show eTp S + 4 + 4 ≤ 2000; omega)) (fun _ N2 h2 => ?_)
    refine wp_b _ (R_word h2 (w := c) (by show eTp S + 4 + 4 + 4 ≤ 2000; omega)) (fun _ N3 h3 => ?_)
    refine wp_b _ (R_word h3 (w := d) (by show eTp S + 4 + 4 + 4 + 4 ≤ 2000; omega)) (fun _ N4 h4 => ?_)
    refine wp_b _ (R_word h4 (w := e) (by show eTp S + 4 + 4 + 4 + 4 + 4 ≤ 2000; omega)) (fun _ N5 h5 => ?_)
    rw [wp_some]
    exact ⟨h5.2.2.2.2.2.2.2.1.1, h5⟩
  · rw [wp_some, if_neg (by omega), if_neg (by omega)]
    exact ⟨rfl, H⟩
theorem R_stand (H : DI S h M) {z : Int} (hz : -2147483648 ≤ z ∧ z < 2147483648) : wp (f_X10_stand (i3 z) M) (fun r N => r = b_ (stP (eR S) z) ∧ DI (uSz S z) h N) := by
  rw [f_X10_stand, H.st hz, g_b_some, b_if]
  unfold uSz
  refine wp_if (fun hx => ?_) (fun hx => ?_)
  · obtain ⟨⟨a1, a2⟩, b, c, d, e, ⟨w1, w2, w3, w4⟩⟩ := id H
    rw [wp_m, wp_m, show (0 : Int32) = i3 0 from rfl, ck_ok (by omega) (by omega) (by omega), wp_m, wp_some, if_pos hx, b_t hx]
    have f : Fo [41] [53, 54] M (sI (sI (sI M 0 53 1) 0 54 (i3 0)) 41 (tn (i3 0)) (i3 z)) := ((Fo.rf.o (by decide)).o (by decide)).i (by decide) (by decide)
    refine ⟨rfl, ⟨ok_Sd a1 hx, a2.mv f (by decide) (by decide)⟩, h2_f b f (by decide) (by decide), h3_f c f (by decide) (by decide), h4_f d f (by decide) (by decide), e.mv f (by decide) (by decide), ⟨⟨Or.inr ⟨?_, ?_, ?_⟩, fun i hi => ?_, fun i hi => ?_⟩, ?_, ?_, by rw [f.e0 (by decide)]; exact w4⟩⟩
    · rw [rI_n (by decide), rI_e, up_n (by decide), rI_e, up_e]
    · show (0 : Int) ≤ 0
      decide
    · rw [rI_n (by decide), rI_e, up_e]
      rfl
    · have hi : (i : Int) ≤ 0 := hi
      obtain rfl : i = 0 := by omega
      rw [rI_e, show tn (i3 0) = 0 from rfl, up_e]
      rfl
    · have hi : (i : Int) < 0 := hi
      omega
    · unfold slJ
      rw [f.e1 (by decide) (by decide)]
      exact w2
    · unfold tpJ
      rw [f.e0 (by decide), f.e1 (by decide) (by decide)]
      exact w3
  · rw [wp_some, if_neg hx, b_f hx]
    exact ⟨rfl, H⟩
theorem R_undo (H : DI S h M) : wp (f_X10_undo M) (fun r N => r = decide (0 < eWc S) ∧ DI (uUn S) h N) := by
  obtain ⟨⟨a1, a2⟩, b, c, d, e, ⟨w1, w2, w3, w4⟩⟩ := id H
  have hw2 := a1.2.2.2.2.1.2.1
  have hU := ok_Un a1
  rw [f_X10_undo]
  unfold uUn at hU ⊢
  rcases w1.1 with ⟨e0, hc⟩ | ⟨e0, hc, e1⟩
  · rw [if_pos e0, wp_some, if_neg (by omega), decide_eq_false (by omega)]
    exact ⟨rfl, H⟩
  · rw [if_neg (by rw [e0]; decide), e1]
    refine wp_if (fun h1 => ?_) (fun h1 => ?_)
    · have h1 := i3_c (by omega) (c := 0) (by omega) h1
      rw [wp_some, if_neg (by omega), decide_eq_false (by omega)]
      exact ⟨rfl, H⟩
    · have hp : 0 < eWc S := by
        have : ¬ eWc S = 0 := fun e => h1 (by rw [e]; rfl)
        omega
      rw [if_pos hp] at hU
      rw [wp_m, wp_some, if_pos hp, decide_eq_true hp]
      have f : Fo [] [54] M (sI M 0 54 (i3 (eWc S) - 1)) := Fo.rf.o (by decide)
      refine ⟨rfl, ⟨hU, a2.mv f (by decide) (by decide)⟩, h2_f b f (by decide) (by decide), h3_f c f (by decide) (by decide), h4_f d f (by decide) (by decide), e.mv f (by decide) (by decide), ⟨⟨Or.inr ⟨?_, ?_, ?_⟩, fun i hi => ?_, fun i hi => ?_⟩, ?_, ?_, by rw [f.e0 (by decide)]; exact w4⟩⟩
      · rw [f.e0 (by decide), e0]
      · show 0 ≤ eWc S - 1
        omega
      · rw [rI_e, up_e, iL1, i3_sub]
      · have hi : (i : Int) ≤ eWc S - 1 := hi
        rw [f.e1 (by decide) (by decide)]
        exact w1.2.1 i (by omega)
      · have hi : (i : Int) < eWc S - 1 := hi
        rw [f.e1 (by decide) (by decide), f.e1 (by decide) (by decide)]
        exact w1.2.2 i (by omega)
      · unfold slJ
        rw [f.e1 (by decide) (by decide)]
        exact w2
      · unfold tpJ
        rw [f.e0 (by decide), f.e1 (by decide) (by decide)]
        exact w3
theorem R_walked (H : DI S h M) {i w : Int} (hi : -2147483648 ≤ i ∧ i < 2147483648) (hw : -2147483648 ≤ w ∧ w < 2147483648) : wp (f_X10_walked (i3 i) (i3 w) M) (fun r N => r = i3 (aWk S i w) ∧ DI S h N) := by
  obtain ⟨⟨a1, a2⟩, b, c, d, e, ⟨w1, w2, w3, w4⟩⟩ := id H
  have hw2 := a1.2.2.2.2.1.2.1
  rw [f_X10_walked, aWk]
  rcases w1.1 with ⟨e0, hc⟩ | ⟨e0, hc, e1⟩
  · rw [if_pos e0, wp_some, if_neg (by omega)]
    exact ⟨rfl, H⟩
  · rw [if_neg (by rw [e0]; decide), e1]
    simp (disch := omega) only [iL0, iL1, iL2, iL3, i3_lt, i3_le, i3_eq]
    refine wp_if (fun h1 => ?_) (fun h1 => ?_)
    · rw [wp_some, if_neg (by omega)]
      exact ⟨rfl, H⟩
    refine wp_if (fun h2 => ?_) (fun h2 => ?_)
    · rw [wp_some, if_neg (by omega)]
      exact ⟨rfl, H⟩
    refine wp_if (fun h3 => ?_) (fun h3 => ?_)
    · rw [wp_some, if_neg (by omega)]
      exact ⟨rfl, H⟩
    refine wp_if (fun h4 => ?_) (fun h4 => ?_)
    · obtain ⟨j, rfl⟩ : ∃ b : Nat, i = b := ⟨i.toNat, by omega⟩
      rw [if_pos (show (0 ≤ (j : Int) ∧ (j : Int) < eWc S) ∧ 0 ≤ w ∧ w ≤ 3 by omega), Int.toNat_natCast]
      refine wp_if (fun k0 => ?_) (fun k0 => ?_)
      · rw [ck_ok (by omega) (by omega) (by omega), wp_some, if_pos k0, tn_n (by omega), w1.2.1 j (by omega)]
        exact ⟨rfl, H⟩
      rw [if_neg (show ¬ w = 0 from k0)]
      refine wp_if (fun k1 => ?_) (fun k1 => ?_)
      · rw [ck_ok (by omega) (by omega) (by omega), wp_some, if_pos k1, tn_n (by omega), (w1.2.2 j (by omega)).1]
        exact ⟨rfl, H⟩
      rw [if_neg (show ¬ w = 1 from k1)]
      refine wp_if (fun k2 => ?_) (fun k2 => ?_)
      · rw [ck_ok (by omega) (by omega) (by omega), wp_some, if_pos k2, tn_n (by omega), (w1.2.2 j (by omega)).2]
        exact ⟨rfl, H⟩
      rw [i3_add, ck_ok (by omega) (by omega) (by omega), wp_some, if_neg (show ¬ w = 2 from k2), show (j : Int) + 1 = ((j + 1 : Nat) : Int) by omega, tn_n (by omega), w1.2.1 (j + 1) (by omega)]
      exact ⟨rfl, H⟩
    · rw [wp_some, if_neg (by omega)]
      exact ⟨rfl, H⟩
end
