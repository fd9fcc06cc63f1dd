/-! ===== the reference: beat, blame ===== -/
section
variable {S : eT'} {h : Nat} {M N : gM}
theorem R_blame_15 (hc : 0 ≤ eWc S) (H : L2 S h M) : ∀ (n k : Nat), (k : Int) ≤ eWc S → eWc S < n + k → (∀ j, j < k → ¬ bmP S j) → f_X10_blame_15 n (i3 (k : Int)) M = some (i3 (aBm S), M) := by
  obtain ⟨HD, g1, g2, g3⟩ := H
  obtain ⟨⟨a1, a2⟩, b, c, d, e, ⟨w1, w2, w3, w4⟩⟩ := id HD
  have hw2 := a1.2.2.2.2.1.2.1
  have e54 : M.1 0 54 = i3 (eWc S) := by
    rcases w1.1 with ⟨-, e1⟩ | ⟨-, -, e1⟩
    · omega
    · exact e1
  intro n
  induction n with
  | zero => intro k h1 h2; omega
  | succ n ih =>
    intro k h1 h2 h3
    rw [f_X10_blame_15, e54]
    by_cases h4 : eWc S ≤ k
    · rw [if_pos (by rw [i3_le (by omega) (by omega) (by omega) (by omega)]; exact h4)]
      unfold aBm
      rw [if_neg (show ¬ eWc S < 0 by omega), leA_d (fun j hj => h3 j (by omega))]
      rfl
    · rw [if_neg (by rw [i3_le (by omega) (by omega) (by omega) (by omega)]; exact h4)]
      obtain ⟨q, a, e1, e2, e3, e4, e5, -⟩ := a1.2.2.2.2.1.2.2.1 k (by omega)
      have nx : ¬ bmP S k → f_X10_blame_15 n (i3 (k : Int) + 1) M = some (i3 (aBm S), M) := by
        intro hb
        rw [i3_s1]
        refine ih (k + 1) (by omega) (by omega) (fun j hj => ?_)
        by_cases ej : j = k
        · rw [ej]; exact hb
        · exact h3 j (by omega)
      rw [ck_ok (by omega) (by omega) (by omega), tn_n (by omega), w1.2.1 k (by omega), e1, d_safe g2 e2, g_b_some, b_if]
      by_cases h5 : sfR (eR S) (eP S) 0 q
      · rw [if_pos h5, ck_ok (by omega) (by omega) (by omega), ck_ok (by omega) (by omega) (by omega), w1.2.1 k (by omega), e1, (w1.2.2 k (by omega)).1, e4, d_safeBy g1 g2 e2 e5, g_b_some, b_if]
        by_cases h6 : gdP (eR S) (eP S) (sfR (eR S) (eP S) 0) 0 q a
        · rw [if_pos h6]
          refine nx (fun hb => ?_)
          have := hb.2
          rw [e1, e4, Int.toNat_natCast, Int.toNat_natCast] at this
          exact this h6
        · rw [if_neg h6]
          have hb : bmP S k := by
            unfold bmP
            rw [e1, e4, Int.toNat_natCast, Int.toNat_natCast]
            exact ⟨h5, h6⟩
          unfold aBm
          rw [if_neg (show ¬ eWc S < 0 by omega), leA_e (by omega) hb h3]
      · rw [if_neg h5]
        refine nx (fun hb => ?_)
        have := hb.1
        rw [e1, Int.toNat_natCast] at this
        exact h5 this
theorem R_blame (H : DI S h M) : wp (f_X10_blame M) (fun r N => r = i3 (aBm S) ∧ DI S h N) := by
  obtain ⟨⟨a1, a2⟩, b, c, d, e, ⟨w1, w2, w3, w4⟩⟩ := id H
  rw [f_X10_blame]
  rcases w1.1 with ⟨e0, hc⟩ | ⟨e0, hc, e1⟩
  · rw [if_pos e0, wp_some]
    unfold aBm
    rw [if_pos hc]
    exact ⟨rfl, H⟩
  · have hw2 := a1.2.2.2.2.1.2.1
    rw [if_neg (by rw [e0]; decide)]
    refine wp_b _ H.lay (fun _ N hN => ?_)
    rw [show (0 : Int32) = i3 ((0 : Nat) : Int) from rfl, R_blame_15 hc hN FU 0 (by omega) (by rw [FU_s]; omega) (fun j hj => by omega), wp_some]
    exact ⟨rfl, hN.1⟩
/-- a raise keeps all -/
theorem R_raise (H : DI S h M) {k : Nat} : f_X10_raise (i3 (k : Int)) M = some (0, sI M 0 0 (i3 (k : Int))) ∧ DI S h (sI M 0 0 (i3 (k : Int))) ∧ (sI M 0 0 (i3 (k : Int))).1 0 0 = i3 (k : Int) := by
  refine ⟨rfl, H.kp (T := []) (J := [0]) (Fo.rf.o (by decide)) (by decide) (by decide), ?_⟩
  rw [rI_e, up_e]
theorem R_beat (H : DI S h M) {a g : Int} (ha : -2147483648 ≤ a ∧ a < 2147483648) (hg : -2147483648 ≤ g ∧ g < 2147483648) : wp (f_X10_beat (i3 a) (i3 g) M) (fun r N => r = i3 (aBt S a g).2 ∧ N.1 0 0 = i3 ((aBt S a g).1 : Int) ∧ DI (uBz S a g) h N) := by
  have hx := en_x H.1.1
  have hna := H.1.1.1.2.1
  have no : ∀ (N : gM), DI S h N → ¬ bsP S → wp (g_b (f_X10_raise (1 : Int32) N) (fun r M => some (r, M))) (fun r N => r = i3 (aBt S a g).2 ∧ N.1 0 0 = i3 ((aBt S a g).1 : Int) ∧ DI (uBz S a g) h N) := by
    intro N hN hn
    obtain ⟨e1, e2, e3⟩ := R_raise hN (k := 1)
    unfold aBt uBz
    rw [show (1 : Int32) = i3 ((1 : Nat) : Int) from rfl, e1, g_b_some, wp_some, if_neg hn, if_neg (fun g => hn g.1)]
    exact ⟨rfl, e3, e2⟩
  have no2 : ∀ (N : gM), DI S h N → bsP S → ¬ btP S a g → wp (g_b (f_X10_raise (2 : Int32) N) (fun r M => some (r, M))) (fun r N => r = i3 (aBt S a g).2 ∧ N.1 0 0 = i3 ((aBt S a g).1 : Int) ∧ DI (uBz S a g) h N) := by
    intro N hN hn hm
    obtain ⟨e1, e2, e3⟩ := R_raise hN (k := 2)
    unfold aBt uBz
    rw [show (2 : Int32) = i3 ((2 : Nat) : Int) from rfl, e1, g_b_some, wp_some, if_pos hn, if_neg hm, if_neg (fun g => hm g.2)]
    exact ⟨rfl, e3, e2⟩
  obtain ⟨⟨a1, a2⟩, b, c, d, e, ⟨w1, w2, w3, w4⟩⟩ := id H
  rw [f_X10_beat]
  rcases w1.1 with ⟨e0, hc⟩ | ⟨e0, hc, e1⟩
  · rw [if_pos e0, f_X10_beat_21, if_pos e0]
    refine no M H (fun hb => ?_)
    have h0 := hb.1
    unfold eEn at h0
    rw [if_pos hc] at h0
    omega
  · have hw2 := a1.2.2.2.2.1.2.1
    obtain ⟨j, hj⟩ : ∃ j : Nat, eWc S = j := ⟨(eWc S).toNat, by omega⟩
    have eE : eWs S j = eEn S := by
      unfold eEn
      rw [if_neg (by omega), hj, Int.toNat_natCast]
    rw [if_neg (by rw [e0]; decide), e1, hj, ck_ok (by omega) (by omega) (by omega), tn_n (by omega), w1.2.1 j (by omega), eE, f_X10_beat_21, if_neg (by rw [e0]; decide), show ((-2) : Int32) = i3 (-2) from rfl]
    rcases hx with ⟨-, hc'⟩ | ⟨-, -, ex | ⟨q, ex, hqs, hq⟩⟩
    · omega
    · rw [ex, if_pos rfl]
      exact no M H (fun hb => by have := hb.1; omega)
    · rw [ex, if_neg (by rw [i3_eq (by omega) (by omega) (by omega) (by omega)]; omega), d_over a2 hq, g_b_some, b_if]
      refine wp_if (fun h2 => ?_) (fun h2 => ?_)
      · exact no M H (fun hb => hb.2.1 (by rw [ex, Int.toNat_natCast]; exact h2))
      rw [e1, hj]
      refine wp_if (fun h3 => ?_) (fun h3 => ?_)
      · have h3 := i3_c (by omega) (c := 200) (by omega) h3
        exact no M H (fun hb => by have := hb.2.2; omega)
      have h3 : (j : Int) < 200 := by
        have : ¬ (j : Int) = 200 := fun e => h3 (by rw [e]; rfl)
        omega
      have hb : bsP S := ⟨by omega, by rw [ex, Int.toNat_natCast]; exact h2, by omega⟩
      refine wp_b _ H.lay (fun _ N hN => ?_)
      obtain ⟨hN, g1, g2, g3⟩ := hN
      rw [d_isAct hN ha, g_b_some, b_if]
      refine wp_if (fun h4 => ?_) (fun h4 => ?_)
      · obtain ⟨k, rfl⟩ : ∃ b : Nat, a = b := ⟨a.toNat, by omega⟩
        rw [ix_6, ck_ok (by omega) (by omega) (by omega), tn_n (by omega), d_can g1 hqs (by omega)]
        by_cases h5 : caP (eR S) (eP S) q k
        · have hlh := lh_r (p := eP S) (s := q) H.1.1.1
          rw [b_t h5, if_neg (by decide), ck_ok (by omega) (by omega) (by omega), tn_n (by omega), d_lo g1 hqs]
          refine wp_if (fun h6 => ?_) (fun h6 => ?_)
          · rw [i3_lt (by omega) (by omega) (by omega) (by omega)] at h6
            refine no2 N hN hb (fun hm => ?_)
            have := hm.2.2.1
            rw [ex, Int.toNat_natCast] at this
            omega
          rw [i3_lt (by omega) (by omega) (by omega) (by omega)] at h6
          rw [ck_ok (by omega) (by omega) (by omega), d_hi g1 hqs]
          refine wp_if (fun h7 => ?_) (fun h7 => ?_)
          · rw [i3_le (by omega) (by omega) (by omega) (by omega)] at h7
            sorry
          · rw [i3_le (by omega) (by omega) (by omega) (by omega)] at h7
            refine no2 N hN hb (fun hm => ?_)
            have := hm.2.2.2
            rw [ex, Int.toNat_natCast] at this
            omega
        · rw [b_f h5, if_pos (by decide)]
          refine no2 N hN hb (fun hm => h5 ?_)
          have := hm.2.1
          rw [ex, Int.toNat_natCast, Int.toNat_natCast] at this
          exact this
      · exact no2 N hN hb (fun hm => h4 hm.1)
end
