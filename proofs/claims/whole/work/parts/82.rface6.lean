/-! ===== the reference: beat, blame ===== -/
section
variable {S : eT'} {h : Nat} {M N : gM}
theorem R_blame_15 (hc : 0 ≤ eWc S) (H : L2 S h M) : ∀ (n k : Nat), (k : Int) ≤ eWc S → eWc S < n + k → (∀ j, j < k → ¬ bmP S j) → f_X10_blame_15 n (i3 (k : Int)) M = some (i3 (aBm S), M) := by
  obtain ⟨HD, g1, g2, g3⟩ := H
  obtain ⟨⟨a1, a2⟩, b, c, d, e, ⟨w1, w2, w3, w4⟩⟩ := id HD
  have hw2 := a1.2.2.2.2.1.2.1
  have e54 : M.1 0 54 = i3 (eWc S) := by
    rcases w1.1 with ⟨-, e1⟩ | ⟨-, -, e1⟩
    · omega
    · exact e1
  intro n
  induction n with
  | zero => intro k h1 h2; omega
  | succ n ih =>
    intro k h1 h2 h3
    rw [f_X10_blame_15, e54]
    by_cases h4 : eWc S ≤ k
    · rw [if_pos (by rw [i3_le (by omega) (by omega) (by omega) (by omega)]; exact h4)]
      unfold aBm
      rw [if_neg (show ¬ eWc S < 0 by omega), leA_d (fun j hj => h3 j (by omega))]
      rfl
    · rw [if_neg (by rw [i3_le (by omega) (by omega) (by omega) (by omega)]; exact h4)]
      obtain ⟨q, a, e1, e2, e3, e4, e5, -⟩ := a1.2.2.2.2.1.2.2.1 k (by omega)
      have nx : ¬ bmP S k → f_X10_blame_15 n (i3 (k : Int) + 1) M = some (i3 (aBm S), M) := by
        intro hb
        rw [i3_s1]
        refine ih (k + 1) (by omega) (by omega) (fun j hj => ?_)
        by_cases ej : j = k
        · rw [ej]; exact hb
        · exact h3 j (by omega)
      rw [ck_ok (by omega) (by omega) (by omega), tn_n (by omega), w1.2.1 k (by omega), e1, d_safe g2 e2, g_b_some, b_if]
      by_cases h5 : sfR (eR S) (eP S) 0 q
      · rw [if_pos h5, ck_ok (by omega) (by omega) (by omega), ck_ok (by omega) (by omega) (by omega), w1.2.1 k (by omega), e1, (w1.2.2 k (by omega)).1, e4, d_safeBy g1 g2 e2 e5, g_b_some, b_if]
        by_cases h6 : gdP (eR S) (eP S) (sfR (eR S) (eP S) 0) 0 q a
        · rw [if_pos h6]
          refine nx (fun hb => ?_)
          have := hb.2
          rw [e1, e4, Int.toNat_natCast, Int.toNat_natCast] at this
          exact this h6
        · rw [if_neg h6]
          have hb : bmP S k := by
            unfold bmP
            rw [e1, e4, Int.toNat_natCast, Int.toNat_natCast]
            exact ⟨h5, h6⟩
          unfold aBm
          rw [if_neg (show ¬ eWc S < 0 by omega), leA_e (by omega) hb h3]
      · rw [if_neg h5]
        refine nx (fun hb => ?_)
        have := hb.1
        rw [e1, Int.toNat_natCast] at this
        exact h5 this
theorem R_blame (H : DI S h M) : wp (f_X10_blame M) (fun r N => r = i3 (aBm S) ∧ DI S h N) := by
  obtain ⟨⟨a1, a2⟩, b, c, d, e, ⟨w1, w2, w3, w4⟩⟩ := id H
  rw [f_X10_blame]
  rcases w1.1 with ⟨e0, hc⟩ | ⟨e0, hc, e1⟩
  · rw [if_pos e0, wp_some]
    unfold aBm
    rw [if_pos hc]
    exact ⟨rfl, H⟩
  · have hw2 := a1.2.2.2.2.1.2.1
    rw [if_neg (by rw [e0]; decide)]
    refine wp_b _ H.lay (fun _ N hN => ?_)
    rw [show (0 : Int32) = i3 ((0 : Nat) : Int) from rfl, R_blame_15 hc hN FU 0 (by omega) (by rw [FU_s]; omega) (fun j hj => by omega), wp_some]
    exact ⟨rfl, hN.1⟩
/-- a raise keeps all -/
theorem R_raise (H : DI S h M) {k : Nat} : f_X10_raise (i3 (k : Int)) M = some (0, sI M 0 0 (i3 (k : Int))) ∧ DI S h (sI M 0 0 (i3 (k : Int))) ∧ (sI M 0 0 (i3 (k : Int))).1 0 0 = i3 (k : Int) := by
  refine ⟨rfl, H.kp (T := []) (J := [0]) (Fo.rf.o (by decide)) (by decide) (by decide), ?_⟩
  rw [rI_e, up_e]
theorem R_beat (H : DI S h M) {a g : Int} (ha : -2147483648 ≤ a ∧ a < 2147483648) (hg : -2147483648 ≤ g ∧ g < 2147483648) : wp (f_X10_beat (i3 a) (i3 g) M) (fun r N => r = i3 (aBt S a g).2 ∧ N.1 0 0 = i3 ((aBt S a g).1 : Int) ∧ DI (uBz S a g) h N) := by
  have hx := en_x H.1.1
  have hna := H.1.1.1.2.1
  have no : ∀ (N : gM), DI S h N → ¬ bsP S → wp (g_b (f_X10_raise (1 : Int32) N) (fun r M => some (r, M))) (fun r N => r = i3 (aBt S a g).2 ∧ N.1 0 0 = i3 ((aBt S a g).1 : Int) ∧ DI (uBz S a g) h N) := by
    intro N hN hn
    obtain ⟨e1, e2, e3⟩ := R_raise hN (k := 1)
    unfold aBt uBz
    rw [show (1 : Int32) = i3 ((1 : Nat) : Int) from rfl, e1, g_b_some, wp_some, if_neg hn, if_neg (fun g => hn g.1)]
    exact ⟨rfl, e3, e2⟩
  have no2 : ∀ (N : gM), DI S h N → bsP S → ¬ btP S a g → wp (g_b (f_X10_raise (2 : Int32) N) (fun r M => some (r, M))) (fun r N => r = i3 (aBt S a g).2 ∧ N.1 0 0 = i3 ((aBt S a g).1 : Int) ∧ DI (uBz S a g) h N) := by
    intro N hN hn hm
    obtain ⟨e1, e2, e3⟩ := R_raise hN (k := 2)
    unfold aBt uBz
    rw [show (2 : Int32) = i3 ((2 : Nat) : Int) from rfl, e1, g_b_some, wp_some, if_pos hn, if_neg hm, if_neg (fun g => hm g.2)]
    exact ⟨rfl, e3, e2⟩
  obtain ⟨⟨a1, a2⟩, b, c, d, e, ⟨w1, w2, w3, w4⟩⟩ := id H
  rw [f_X10_beat]
  rcases w1.1 with ⟨e0, hc⟩ | ⟨e0, hc, e1⟩
  · rw [if_pos e0, f_X10_beat_21, if_pos e0]
    refine no M H (fun hb => ?_)
    have h0 := hb.1
    unfold eEn at h0
    rw [if_pos hc] at h0
    omega
  · have hw2 := a1.2.2.2.2.1.2.1
    obtain ⟨j, hj⟩ : ∃ j : Nat, eWc S = j := ⟨(eWc S).toNat, by omega⟩
    have eE : eWs S j = eEn S := by
      unfold eEn
      rw [if_neg (by omega), hj, Int.toNat_natCast]
    rw [if_neg (by rw [e0]; decide), e1, hj, ck_ok (by omega) (by omega) (by omega), tn_n (by omega), w1.2.1 j (by omega), eE, f_X10_beat_21, if_neg (by rw [e0]; decide), show ((-2) : Int32) = i3 (-2) from rfl]
    rcases hx with ⟨-, hc'⟩ | ⟨-, -, ex | ⟨q, ex, hqs, hq⟩⟩
    · omega
    · rw [ex, if_pos rfl]
      exact no M H (fun hb => by have := hb.1; omega)
    · rw [ex, if_neg (by rw [i3_eq (by omega) (by omega) (by omega) (by omega)]; omega), d_over a2 hq, g_b_some, b_if]
      refine wp_if (fun h2 => ?_) (fun h2 => ?_)
      · exact no M H (fun hb => hb.2.1 (by rw [ex, Int.toNat_natCast]; exact h2))
      rw [e1, hj]
      refine wp_if (fun h3 => ?_) (fun h3 => ?_)
      · have h3 := i3_c (by omega) (c := 200) (by omega) h3
        exact no M H (fun hb => by have := hb.2.2; omega)
      have h3 : (j : Int) < 200 := by
        have : ¬ (j : Int) = 200 := fun e => h3 (by rw [e]; rfl)
        omega
      have hb : bsP S := ⟨by omega, by rw [ex, Int.toNat_natCast]; exact h2, by omega⟩
      refine wp_b _ H.lay (fun _ N hN => ?_)
      obtain ⟨hN, g1, g2, g3⟩ := hN
      rw [d_isAct hN ha, g_b_some, b_if]
      refine wp_if (fun h4 => ?_) (fun h4 => ?_)
      · obtain ⟨k, rfl⟩ : ∃ b : Nat, a = b := ⟨a.toNat, by omega⟩
        rw [ix_6, ck_ok (by omega) (by omega) (by omega), tn_n (by omega), d_can g1 hqs (by omega)]
        by_cases h5 : caP (eR S) (eP S) q k
        · have hlh := lh_r (p := eP S) (s := q) H.1.1.1
          rw [b_t h5, if_neg (by decide), ck_ok (by omega) (by omega) (by omega), tn_n (by omega), d_lo g1 hqs]
          refine wp_if (fun h6 => ?_) (fun h6 => ?_)
          · rw [i3_lt (by omega) (by omega) (by omega) (by omega)] at h6
            refine no2 N hN hb (fun hm => ?_)
            have := hm.2.2.1
            rw [ex, Int.toNat_natCast] at this
            omega
          rw [i3_lt (by omega) (by omega) (by omega) (by omega)] at h6
          rw [ck_ok (by omega) (by omega) (by omega), d_hi g1 hqs]
          refine wp_if (fun h7 => ?_) (fun h7 => ?_)
          · rw [i3_le (by omega) (by omega) (by omega) (by omega)] at h7
            have hm : btP S k g := ⟨h4, by rw [ex, Int.toNat_natCast, Int.toNat_natCast]; exact h5, by rw [ex, Int.toNat_natCast]; omega, by rw [ex, Int.toNat_natCast]; exact h7⟩
            have eN : btN S k g = nxR (eR S) (eP S) q k g := by unfold btN; rw [ex, Int.toNat_natCast, Int.toNat_natCast]
            obtain ⟨⟨b1, b2⟩, b3, b4, b5, b6, ⟨v1, v2, v3, v4⟩⟩ := id hN
            have e54 : N.1 0 54 = i3 (j : Int) := by
              rcases v1.1 with ⟨-, e'⟩ | ⟨-, -, e'⟩
              · omega
              · rw [e', hj]
            have e53 : N.1 0 53 = 1 := by
              rcases v1.1 with ⟨-, e'⟩ | ⟨e', -⟩
              · omega
              · exact e'
            have c1 : (sI N 0 0 0).1 0 54 = i3 (j : Int) := by rw [rI_e, up_n (by decide), e54]
            have c2 : (sI (sI N 0 0 0) 42 j (i3 (k : Int))).1 0 54 = i3 (j : Int) := by rw [rI_n (by decide), c1]
            have c3 : (sI (sI (sI N 0 0 0) 42 j (i3 (k : Int))) 43 j (i3 g)).1 0 54 = i3 (j : Int) := by rw [rI_n (by decide), c2]
            rw [wp_m, c1, ck_ok (by omega) (by omega) (by omega), tn_n (by omega), wp_m, c2, ck_ok (by omega) (by omega) (by omega), tn_n (by omega), wp_m, wp_m, c3, i3_s1, show (j : Int) + 1 = ((j + 1 : Nat) : Int) by omega]
            generalize eM : sI (sI (sI (sI N 0 0 0) 42 j (i3 (k : Int))) 43 j (i3 g)) 0 54 (i3 ((j + 1 : Nat) : Int)) = M4
            have f4 : Fo [42, 43] [0, 54] N M4 := by
              rw [← eM]
              exact (((Fo.rf.o (by decide)).i (by decide) (by decide)).i (by decide) (by decide)).o (by decide)
            have d54 : M4.1 0 54 = i3 ((j + 1 : Nat) : Int) := by rw [← eM, rI_e, up_e]
            have d0 : M4.1 0 0 = 0 := by rw [← eM, rI_e, up_n (by decide), rI_n (by decide), rI_n (by decide), rI_e, up_e]
            have d42 : M4.1 42 = upd (N.1 42) j (i3 (k : Int)) := by rw [← eM, rI_n (by decide), rI_n (by decide), rI_e, rI_n (by decide)]
            have d43 : M4.1 43 = upd (N.1 43) j (i3 g) := by rw [← eM, rI_n (by decide), rI_e, rI_n (by decide), rI_n (by decide)]
            rw [d_leads (g1.mv f4 (by decide) (by decide)) hqs h5 (by omega), g_b_some, d54, ck_ok (by omega) (by omega) (by omega), tn_n (by omega), wp_m, rI_n (show (0 : Nat) ≠ 41 by decide), d54, ck_ok (by omega) (by omega) (by omega), tn_n (by omega), wp_some]
            unfold aBt uBz
            rw [if_pos hb, if_pos hm, if_pos ⟨hb, hm⟩, ← eN]
            have f : Fo [41, 42, 43] [0, 54] N (sI M4 41 (j + 1) (i3 (btN S k g))) := (f4.up (by decide) (by decide)).i (by decide) (by decide)
            refine ⟨by rw [rI_e, up_e], by rw [rI_n (by decide), d0]; rfl, ⟨ok_Bt b1 hb hm, b2.mv f (by decide) (by decide)⟩, h2_f b3 f (by decide) (by decide), h3_f b4 f (by decide) (by decide), h4_f b5 f (by decide) (by decide), b6.mv f (by decide) (by decide), ⟨⟨Or.inr ⟨?_, ?_, ?_⟩, fun i hi => ?_, fun i hi => ?_⟩, ?_, ?_, by rw [f.e0 (by decide)]; exact v4⟩⟩
            · rw [f.e0 (by decide), e53]
            · show 0 ≤ eWc S + 1
              omega
            · rw [rI_n (by decide), d54]
              show _ = i3 (eWc S + 1)
              rw [hj]
              rfl
            · have hi : (i : Int) ≤ eWc S + 1 := hi
              rw [rI_e, f4.e1 (by decide) (by decide)]
              show _ = i3 (if (i : Int) = eWc S + 1 then btN S k g else eWs S i)
              by_cases ei : i = j + 1
              · rw [if_pos (by omega), ei, up_e]
              · rw [if_neg (by omega), up_n ei]
                exact v1.2.1 i (by omega)
            · have hi : (i : Int) < eWc S + 1 := hi
              rw [rI_n (by decide), rI_n (by decide), d42, d43]
              show _ = i3 (if (i : Int) = eWc S then (k : Int) else eWa S i) ∧ _ = i3 (if (i : Int) = eWc S then g else eWg S i)
              by_cases ei : i = j
              · rw [if_pos (by omega), if_pos (by omega), ei, up_e, up_e]
                exact ⟨rfl, rfl⟩
              · rw [if_neg (by omega), if_neg (by omega), up_n ei, up_n ei]
                exact v1.2.2 i (by omega)
            · unfold slJ
              rw [f.e1 (by decide) (by decide)]
              exact v2
            · unfold tpJ
              rw [f.e0 (by decide), f.e1 (by decide) (by decide)]
              exact v3
          · rw [i3_le (by omega) (by omega) (by omega) (by omega)] at h7
            refine no2 N hN hb (fun hm => ?_)
            have := hm.2.2.2
            rw [ex, Int.toNat_natCast] at this
            omega
        · rw [b_f h5, if_pos (by decide)]
          refine no2 N hN hb (fun hm => h5 ?_)
          have := hm.2.1
          rw [ex, Int.toNat_natCast, Int.toNat_natCast] at this
          exact this
      · exact no2 N hN hb (fun hm => h4 hm.1)
end
