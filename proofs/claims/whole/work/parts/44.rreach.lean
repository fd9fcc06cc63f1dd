/-! ===== the reference's KEEP, REACH, LEAD ===== -/
theorem d_safe {R : tR} {p : Int} {M : gM} (hg : gOk R p M) {s : Nat} (hs : stP R s) : f_X10_isSafe (i3 s) M = some (b_ (sfR R p 0 s), M) := by
  have hs2 := st_lt hs
  rw [f_X10_isSafe]
  simp (disch := omega) only [ck_ok, i3_tn, Int.toNat_natCast, hg s hs2 hs]
  rcases fa_x (p := p) hs with ⟨h1, h2⟩ | ⟨h1, n, h2, h3, -⟩
  · rw [h2, if_pos (show i3 (-2) = ((-2) : Int32) from rfl), b_t h1]
  · rw [h3, i3_m2]
    simp (disch := omega) only [i3_eq]
    rw [if_neg (by omega), b_f h1]
theorem d_safeBy {R : tR} {p : Int} {h s a : Nat} {M : gM} (H : D2 R p h M) (hg : gOk R p M) (hs : stP R s) (hc : caP R p s a) : f_X10_isSafeBy (i3 s) (i3 a) M = some (b_ (gdP R p (sfR R p 0) 0 s a), M) := by
  have hR := H.1.1
  have hs2 := st_lt hs
  have hlh := lh_r (p := p) (s := s) hR
  rw [f_X10_isSafeBy]
  simp (disch := omega) only [ck_ok, i3_tn, Int.toNat_natCast, d_lo H hs, g_v]
  rw [gl_all (F := fun n g => f_X10_isSafeBy_7 n (i3 s) (i3 a) (i3 g) M) (ok := okP R p (sfR R p 0) s a) (lo := loR R p s) (hi := hiR R p s) ?_ FU (loR R p s) (by omega) (by omega) (by rw [FU_s]; omega), gd_i (k := 0) (by omega) (by omega)]
  intro n g h1 h2
  rw [f_X10_isSafeBy_7]
  simp (disch := omega) only [ck_ok, i3_tn, Int.toNat_natCast, d_hi H hs, i3_lt]
  by_cases hx : hiR R p s < g
  · rw [if_pos hx, if_pos hx]
  · rw [if_neg hx, if_neg hx, d_leads H hs hc (by omega), g_b_some]
    rcases nx_q hR p s a g with hq | ⟨q, hq, hq2, hq3⟩
    · rw [hq, if_pos (show i3 (-2) = ((-2) : Int32) from rfl), if_neg (ok_f hq)]
    · rw [hq, i3_m2]
      simp (disch := omega) only [i3_eq]
      rw [if_neg (by omega), d_safe hg hq3, g_b_some]
      simp (disch := omega) only [b_if]
      rw [iL1, i3_add]
      have e : okP R p (sfR R p 0) s a g ↔ sfR R p 0 q := ok_t hq
      by_cases g1 : sfR R p 0 q
      · rw [if_pos g1, if_pos (e.2 g1)]
      · rw [if_neg g1, if_neg (fun h => g1 (e.1 h))]
theorem fa_wf {R : tR} {p : Int} {n q : Nat} (hq : stP R q) : (faR R p q = -2 ∨ (n : Int) ≤ faR R p q) ↔ wfR R p 0 n q := by
  rcases fa_x (p := p) hq with ⟨h1, h2⟩ | ⟨h1, m, h2, h3, h4, h5⟩
  · exact ⟨fun _ => h1 n, fun _ => Or.inl h2⟩
  · rw [h3]
    constructor
    · intro h
      exact wf_le (by omega) h4
    · intro h
      refine Or.inr ?_
      by_cases hmn : m < n
      · exact absurd (wf_le (by omega) h) h5
      · omega
theorem d_keep {R : tR} {p : Int} {h s : Nat} {M : gM} (H : D2 R p h M) (hg : gOk R p M) (hs : stP R s) : f_X10_keepOf (i3 s) M = some (i3 (keR R p s), M) := by
  have hR := H.1.1
  have hna := hR.2.1
  have hs2 := st_lt hs
  have hd : ∀ (n a : Nat), a < rNa R → caP R p s a → f_X10_keepOf_2 (n + 1) (i3 s) (i3 a) M = (if M.1 51 s = 0 then (some (i3 (a : Int), M)) else (g_b (f_X10_isSafe (i3 s) M) (fun r4 M3 => (if r4 then (g_b (f_X10_isSafeBy (i3 s) (i3 a) M3) (fun r8 M7 => (if r8 then (some (i3 (a : Int), M7)) else (f_X10_keepOf_2 n (i3 s) (i3 ((a + 1 : Nat) : Int)) M7)))) else (g_b (f_X10_isKept (i3 s) (i3 a) ((M3.1 51 s) - (1 : Int32)) M3) (fun r6 M5 => (if r6 then (some (i3 (a : Int), M5)) else (f_X10_keepOf_2 n (i3 s) (i3 ((a + 1 : Nat) : Int)) M5)))))))) := by
    intro n a ha hc
    have e1 : (6 * (s : Int) + a).toNat = 6 * s + a := by omega
    rw [f_X10_keepOf_2, d_acts H.1, g_b_some]
    simp (disch := omega) only [i3_le]
    rw [if_neg (by omega), i3_sn]
    simp (disch := omega) only [iL6, i3_mul, i3_add, ck_ok, i3_tn, e1, d_can H hs ha, b2i_0, b_ifn, Int.toNat_natCast]
    rw [if_neg (fun h => h hc)]
  -- what is asked of an ACT
  obtain ⟨G, hG, hke⟩ : ∃ G : Nat → Prop, (∀ (n a : Nat), a < rNa R → caP R p s a → f_X10_keepOf_2 (n + 1) (i3 s) (i3 a) M = @ite _ (G a) (Classical.propDecidable _) (some (i3 (a : Int), M)) (f_X10_keepOf_2 n (i3 s) (i3 ((a + 1 : Nat) : Int)) M)) ∧ keR R p s = leA (fun a => caP R p s a ∧ G a) 6 (-2) := by
    rcases fa_x (p := p) hs with ⟨h1, h2⟩ | ⟨h1, n, h2, h3, h4, h5⟩
    · refine ⟨fun a => gdP R p (sfR R p 0) 0 s a, fun n a ha hc => ?_, ?_⟩
      · rw [hd n a ha hc, hg s hs2 hs, h2, if_neg (by decide), d_safe hg hs, g_b_some, b_t h1, if_pos rfl, d_safeBy H hg hs hc, g_b_some, b_if]
      · unfold keR
        rw [if_pos h2]
    · have e51 := hg s hs2 hs
      rw [h3] at e51
      by_cases hn : n = 0
      · subst hn
        refine ⟨fun _ => True, fun n a ha hc => ?_, ?_⟩
        · rw [hd n a ha hc, if_pos (show M.1 51 s = 0 from e51), if_pos trivial]
        · unfold keR kqR
          rw [if_neg (by omega), h3]
          exact leA_c (fun a _ => ⟨fun h => ⟨h.1, trivial⟩, fun h => ⟨h.1, Or.inl rfl⟩⟩)
      · refine ⟨fun a => gdP R p (wfR R p 0 (n - 1)) 0 s a, fun n2 a ha hc => ?_, ?_⟩
        · have er : (n : Int) - 1 = ((n - 1 : Nat) : Int) := by omega
          have e0 : ¬ M.1 51 s = 0 := by
            rw [e51, iL0, i3_eq (by omega) (by omega) (by omega) (by omega)]
            omega
          rw [hd n2 a ha hc, if_neg e0, d_safe hg hs, g_b_some, b_f h1, if_neg (by decide), e51, iL1, i3_sub, er, d_kept (P := wfR R p 0 (n - 1)) H hs hc.1 (fun q hq hq2 => ?_), g_b_some, b_if]
          · by_cases hq : gdP R p (wfR R p 0 (n - 1)) 0 s a
            · rw [if_pos ⟨hc, hq⟩, if_pos hq]
            · rw [if_neg (fun h => hq h.2), if_neg hq]
          · rw [hg q hq hq2, ← fa_wf hq2]
            rcases fa_x (p := p) hq2 with ⟨g1, g2⟩ | ⟨g1, m, g2, g3, -⟩
            · rw [g2]
              exact ⟨fun _ => Or.inl rfl, fun _ => Or.inl rfl⟩
            · rw [g3, i3_eq (by omega) (by omega) (by omega) (by omega), i3_le (by omega) (by omega) (by omega) (by omega)]
        · unfold keR kqR
          rw [if_neg (by omega), h3, Int.toNat_natCast]
          exact leA_c (fun a _ => ⟨fun h => ⟨h.1, h.2.resolve_left hn⟩, fun h => ⟨h.1, Or.inr h.2⟩⟩)
  rw [hke, f_X10_keepOf]
  have key : ∀ (n a : Nat), a ≤ rNa R → rNa R < n + a → (∀ b : Nat, b < a → ¬ (caP R p s b ∧ G b)) → f_X10_keepOf_2 n (i3 s) (i3 a) M = some (i3 (leA (fun a => caP R p s a ∧ G a) 6 (-2)), M) := by
    intro n
    induction n with
    | zero => intro a h1 h2; omega
    | succ n ih =>
      intro a h1 h2 h3
      have nx : ¬ (caP R p s a ∧ G a) → a < rNa R → f_X10_keepOf_2 n (i3 s) (i3 ((a + 1 : Nat) : Int)) M = some (i3 (leA (fun a => caP R p s a ∧ G a) 6 (-2)), M) := by
        intro hno ha
        refine ih (a + 1) (by omega) (by omega) (fun b hb hq => ?_)
        by_cases hba : b = a
        · subst hba; exact hno hq
        · exact h3 b (by omega) hq
      by_cases hx : (rNa R : Int) ≤ a
      · rw [f_X10_keepOf_2, d_acts H.1, g_b_some]
        simp (disch := omega) only [i3_le]
        rw [if_pos hx, leA_d (fun b hb hq => h3 b (by have := hq.1.1; omega) hq)]
        rfl
      · by_cases hc : caP R p s a
        · rw [hG n a (by omega) hc]
          by_cases hq : G a
          · rw [if_pos hq, leA_e (by omega) ⟨hc, hq⟩ h3]
          · rw [if_neg hq]
            exact nx (fun h => hq h.2) (by omega)
        · have e1 : (6 * (s : Int) + a).toNat = 6 * s + a := by omega
          rw [f_X10_keepOf_2, d_acts H.1, g_b_some]
          simp (disch := omega) only [i3_le]
          rw [if_neg (by omega), i3_sn]
          simp (disch := omega) only [iL6, i3_mul, i3_add, ck_ok, i3_tn, e1, d_can H hs (show a < rNa R by omega), b2i_0, b_ifn, Int.toNat_natCast]
          rw [if_pos hc]
          exact nx (fun h => hc h.1) (by omega)
  exact key FU 0 (by omega) (by rw [FU_s]; omega) (fun b hb => by omega)
