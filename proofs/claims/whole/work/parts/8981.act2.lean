section
variable {tb : Nat → Nat} {n t h sz cc lc i i0 : Nat} {M M0 N N0 : gM} {D : dT} {q q1 q2 : Nat × Nat}
/-- behind the name of an ACT -/
theorem T_act58 {nm : Int64} {y4 : Nat} (H : PX tb n t h D sz cc lc q q i M N) (hq : qOk tb n i q) (p1 : PF1 t M0 M) (p2 : PF2 h N0 N) (b1 : sz ≤ i) (b2 : cc ≤ i) (b3 : 3 * lc ≤ i) (hB : q.1 = 0 → dB D) (hna : dNa D < 6) (hi0 : i0 ≤ i) (hy4 : y4 ≤ 400) (hnm : N.2.1 5 y4 = nm) : w2 (g_b (f_X1_takeSigned ((-9) : Int32) (9 : Int32) M) (fun r11 M10 => (if r11 then (g_v (M10.1 21 5) (fun y12 => (g_b (f_X1_takeSigned ((-1) : Int32) (1 : Int32) M10) (fun r14 M13 => (if r14 then (g_v (M13.1 21 5) (fun y15 => (g_or 3 12 (M13.2.2 21 6) (fun t16 => (g_v (M13.1 t16 8) (fun y17 => (g_b (f_X1_kind M13) (fun r19 M18 => (if r19 = (12 : Int32) then (g_b (f_X1_step M18) (fun r21 M20 => (if r21 then (g_b (f_X1_condition M20) (fun r23 M22 => (if r23 then (f_X1_tellAct_142 nm y12 y15 y17 M22) else (some (false, M22))))) else (some (false, M20))))) else (f_X1_tellAct_142 nm y12 y15 ((-1) : Int32) M18)))))))))) else (some (false, M13))))))) else (some (false, M10))))) (g_b (f_X10_tellAct_81 (i3 ((6 * h + dNa D : Nat) : Int)) (i3 (y4 : Int)) N) (fun r3 M2 => if r3 then pE2 M2 else some (false, M2))) (tQ tb n t h i0 M0 N0) := by
  have hh := H.2.1.1
  have ht := H.1.1
  rw [f_X10_tellAct_81, ck_ok (by omega) (by omega) (by omega), g_v, tn_n (s := y4) (by omega), hnm, g_i2, show f_X1_takeSigned ((-9) : Int32) (9 : Int32) M = f_X1_takeSigned (i3 (-9)) (i3 9) M from rfl, show f_X10_takesSigned (9 : Int32) N = f_X10_takesSigned (i3 9) N from rfl]
  refine p_sgn H hq p1 p2 (by omega) (by omega) (fun j v s M2 N2 a1 a2 a3 ax aq a4 a5 a6 a7 a8 a9 p3 p4 a10 a11 a12 => ?_)
  rw [nt_q (b := decide (9 < v ∨ s < -9)) (b' := decide (9 < v)) (by rw [decide_eq_decide]; omega)] at a9
  have hq2 := aq.nt (b := decide (9 < v)) (f := 5) ax (by omega) (by omega)
  generalize hqq : ntM (decide (9 < v)) 5 (stT tb n j) q = qa at a9 hq2
  have hB2 : qa.1 = 0 → dB D ∧ -9 ≤ s ∧ s ≤ 9 := fun g => by
    rw [← hqq] at g
    obtain ⟨g1, g2⟩ := nt_0 (by omega) g
    have g1 := of_decide_eq_false g1
    exact ⟨hB g2, by omega, by omega⟩
  rw [w2_vl, a7, ck_ok (by omega) (by omega) (by omega), g_m, tn_n (by omega), a8, g_i2]
  have H3 := a9.nw (k := 13) (j := 6 * h + dNa D) (x := i3 s) (Or.inl ⟨by omega, by omega, rfl⟩)
  have p5 : PF2 h N0 (sI N2 13 (6 * h + dNa D) (i3 s)) := p4.w (by omega) (by unfold inH; omega)
  have e13 : (sI N2 13 (6 * h + dNa D) (i3 s)).1 13 (6 * h + dNa D) = i3 s := by rw [rI_e, up_e]
  generalize sI N2 13 (6 * h + dNa D) (i3 s) = N3 at H3 p5 e13 ⊢
  rw [show f_X1_takeSigned ((-1) : Int32) (1 : Int32) M2 = f_X1_takeSigned (i3 (-1)) (i3 1) M2 from rfl, show f_X10_takesSigned (1 : Int32) N3 = f_X10_takesSigned (i3 1) N3 from rfl]
  refine p_sgn H3 hq2 p3 p5 (by omega) (by omega) (fun j2 v2 s2 M4 N4 c1 c2 c3 cx cq c4 c5 c6 c7 c8 c9 p6 p7 c10 c11 c12 => ?_)
  rw [nt_q (b := decide (1 < v2 ∨ s2 < -1)) (b' := decide (1 < v2)) (by rw [decide_eq_decide]; omega)] at c9
  have hq3 := cq.nt (b := decide (1 < v2)) (f := 5) cx (by omega) (by omega)
  generalize hqq2 : ntM (decide (1 < v2)) 5 (stT tb n j2) qa = qb at c9 hq3
  have hB3 : qb.1 = 0 → dB D ∧ -9 ≤ s ∧ s ≤ 9 ∧ -1 ≤ s2 ∧ s2 ≤ 1 := fun g => by
    rw [← hqq2] at g
    obtain ⟨g1, g2⟩ := nt_0 (by omega) g
    have g1 := of_decide_eq_false g1
    have := hB2 g2
    exact ⟨this.1, this.2.1, this.2.2, by omega, by omega⟩
  rw [w2_vl, c7, ck_ok (by omega) (by omega) (by omega), g_m, c8, g_i2]
  have H5 := c9.nw (k := 14) (j := 6 * h + dNa D) (x := i3 s2) (Or.inl ⟨by omega, by omega, rfl⟩)
  have p8 : PF2 h N0 (sI N4 14 (6 * h + dNa D) (i3 s2)) := p7.w (by omega) (by unfold inH; omega)
  have e14 : (sI N4 14 (6 * h + dNa D) (i3 s2)).1 14 (6 * h + dNa D) = i3 s2 := by rw [rI_e, up_e]
  have e13' : (sI N4 14 (6 * h + dNa D) (i3 s2)).1 13 (6 * h + dNa D) = i3 s := by rw [rI_n (by decide), c10 13 (by decide), e13]
  generalize sI N4 14 (6 * h + dNa D) (i3 s2) = N5 at H5 p8 e14 e13' ⊢
  refine p_may (KA := fun w M => f_X1_tellAct_142 nm (i3 s) (i3 s2) w M) H5 hq3 p6 p8 (by omega) (by omega) (by omega) (fun i' sz' cc' lc' w L M6 N6 d1 d2 d3 d4 d5 d6 d7 p9 p10 d8 d9 d10 => ?_)
  have := T_act142 (i0 := i0) (nm := nm) (pu := s) (st := s2) d3 d2 p9 p10 d4 d5 d6 (by omega) hna d7 (by rw [d8 13 (by omega) (by omega)]; exact e13') (by rw [d8 14 (by omega) (by omega)]; exact e14) hB3
  rw [tn_n (by omega)] at this
  exact this
theorem T_act (hR : PR tb n t h i D M N) (hk : kdT tb n i = 9) : w2 (f_X1_tellAct M) (g_b (f_X10_tellAct N) (fun r3 M2 => if r3 then pE2 M2 else some (false, M2))) (tQ tb n t h i M N) := by
  obtain ⟨sz, cc, lc, q, H, ⟨b1, b2, b3⟩, hq, hB⟩ := hR
  have hh := H.2.1.1
  have ht := H.1.1
  have hn5 := H.2.2.2.1.2.1.1.1
  have hn11 := H.2.2.2.1.2.1.2.1.1
  have hn6 := H.2.2.2.1.2.1.2.2.1
  rw [f_X1_tellAct, H.1.or, hn5, f_X10_tellAct, H.2.1.ck, H.2.1.tn, hn11, iL6]
  by_cases e6 : dNa D = 6
  · rw [if_neg (by rw [i3_lt (by omega) (by omega) (by omega) (by omega)]; omega), if_pos (by rw [i3_eq (by omega) (by omega) (by omega) (by omega)]; omega), show (2 : Int32) = i3 ((2 : Nat) : Int) from rfl, H.1.fail, g_b_some, H.2.1.wrong, g_b_some, g_b_some, if_neg nFT, w2_s]
    exact t_f (Or.inr rfl) H.1 PF1.rf PF2.rf
  rw [if_pos (by rw [i3_lt (by omega) (by omega) (by omega) (by omega)]; omega), if_neg (by rw [i3_eq (by omega) (by omega) (by omega) (by omega)]; omega), g_i2]
  refine p_step H PF1.rf PF2.rf (by omega) (fun M1 N1 hi H1 p1 p2 _ _ _ _ _ => ?_)
  have hq1 : qOk tb n (i + 1) q := hq.s H.1.2.1 (by omega)
  have hq6 : q.1 < 6 := by have := hq1.1; omega
  obtain ⟨h1, h2, h3, h4, h5, h6⟩ := id H1
  have hr := h1.2.1.r.1
  have hn11' := h4.2.1.2.1.1
  rw [h1.value, g_b_some, h1.kind, g_b_some, h2.ck, g_v, h2.tn, hn11', h2.2.2.2.1, i3_mul, i3_add, show 6 * (h : Int) + (dNa D : Int) = ((6 * h + dNa D : Nat) : Int) by omega, g_v, h2.2.2.2.2.1, show (0 : Int32) = i3 ((0 : Nat) : Int) from rfl, h2.takes (by omega)]
  have ks := ks_17 (kdT tb n (i + 1)) (by omega)
  by_cases k17 : kdT tb n (i + 1) = 17
  · rw [if_pos (ks.2 k17), if_pos (show i3 ((kdT tb n (i + 1) : Nat) : Int) = 17 by rw [k17]; rfl), h1.or, c_named h4, g_b_some]
    have hcv := (h1.2.2.1 (i + 1) (by omega) (by omega) h1.2.1.2.2.2).2.2 (by omega)
    have hdv := (h2.2.2.1 (i + 1) (by omega) (by omega) h2.2.1.2.2.2).2.2.2.2 (by omega)
    rw [hcv]
    have hfa := leA_r (P := fun a => dNm D a = i6 (vlT tb n (i + 1))) (k := dNa D)
    generalize hgf : leA (fun a => dNm D a = i6 (vlT tb n (i + 1))) (dNa D) (-1) = fa at hfa ⊢
    -- the class may note the name
    have hc : ∃ M3, (if i3 fa = -1 then f_X1_tellAct_58 (i6 (vlT tb n (i + 1))) M1 else g_b (f_X1_note 3 M1) (fun _ M32 => f_X1_tellAct_58 (i6 (vlT tb n (i + 1))) M32)) = f_X1_tellAct_58 (i6 (vlT tb n (i + 1))) M3 ∧ cM (ntM (decide (fa ≠ -1)) 3 (stT tb n (i + 1)) q) M3 ∧ (∀ k, k ≠ 21 → M3.1 k = M1.1 k) ∧ M3.2 = M1.2 ∧ CH tb n t (i + 1) M3 := by
      by_cases e : fa = -1
      · rw [if_pos (by rw [e]; rfl), decide_eq_false (by omega), nt_f]
        exact ⟨M1, rfl, h5, fun _ _ => rfl, rfl, h1⟩
      · obtain ⟨M3, a1, a2, a3, a4, a5⟩ := h1.note h5 hq6 (f := 3)
        rw [if_neg (by rw [show ((-1) : Int32) = i3 (-1) from rfl, i3_eq (by omega) (by omega) (by omega) (by omega)]; exact e), show (3 : Int32) = i3 ((3 : Nat) : Int) from rfl, a1, g_b_some, decide_eq_true e]
        exact ⟨M3, rfl, a2, a3, a4, h1.mv (a3 24 (by decide)) (a3 25 (by decide)) a4 (a5 4 (by decide) (by decide)) (a5 1 (by decide) (by decide))⟩
    obtain ⟨M3, e1, e2, e3, e4, e5⟩ := hc
    rw [e1, f_X1_tellAct_58, show (17 : Int32) = i3 ((17 : Nat) : Int) from rfl, e5.take (by omega), if_pos k17]
    by_cases hi1 : i + 1 < 400
    · rw [e5.step hi1, g_b_some, if_pos tTT, h2.pass hi1, g_b_some, if_pos tTT, ck_ok (by omega) (by omega) (by omega), tn_n (by omega)]
      have h2' := h2.nx hi1 (by omega)
      have hX5 : PX tb n t h D sz cc lc (ntM (decide (fa ≠ -1)) 3 (stT tb n (i + 1)) q) q (i + 1 + 1) (sI M3 21 4 (i3 ((i + 1 + 1 : Nat) : Int))) (sI N1 0 8 (i3 ((i + 1 + 1 : Nat) : Int))) := H1.mv (e5.nx hi1 (by omega)) h2' (e2.mv (by rw [rI_e, up_n (by decide)]) (by rw [rI_e, up_n (by decide)])) (h6.mv (by rw [rI_e, up_n (by decide)]) (by rw [rI_e, up_n (by decide)])) (fun k hk => by rw [rI_n hk, e3 k hk]) (by show M3.2.1 = M1.2.1; rw [e4]) (fun k k1 k2 => by rw [rI_n (by omega)]) rfl
      have hnm : (sI N1 0 8 (i3 ((i + 1 + 1 : Nat) : Int))).2.1 5 (i + 1) = i6 (vlT tb n (i + 1)) := hdv
      rw [hnm, r_actOf h2' hX5.2.2.2.1, hgf, g_b_some]
      have hr' : ∃ N6, (if i3 fa < i3 ((0 : Nat) : Int) then f_X10_tellAct_81 (i3 ((6 * h + dNa D : Nat) : Int)) (i3 ((i + 1 : Nat) : Int)) (sI N1 0 8 (i3 ((i + 1 + 1 : Nat) : Int))) else g_b (f_X10_tells 3 (i3 ((i + 1 : Nat) : Int)) (sI N1 0 8 (i3 ((i + 1 + 1 : Nat) : Int)))) (fun _ M22 => f_X10_tellAct_81 (i3 ((6 * h + dNa D : Nat) : Int)) (i3 ((i + 1 : Nat) : Int)) M22)) = f_X10_tellAct_81 (i3 ((6 * h + dNa D : Nat) : Int)) (i3 ((i + 1 : Nat) : Int)) N6 ∧ rM (ntM (decide (fa ≠ -1)) 3 (stT tb n (i + 1)) q) N6 ∧ (∀ k, k ≠ 0 → N6.1 k = N1.1 k) ∧ N6.2 = N1.2 ∧ DH tb n h (i + 1 + 1) N6 ∧ PF2 h N N6 := by
        by_cases e : fa = -1
        · rw [if_pos (by rw [e]; decide), decide_eq_false (by omega), nt_f]
          exact ⟨_, rfl, hX5.2.2.2.2.2, fun k hk => by rw [rI_n hk], rfl, h2', p2.o (by unfold fR; omega)⟩
        · obtain ⟨N6, a1, a2, a3, a4, a5⟩ := r_tells (f := 3) h2'.2.2.1 h2.2.1 hX5.2.2.2.2.2 hq6 (by omega) (fun g => Or.inl (hq1.2 g))
          rw [if_neg (by rw [i3_lt (by omega) (by omega) (by omega) (by omega)]; omega), show (3 : Int32) = i3 ((3 : Nat) : Int) from rfl, a1, g_b_some, decide_eq_true e]
          refine ⟨N6, rfl, a2, fun k hk => by rw [a3 k hk, rI_n hk], a4, h2'.mv (a3 2 (by decide)) (a3 3 (by decide)) (a3 4 (by decide)) a4 (a5 14 (by decide) (by decide)) (a5 8 (by decide) (by decide)) (a5 9 (by decide) (by decide)), ?_⟩
          exact PF2.c (p2.o (j := 8) (x := i3 ((i + 1 + 1 : Nat) : Int)) (by unfold fR; omega)) a3 a4 (fun j hj => a5 j (by unfold fR at hj; omega) (by unfold fR at hj; omega))
      obtain ⟨N6, r1, r2, r3, r4, r5, r6⟩ := hr'
      rw [r1]
      have hX6 : PX tb n t h D sz cc lc (ntM (decide (fa ≠ -1)) 3 (stT tb n (i + 1)) q) (ntM (decide (fa ≠ -1)) 3 (stT tb n (i + 1)) q) (i + 1 + 1) (sI M3 21 4 (i3 ((i + 1 + 1 : Nat) : Int))) N6 := H1.mv (e5.nx hi1 (by omega)) r5 (e2.mv (by rw [rI_e, up_n (by decide)]) (by rw [rI_e, up_n (by decide)])) r2 (fun k hk => by rw [rI_n hk, e3 k hk]) (by show M3.2.1 = M1.2.1; rw [e4]) (fun k k1 k2 => r3 k (by omega)) (by rw [r4])
      exact T_act58 hX6 (hq1.nt h1.2.1 (by omega) (by omega)) ((p1.c e3 e4).o) r6 (by omega) (by omega) (by omega) (fun g => hB (nt_0 (by omega) g).2) (by omega) (by omega) (by omega) (by rw [r4]; exact hdv)
    · rw [e5.stepF hi1, g_b_some, if_neg nFT, h2.passF hi1, g_b_some, if_neg nFT, g_b_some, if_neg nFT, w2_s]
      exact t_f (Or.inr rfl) e5 (p1.c e3 e4) p2
  · rw [if_neg (fun g => k17 (ks.1 g)), if_neg (show ¬ i3 ((kdT tb n (i + 1) : Nat) : Int) = 17 by rw [show (17 : Int32) = i3 17 from rfl, i3_eq (by omega) (by omega) (by omega) (by omega)]; omega), f_X1_tellAct_58, show (17 : Int32) = i3 ((17 : Nat) : Int) from rfl, h1.take (by omega), if_neg k17, g_b_some, if_neg nFT, g_b_some, if_neg nFT, g_b_some, if_neg nFT, w2_s]
    exact t_f (Or.inl rfl) h1 p1 p2
end
