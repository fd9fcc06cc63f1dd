/-! ===== a text is read, on both sides ===== -/
def uRf (S : eT') (p : Int) : eT' := (S.1, S.2.1, S.2.2.1, S.2.2.2.1, S.2.2.2.2.1, (0, eTb S), p)
def uRd (S : eT') (R : tR) : eT' := ((R, 1), (eFc S, 0), (0, eLs S), (-1, eWs S, eWa S, eWg S), eSl S, (0, eTb S), -1)
theorem ok_Rf {S : eT'} (h : sOk S) {p : Int} (hp : -1 ≤ p ∧ p ≤ 2000) : sOk (uRf S p) := by
  obtain ⟨o1, o2, o3, o4, o5, o6, o7, o8⟩ := h
  exact ⟨o1, o2, o3, o4, o5, o6, ⟨Nat.zero_le _, fun i hi => absurd hi (Nat.not_lt_zero _)⟩, hp⟩
theorem ok_Rd {S : eT'} (h : sOk S) {R : tR} (hR : tOk R) : sOk (uRd S R) := by
  obtain ⟨o1, o2, o3, o4, o5, o6, o7, o8⟩ := h
  exact ⟨hR, (by show (1 : Int) ≤ 1 ∧ (1 : Int) ≤ 4; decide), ⟨Nat.zero_le _, fun i hi => absurd hi (Nat.not_lt_zero _)⟩, ⟨Nat.zero_le _, fun i hi => absurd hi (Nat.not_lt_zero _), fun i j hi => absurd hi (Nat.not_lt_zero _)⟩, ⟨Int.le_refl _, (by show (-1 : Int) ≤ 200; decide), fun i hi => (by have hi : (i : Int) < -1 := hi; omega), fun hi => (by have hi : (0 : Int) ≤ -1 := hi; omega)⟩, o6, ⟨Nat.zero_le _, fun i hi => absurd hi (Nat.not_lt_zero _)⟩, (by show (-1 : Int) ≤ -1 ∧ (-1 : Int) ≤ 2000; decide)⟩
theorem FrT.l {t : Nat} (ht : t = 3 ∨ t = 12) {M M' : gM} (h : FrT t M M') : ∃ T : List Nat, Fr T M M' ∧ ∀ k ∈ T, (21 ≤ k ∧ k ≤ 26) ∨ (t ≤ k ∧ k ≤ t + 8) := by
  refine ⟨[21, 22, 23, 24, 25, 26, t, t + 1, t + 2, t + 3, t + 4, t + 5, t + 6, t + 7, t + 8], fun k hk => ?_, fun k hk => ?_⟩
  · simp at hk
    exact h k (by omega) (by omega)
  · simp at hk
    omega
theorem FrT.pf {t : Nat} {M M1 M2 : gM} (h : FrT t M M1) (p : PF1 t M1 M2) : FrT t M M2 := fun k k1 k2 => ⟨by rw [(p.1 k (by omega) (by omega) k2).1, (h k k1 k2).1], by rw [(p.1 k (by omega) (by omega) k2).2, (h k k1 k2).2.1], by rw [p.2, (h k k1 k2).2.2]⟩
section
variable {S : eT'} {t st mt h : Nat} {M N : gM}
theorem K_td (h : CI S t st mt M) : (15 - t = 3 ∨ 15 - t = 12) ∧ (t = 3 ∨ t = 12) := by
  have := h.1.2.1.1.2.2.1
  omega
theorem K_rdK (h : CI S t st mt M) {M5 : gM} (f : FrT (15 - t) M M5) : CI S t st mt M5 := by
  obtain ⟨h1, h2⟩ := K_td h
  obtain ⟨T, fT, hT⟩ := f.l h1
  exact h.kp (h.1.2.1.mx fT (fun k hk => by have := hT k hk; omega)) fT (fun k hk => by have := hT k hk; omega)
theorem K_rdF (h : CI S t st mt M) {p : Int} (hp : -1 ≤ p ∧ p ≤ 2000) : CI (uRf S p) t st mt (sI (sI M 0 1 0) 0 2 (i3 p)) := by
  have f : Fr [0, 1, 2] M (sI (sI M 0 1 0) 0 2 (i3 p)) := (Fr.rf.i (by decide)).i (by decide)
  obtain ⟨⟨a1, a2, a3, a4, a5⟩, ⟨b1, b2, b3, b4⟩, ⟨c1, c2⟩, ⟨d1, d2, d3⟩, ⟨w1, w2, w3, w4⟩⟩ := id h
  refine ⟨⟨ok_Rf a1 hp, a2.m2 f, a3, a4, by rw [rI_e, up_n (by decide), rI_e, up_n (by decide)]; exact a5⟩, ⟨b1.c (by rw [f.e1 (by decide)]) (f.e1 (by decide)) (f.e1 (by decide)), b2.c (by rw [f.e1 (by decide)]) (f.e1 (by decide)) (f.e1 (by decide)), b3.c (by rw [f.e1 (by decide)]) (f.e1 (by decide)), b4.c (by rw [f.e1 (by decide)]) (f.e1 (by decide))⟩, ⟨c1.c (by rw [f.e1 (by decide)]) (f.e1 (by decide)) (f.e1 (by decide)), c2.c (by rw [f.e1 (by decide)]) (by rw [f.e1 (by decide)]) (by rw [f.e1 (by decide)]) (by rw [f.e1 (by decide)]) (f.e1 (by decide)) (f.e1 (by decide)) (f.e1 (by decide)) (f.e1 (by decide))⟩, ⟨d1.c (by rw [f.e1 (by decide)]) (f.e1 (by decide)), d2.c (by rw [f.e1 (by decide)]) (by rw [f.e1 (by decide)]) (f.e1 (by decide)), d3.c (by rw [f.e1 (by decide)]) (f.e1 (by decide))⟩, ⟨w1.c (f.e1 (by decide)) (f.e1 (by decide)) (f.e1 (by decide)) (f.e1 (by decide)), ?_, ⟨by rw [rI_e, up_n (by decide), rI_e, up_e]; rfl, fun i hi => absurd hi (Nat.not_lt_zero _)⟩, by rw [rI_e, up_e]; rfl⟩⟩
  exact w2.c (by rw [rI_n (by decide), rI_n (by decide)])
theorem K_rdS (hc : CI S t st mt M) (hst : st + 1 < 65536) {R : tR} (hR : tOk R) (hr : Rp1 M (15 - t) R) (hpl : M.1 21 0 = -1) : wp (g_m (sI M 0 1 (0 : Int32)) (fun M4 => (g_m (sI M4 0 2 (M4.1 21 0)) (fun M5 => (g_or 3 12 (M5.2.2 0 4) (fun t6 => (g_or 3 12 (M5.2.2 0 5) (fun t7 => (g_m (sR M5 0 4 t7) (fun M8 => (g_m (sR M8 0 5 t6) (fun M9 => (g_b (f_X6_dropForecasts M9) (fun r11 M10 => (g_b (f_X5_dropText M10) (fun r13 M12 => (g_b (f_X9_settle (1 : Int32) M12) (fun r15 M14 => (some ((0 : Int32), M14)))))))))))))))))))) (fun r N => r = 0 ∧ CI (uRd S R) (15 - t) (st + 1) mt N) := by
  obtain ⟨ht1, ht2⟩ := K_td hc
  obtain ⟨⟨a1, a2, a3, a4, a5⟩, ⟨b1, b2, b3, b4⟩, ⟨c1, c2⟩, ⟨d1, d2, d3⟩, ⟨w1, w2, w3, w4⟩⟩ := id hc
  have e21 : (sI M 0 1 0).1 21 0 = -1 := by rw [rI_n (by decide)]; exact hpl
  have e4 : (sI (sI M 0 1 0) 0 2 (-1)).2.2 0 4 = t := a3
  have e5 : (sI (sI M 0 1 0) 0 2 (-1)).2.2 0 5 = 15 - t := a4
  rw [wp_m, e21, wp_m, e4, or_ok ht2, e5, or_ok ht1, wp_m, wp_m, f_X6_dropForecasts, g_m, g_m, g_b_some, f_X5_dropText, g_m, g_b_some]
  generalize hM9 : sI (sI (sI (sR (sR (sI (sI M 0 1 0) 0 2 (-1)) 0 4 (15 - t)) 0 5 t) 57 1 0) 57 4 (-1)) 37 13 0 = M9
  have f : Fr [0, 37, 57] M M9 := fun k hk => by
    simp at hk
    rw [← hM9]
    refine ⟨?_, rfl, ?_⟩
    · rw [rI_n (by omega), rI_n (by omega), rI_n (by omega), rR_1, rR_1, rI_n (by omega), rI_n (by omega)]
    · show (sR (sR (sI (sI M 0 1 0) 0 2 (-1)) 0 4 (15 - t)) 0 5 t).2.2 k = M.2.2 k
      rw [rR_n (by omega), rR_n (by omega)]
      rfl
  have r4 : M9.2.2 0 4 = 15 - t := by
    rw [← hM9]
    show (sR (sR (sI (sI M 0 1 0) 0 2 (-1)) 0 4 (15 - t)) 0 5 t).2.2 0 4 = 15 - t
    rw [rR_e, uR_n (by decide), rR_e, uR_e]
  have r5 : M9.2.2 0 5 = t := by
    rw [← hM9]
    show (sR (sR (sI (sI M 0 1 0) 0 2 (-1)) 0 4 (15 - t)) 0 5 t).2.2 0 5 = t
    rw [rR_e, uR_e]
  have z0 : ∀ j, M9.1 0 j = if j = 2 then -1 else if j = 1 then 0 else M.1 0 j := fun j => by
    rw [← hM9, rI_n (by decide), rI_n (by decide), rI_n (by decide), rR_1, rR_1, rI_e, up_x, rI_e, up_x]
  have z37 : ∀ j, M9.1 37 j = if j = 13 then 0 else M.1 37 j := fun j => by
    rw [← hM9, rI_e, up_x, rI_n (by decide), rI_n (by decide), rR_1, rR_1, rI_n (by decide), rI_n (by decide)]
  have z57 : ∀ j, M9.1 57 j = if j = 4 then -1 else if j = 1 then 0 else M.1 57 j := fun j => by
    rw [← hM9, rI_n (by decide), rI_e, up_x, rI_e, up_x, rR_1, rR_1, rI_n (by decide), rI_n (by decide)]
  clear hM9
  have hCB : CB (eR S) (eP S) t st M9 := a2.mx f (fun k hk => by simp at hk; omega)
  have hl : lnI (eR S) (eP S) (eL S) (eLs S) M9 := c1.c (by rw [f.e1 (by decide)]) (f.e1 (by decide)) (f.e1 (by decide))
  have hr9 : Rp1 (sI M9 0 3 (i3 1)) (15 - t) R := hr.mv (fun k k1 k2 => by rw [rI_n (by omega), f.e1 (by simp; omega)])
  have hset := k_set9 (p' := 1) hCB hst hR (by omega) ht1 hr9 r4 hl
  rw [show (1 : Int32) = i3 1 from rfl]
  refine wp_b _ hset (fun _ N hN => ?_)
  obtain ⟨g1, fN, g2, g3, g4, ⟨g5, g6, g7, g8⟩, g9, g10, g11, g12, g13⟩ := hN
  rw [wp_some]
  refine ⟨rfl, ⟨ok_Rd a1 hR, g1, by rw [g2, r4], by rw [g2, r5]; omega, g4⟩, ⟨Or.inl g5, Or.inl g6, Or.inl g7, ?_⟩, ⟨g9 _, Or.inl g10⟩, ⟨⟨Nat.zero_le _, ?_, fun b hb => absurd hb (Nat.not_lt_zero _)⟩, Or.inl g11, ?_⟩, ⟨⟨g13, fun i hi => ?_, fun i hi => ?_⟩, ?_, ⟨?_, fun i hi => absurd hi (Nat.not_lt_zero _)⟩, ?_⟩⟩
  · intro q q1 q2 hb
    rw [g8, z37, if_pos rfl, b_0] at hb
    cases hb
  · rw [g12 1 (by decide), z57, if_neg (by decide), if_pos rfl]; rfl
  · exact d3.c (by rw [g12 12 (by decide), z57, if_neg (by decide), if_neg (by decide)]) (by rw [fN.e1 (by decide), f.e1 (by decide)])
  · have hi : (i : Int) ≤ -1 := hi
    omega
  · have hi : (i : Int) < -1 := hi
    omega
  · exact w2.c (by rw [fN.e1 (by decide), f.e1 (by decide)])
  · rw [g3 1 (by decide), z0, if_neg (by decide), if_pos rfl]; rfl
  · rw [g3 2 (by decide), z0, if_pos rfl]; rfl
/-! the reference -/
def FoT (h : Nat) (N N' : gM) : Prop := (∀ k, k ≠ 0 → ¬ (2 ≤ k ∧ k ≤ 37) → k ≠ 45 → N'.1 k = N.1 k ∧ N'.2.1 k = N.2.1 k) ∧ (∀ j, ¬ (j = 3 ∨ j = 14 ∨ fR j) → N'.1 0 j = N.1 0 j) ∧ ∀ k j, inH k h j → N'.1 k j = N.1 k j
theorem R_rdF (H : DI S h N) {N' : gM} (f : FoT h N N') {p : Int} (hp : -1 ≤ p ∧ p ≤ 2000) (h10 : N'.1 0 10 = i3 p) : DI (uRf S p) h (sI N' 0 1 0) := by
  obtain ⟨⟨a1, a2⟩, b, c, d, e, ⟨w1, w2, w3, w4⟩⟩ := H
  have kk : ∀ k, k ≠ 0 → (sI N' 0 1 0).1 k = N'.1 k := fun k hk => by rw [rI_n hk]
  have fo : Fo [2, 3, 4, 5, 6, 7, 8, 9, 10, 11, 12, 13, 14, 15, 16, 17, 18, 19, 20, 21, 22, 23, 24, 25, 26, 27, 28, 29, 30, 31, 32, 33, 34, 35, 36, 37, 45] [1, 3, 8, 9, 10, 11, 12, 14, 59, 60, 62, 63] N (sI N' 0 1 0) := by
    refine ⟨fun k k0 hk => ?_, fun j hj => ?_⟩
    · simp at hk
      rw [kk k k0]
      exact f.1 k k0 (by omega) (by omega)
    · simp at hj
      rw [rI_e, up_n (by omega)]
      exact f.2.1 j (by unfold fR; omega)
  have hB2 : B2 (eR S) (eP S) h (sI N' 0 1 0) := by
    obtain ⟨x1, x2, x3, x4, x5, x6⟩ := a2
    refine ⟨x1, x2, x3, by rw [fo.e0 (by decide), x4], by rw [fo.e0 (by decide), x5], x6.mh x1 (fun k j hj => ?_)⟩
    have : k ≠ 0 := by unfold inH at hj; omega
    rw [kk k this]
    exact f.2.2 k j hj
  refine ⟨⟨ok_Rf a1 hp, hB2⟩, h2_f b fo (by decide) (by decide), h3_f c fo (by decide) (by decide), h4_f d fo (by decide) (by decide), e.mv fo (by decide) (by decide), ?_, ?_, ⟨by rw [rI_e, up_e]; rfl, fun i hi => absurd hi (Nat.not_lt_zero _)⟩, by rw [rI_e, up_n (by decide)]; exact h10⟩
  · unfold wkJ at w1 ⊢
    rw [fo.e0 (j := 53) (by decide), fo.e0 (j := 54) (by decide), fo.e1 (k := 41) (by decide) (by decide), fo.e1 (k := 42) (by decide) (by decide), fo.e1 (k := 43) (by decide) (by decide)]
    exact w1
  · unfold slJ at w2 ⊢
    rw [fo.e1 (k := 44) (by decide) (by decide)]
    exact w2
theorem R_rdS (H : DI S h N) {N' : gM} (f : FoT h N N') {R : tR} (hR : tOk R) (hr : Rp2 N' (1 - h) R) (h14 : N'.1 0 14 = i3 ((1 - h : Nat) : Int)) (h9 : N'.1 0 9 = 0) (h10 : N'.1 0 10 = -1) : wp (f_X10_read_67 N') (fun r N2 => r = 0 ∧ DI (uRd S R) (1 - h) N2) := by
  obtain ⟨⟨a1, a2⟩, b, c, d, e, ⟨w1, w2, w3, w4⟩⟩ := H
  have e9' : (sI N' 0 1 0).1 0 9 = 0 := by rw [rI_e, up_n (by decide)]; exact h9
  rw [f_X10_read_67, wp_m, if_pos e9', wp_m, wp_m, wp_m, f_X10_afresh]
  simp only [g_m, g_b_some, wp_some]
  generalize hN2 : sI (sI (sI (sI (sI (sI (sI (sI (sI N' 0 1 0) 0 13 ((sI N' 0 1 0).1 0 14)) 0 47 1) 0 48 0) 0 50 0) 0 53 0) 0 54 0) 0 72 0) 0 73 0 = N2
  have kk : ∀ k, k ≠ 0 → N2.1 k = N'.1 k := fun k hk => by rw [← hN2, rI_n hk, rI_n hk, rI_n hk, rI_n hk, rI_n hk, rI_n hk, rI_n hk, rI_n hk, rI_n hk]
  have jj : ∀ j, N2.1 0 j = if j = 73 then 0 else if j = 72 then 0 else if j = 54 then 0 else if j = 53 then 0 else if j = 50 then 0 else if j = 48 then 0 else if j = 47 then 1 else if j = 13 then i3 ((1 - h : Nat) : Int) else if j = 1 then 0 else N'.1 0 j := fun j => by
    have e14 : (sI N' 0 1 0).1 0 14 = i3 ((1 - h : Nat) : Int) := by rw [rI_e, up_n (by decide)]; exact h14
    rw [← hN2, e14]
    simp only [rI_e, up_x]
  have h72 : N2.1 0 72 = 0 := by rw [jj]; rfl
  have n721 : ¬ N2.1 0 72 = 1 := by rw [h72]; decide
  refine ⟨trivial, ⟨ok_Rd a1 hR, hR, (by show (1 : Int) ≤ 1 ∧ (1 : Int) ≤ 4; decide), by omega, by rw [jj]; rfl, by rw [jj]; rfl, hr.mv (fun k k1 k2 => kk k (by omega))⟩, ⟨Or.inl h72, fun g => absurd g n721, fun g => absurd g n721⟩, Or.inl (by rw [jj]; rfl), ⟨⟨⟨Nat.zero_le _, fun i hi => absurd hi (Nat.not_lt_zero _), fun i j hi => absurd hi (Nat.not_lt_zero _)⟩, by rw [jj]; rfl, fun i hi => absurd hi (Nat.not_lt_zero _)⟩, fun g => absurd g n721⟩, ⟨Nat.zero_le _, by rw [jj]; rfl, fun b hb => absurd hb (Nat.not_lt_zero _)⟩, ⟨Or.inl ⟨by rw [jj]; rfl, by show (-1 : Int) < 0; decide⟩, fun i hi => ?_, fun i hi => ?_⟩, ?_, ⟨by rw [jj]; rfl, fun i hi => absurd hi (Nat.not_lt_zero _)⟩, ?_⟩
  · have hi : (i : Int) ≤ -1 := hi
    omega
  · have hi : (i : Int) < -1 := hi
    omega
  · unfold slJ at w2 ⊢
    rw [kk 44 (by decide), (f.1 44 (by decide) (by decide) (by decide)).1]
    exact w2
  · rw [jj]
    show N'.1 0 10 = i3 (-1)
    rw [h10]; rfl
theorem RD_read (hC : CI S t st mt M) (hD : DI S h N) (hst : st + 1 < 65536) : ∃ z M' N' S' t' h' st', f_X9_read M = some (z, M') ∧ f_X10_read N = some (z, N') ∧ CI S' t' st' mt M' ∧ DI S' h' N' ∧ st' ≤ st + 1 := by
  obtain ⟨ht1, ht2⟩ := K_td hC
  obtain ⟨⟨a1, a2, a3, a4, a5⟩, -, -, -, ⟨-, -, w3, -⟩⟩ := id hC
  obtain ⟨⟨b1, b2⟩, -, -, -, -, ⟨-, -, v3, -⟩⟩ := id hD
  obtain ⟨o1, o2, o3, o4, o5, o6, o7, o8⟩ := a1
  have hh := b2.2.2.1
  obtain ⟨M3, m1, m2, m3, m4, m5⟩ := c_begin (tb := eTb S) (n := eTp S) (t := 15 - t) (M := M) o7.1 o7.2 w3.2 ht1
  obtain ⟨N3, n1, n2, n3, n4, n5, n6, n7, n8⟩ := r_begin (tb := eTb S) (n := eTp S) (h := h) (N := N) ⟨o7.1, o7.2, v3.1, v3.2⟩ hh b2.2.2.2.1
  have hR0 := PR_0 m3 m4 m5 n6 n7 n8
  obtain ⟨M4, r, N4, q1, q2, q3, q4, q5, q6⟩ := P_loop (M0 := M3) (N0 := N3) 401 FU FU 0 0 D0 M3 N3 (by omega) (by rw [FU_s]; omega) (by rw [FU_s]; omega) (by omega) hR0 PF1.rf PF2.rf
  have fM4 : FrT (15 - t) M M4 := m2.pf q3
  have fN4 : FoT h N N4 := by
    refine ⟨fun k k0 k1 k2 => ⟨?_, ?_⟩, fun j hj => ?_, fun k j hj => ?_⟩
    · rw [(q4.1 k k0 (by omega) k2).1, n2 k k0 (by omega)]
    · rw [(q4.1 k k0 (by omega) k2).2, n3 k k0 (by omega)]
    · unfold fR at hj
      rw [q4.2.1 j (by unfold fR; omega), n4 j (by omega)]
    · rw [q4.2.2 k j (by rw [show 1 - (1 - h) = h by omega]; exact hj), n5 k j hj]
  rw [n1, q2, g_b_some, f_X9_read, a4, or_ok ht1, w3.1, m1, q1]
  -- a text with a FAULT
  have bad : ∀ (f : Nat) (p : Nat) (M5 N5 : gM), 1 ≤ f → f ≤ 5 → p ≤ 2000 → FrT (15 - t) M M5 → M5.2.2 21 6 = 15 - t → M5.1 21 1 = i3 (f : Int) → M5.1 21 0 = i3 (p : Int) → FoT h N N5 → N5.1 0 9 = i3 (f : Int) → N5.1 0 10 = i3 (p : Int) → ∃ z M' N' S' t' h' st', g_b (f_X1_parse_228 (15 - t) M5) (fun r3 M2 => (g_m (sI M2 0 1 (0 : Int32)) (fun M4 => (g_m (sI M4 0 2 (M4.1 21 0)) (fun M5 => (if r3 = 0 then (g_or 3 12 (M5.2.2 0 4) (fun t6 => (g_or 3 12 (M5.2.2 0 5) (fun t7 => (g_m (sR M5 0 4 t7) (fun M8 => (g_m (sR M8 0 5 t6) (fun M9 => (g_b (f_X6_dropForecasts M9) (fun r11 M10 => (g_b (f_X5_dropText M10) (fun r13 M12 => (g_b (f_X9_settle (1 : Int32) M12) (fun r15 M14 => (some ((0 : Int32), M14)))))))))))))))) else (some (r3, M5)))))))) = some (z, M') ∧ f_X10_read_67 N5 = some (z, N') ∧ CI S' t' st' mt M' ∧ DI S' h' N' ∧ st' ≤ st + 1 := by
    intro f p M5 N5 f1 f5 hp fr e26 e1 e0 fo e9 e10
    obtain ⟨M6, g1, g2, g3⟩ := c_finT (t := 15 - t) (M := M5) ht1
    rw [f_X1_parse_228, e26, or_ok ht1, g1, g_b_some, g_b_some, g3, e1, g_m, g_m, if_neg (by rw [iL0, i3_eq (by omega) (by omega) (by omega) (by omega)]; omega), rI_n (by decide), g3, e0, f_X10_read_67, g_m, rI_e, up_n (by decide), e9, if_neg (by rw [iL0, i3_eq (by omega) (by omega) (by omega) (by omega)]; omega)]
    refine ⟨_, _, _, uRf S (p : Int), t, h, st, rfl, rfl, K_rdF (K_rdK hC (fr.pf g2)) (by omega), R_rdF hD fo (by omega) e10, by omega⟩
  have e26 : M4.2.2 21 6 = 15 - t := by rw [q3.2]; exact m3.2.2.2.1
  cases r with
  | false =>
    obtain ⟨f, p, hf, hp, e1, e9, e0, e10⟩ := q5 rfl
    have ek : kR false N4 = f_X10_read_67 N4 := rfl
    rw [ek, f_X1_parse_198, if_neg (by rw [e1, iL0, i3_eq (by omega) (by omega) (by omega) (by omega)]; omega)]
    exact bad f p M4 N4 (by omega) (by omega) hp fM4 e26 e1 e0 fN4 e9 e10
  | true =>
    obtain ⟨i', D', sz, cc, lc, q, H, ⟨c1, c2, c3⟩, hq, hB⟩ := q6 rfl
    obtain ⟨h1, h2, h3, h4, h5, h6⟩ := id H
    have hi4 := h1.2.1.2.2.1
    have f21 := h1.2.2.2.2.2
    have f9 := h2.2.2.2.2.2
    rw [f_X1_parse_198, if_pos f21.1, h5.1]
    have ek : kR true N4 = if (N4.1 0 11) = 0 then (f_X10_read_67 N4) else (g_m (sI N4 0 9 (N4.1 0 11)) (fun M17 => (g_m (sI M17 0 10 (M17.1 0 12)) (fun M18 => (f_X10_read_67 M18))))) := rfl
    rw [ek, h6.1]
    by_cases q0 : q.1 = 0
    · rw [if_pos (by rw [q0]; rfl), if_pos (by rw [q0]; rfl)]
      have hB' := hB q0
      obtain ⟨M6, g1, g2, g3, g4⟩ := c_fin h4 hB' ht1 (by omega) (by omega)
      have hF := dB_F h4 hB'
      rw [f_X1_parse_228, e26, or_ok ht1, g1, g_b_some, g_b_some, g4, f21.1]
      have hc6 : CI S t st mt M6 := K_rdK hC (fM4.pf g3)
      obtain ⟨r1, N1, x1, x2, x3⟩ := K_rdS hc6 hst hF.2 g2 (by rw [g4]; exact f21.2)
      obtain ⟨r2, N2, y1, y2, y3⟩ := R_rdS hD fN4 hF.2 (Rp2_F h4 hB' (by omega) (by omega) (by omega)) h2.2.2.2.1 f9.1 f9.2
      subst x2
      subst y2
      refine ⟨0, N1, N2, uRd S (seR (fiD D')), 15 - t, 1 - h, st + 1, ?_, y1, x3, y3, Nat.le_refl _⟩
      rw [← x1]
      rfl
    · have hq3 := hq.1
      have hst := h1.2.1.r.2.1
      have hlt := hq.2 q0
      rw [if_neg (by rw [iL0, i3_eq (by omega) (by omega) (by omega) (by omega)]; omega), if_neg (by rw [iL0, i3_eq (by omega) (by omega) (by omega) (by omega)]; omega), g_m, g_m, g_m, g_m, rI_e, up_n (by decide), h5.2 q0, rI_e, up_n (by decide), h6.2 q0]
      refine bad q.1 q.2 _ _ (by omega) (by omega) (by omega) (fM4.pf (PF1.rf.o.o)) e26 ?_ ?_ ⟨fun k k0 k1 k2 => ?_, fun j hj => ?_, fun k j hj => ?_⟩ ?_ ?_
      · rw [rI_e, up_n (by decide), rI_e, up_e]
      · rw [rI_e, up_e]
      · rw [rI_n k0, rI_n k0]; exact fN4.1 k k0 k1 k2
      · rw [rI_e, up_n (by unfold fR at hj; omega), rI_e, up_n (by unfold fR at hj; omega)]; exact fN4.2.1 j hj
      · have : k ≠ 0 := by unfold inH at hj; omega
        rw [rI_n this, rI_n this]; exact fN4.2.2 k j hj
      · rw [rI_e, up_n (by decide), rI_e, up_e]
      · rw [rI_e, up_e]
end
