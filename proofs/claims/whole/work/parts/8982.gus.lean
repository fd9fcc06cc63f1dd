/-! ===== TELLS of gusts and reflexes, side by side ===== -/
section
variable {tb : Nat → Nat} {n t h sz cc lc i i0 : Nat} {M M0 N N0 : gM} {D : dT} {q q1 q2 : Nat × Nat}
theorem r_tel2 {b2 : Bool} (H : PX tb n t h D sz cc lc q1 (ntM b2 5 (stT tb n i) q) (i + 1) M N) (hx : IX tb n i) (hq : qOk tb n i q) {c : Prop} {dc : Decidable c} {K : gM → Option (Bool × gM)} : ∃ N', (@ite _ c dc (K N) (g_b (f_X10_tells 5 (i3 (i : Int)) N) (fun _ N' => K N'))) = K N' ∧ PX tb n t h D sz cc lc q1 (ntM (b2 || @decide (¬ c) (@instDecidableNot c dc)) 5 (stT tb n i) q) (i + 1) M N' ∧ (∀ k, k ≠ 0 → N'.1 k = N.1 k) ∧ N'.2 = N.2 ∧ (∀ j, j ≠ 11 → j ≠ 12 → N'.1 0 j = N.1 0 j) := by
  by_cases g : c
  · rw [if_pos g, decide_eq_false (fun g2 => g2 g), Bool.or_false]
    exact ⟨N, rfl, H, fun _ _ => rfl, rfl, fun _ _ _ => rfl⟩
  · have hq6 : q.1 < 6 := by have := hq.1; omega
    obtain ⟨h1, h2, h3, h4, h5, h6⟩ := id H
    obtain ⟨N', a1, a2, a3, a4, a5⟩ := r_tells (f := 5) h2.2.2.1 hx h6 (nt_6 hq6 (by omega)) (by omega) (fun g3 => by
      unfold ntM
      by_cases e : b2 = true ∧ q.1 = 0
      · rw [if_pos e]; exact Or.inr ⟨rfl, Nat.le_refl _⟩
      · rw [if_neg e]
        unfold ntM at g3
        rw [if_neg e] at g3
        exact Or.inl (hq.2 g3))
    rw [if_neg g, show (5 : Int32) = i3 ((5 : Nat) : Int) from rfl, a1, g_b_some, decide_eq_true g]
    rw [nt_2 (by omega)] at a2
    exact ⟨N', rfl, H.mv h1 (h2.mv (a3 2 (by decide)) (a3 3 (by decide)) (a3 4 (by decide)) a4 (a5 14 (by decide) (by decide)) (a5 8 (by decide) (by decide)) (a5 9 (by decide) (by decide))) h5 a2 (fun _ _ => rfl) rfl (fun k k1 k2 => a3 k (by omega)) (by rw [a4]), a3, a4, a5⟩
def aGs (D : dT) (v : Int × Int × Int × Int) (L : List Lw) : dT := (D.1, D.2.1, (dNg D + 1, fun a => if a = dNg D then v else dGu D a, fun a => if a = dNg D then L else dCG D a), D.2.2.2)
theorem DC.aG (H : DC M N t h sz cc lc D) (ht : t = 3 ∨ t = 12) (hng : dNg D < 8) {v : Int × Int × Int × Int} {L : List Lw} (e1 : M.1 (t + 6) (5 * dNg D) = i3 v.1 ∧ N.1 18 (8 * h + dNg D) = i3 v.1) (e2 : M.1 (t + 6) (5 * dNg D + 1) = i3 v.2.1 ∧ N.1 19 (8 * h + dNg D) = i3 v.2.1) (e3 : M.1 (t + 6) (5 * dNg D + 2) = i3 v.2.2.1 ∧ N.1 20 (8 * h + dNg D) = i3 v.2.2.1) (e4 : M.1 (t + 6) (5 * dNg D + 3) = i3 v.2.2.2 ∧ N.1 21 (8 * h + dNg D) = i3 v.2.2.2) (ce : CE M N t h sz cc lc (M.1 (t + 6) (5 * dNg D + 4)) (N.1 22 (8 * h + dNg D)) (N.1 23 (8 * h + dNg D)) L) : DC (sI M t 6 (i3 ((dNg D + 1 : Nat) : Int))) (sI N 17 h (i3 ((dNg D + 1 : Nat) : Int))) t h sz cc lc (aGs D v L) := by
  obtain ⟨⟨⟨z1, z2, z3⟩, z4, z5, z6⟩, ⟨⟨y1, y2, y3⟩, ⟨y4, y5, y6⟩, y7, y8, y9⟩, c, d, e, l1, l2⟩ := H
  have g : WB t h sz cc lc M N (sI M t 6 (i3 ((dNg D + 1 : Nat) : Int))) (sI N 17 h (i3 ((dNg D + 1 : Nat) : Int))) := ⟨fun k _ => by rw [rI_n (by omega)], fun k _ _ => by rw [rI_n (by omega), rI_n (by omega)]; exact ⟨rfl, rfl⟩, fun q q1 q2 k _ _ => by rw [rI_n (by omega)]⟩
  have mt : ∀ q, q ≠ 6 → (sI M t 6 (i3 ((dNg D + 1 : Nat) : Int))).1 t q = M.1 t q := fun q hq => by rw [rI_e, up_n hq]
  have mk : ∀ k, k ≠ t → (sI M t 6 (i3 ((dNg D + 1 : Nat) : Int))).1 k = M.1 k := fun k hk => by rw [rI_n hk]
  have nk : ∀ k, k ≠ 17 → (sI N 17 h (i3 ((dNg D + 1 : Nat) : Int))).1 k = N.1 k := fun k hk => by rw [rI_n hk]
  refine ⟨⟨⟨by rw [mt 0 (by omega)]; exact z1, by rw [mt 1 (by omega)]; exact z2, by rw [mt 2 (by omega)]; exact z3⟩, by rw [nk 6 (by omega)]; exact z4, by rw [nk 7 (by omega)]; exact z5, by rw [nk 8 (by omega)]; exact z6⟩, ⟨⟨by rw [mt 5 (by omega)]; exact y1, by rw [rI_e, up_e]; rfl, by rw [mt 7 (by omega)]; exact y3⟩, ⟨by rw [nk 11 (by omega)]; exact y4, by rw [rI_e, up_e]; rfl, by rw [nk 24 (by omega)]; exact y6⟩, y7, by show dNg D + 1 ≤ 8; omega, y9⟩, fun a ha => ?_, fun k hk => ?_, fun r hr => ?_, ?_, ?_⟩
  · obtain ⟨q1, q2, q3, q4⟩ := c a ha
    rw [mk (t + 3) (by omega), mk (t + 4) (by omega), mk (t + 5) (by omega), nk 13 (by omega), nk 14 (by omega), nk 15 (by omega), nk 16 (by omega)]
    exact ⟨q1, q2, q3, q4.mv g (Nat.le_refl _) (Nat.le_refl _) (Nat.le_refl _)⟩
  · have hk : k < dNg D + 1 := hk
    rw [mk (t + 6) (by omega), nk 18 (by omega), nk 19 (by omega), nk 20 (by omega), nk 21 (by omega), nk 22 (by omega), nk 23 (by omega)]
    show (M.1 (t + 6) (5 * k) = i3 (if k = dNg D then v else dGu D k).1 ∧ N.1 18 (8 * h + k) = i3 (if k = dNg D then v else dGu D k).1) ∧ (M.1 (t + 6) (5 * k + 1) = i3 (if k = dNg D then v else dGu D k).2.1 ∧ N.1 19 (8 * h + k) = i3 (if k = dNg D then v else dGu D k).2.1) ∧ (M.1 (t + 6) (5 * k + 2) = i3 (if k = dNg D then v else dGu D k).2.2.1 ∧ N.1 20 (8 * h + k) = i3 (if k = dNg D then v else dGu D k).2.2.1) ∧ (M.1 (t + 6) (5 * k + 3) = i3 (if k = dNg D then v else dGu D k).2.2.2 ∧ N.1 21 (8 * h + k) = i3 (if k = dNg D then v else dGu D k).2.2.2) ∧ CE (sI M t 6 (i3 ((dNg D + 1 : Nat) : Int))) (sI N 17 h (i3 ((dNg D + 1 : Nat) : Int))) t h sz cc lc (M.1 (t + 6) (5 * k + 4)) (N.1 22 (8 * h + k)) (N.1 23 (8 * h + k)) (if k = dNg D then L else dCG D k)
    by_cases ea : k = dNg D
    · rw [if_pos ea, if_pos ea, ea]
      exact ⟨e1, e2, e3, e4, ce.mv g (Nat.le_refl _) (Nat.le_refl _) (Nat.le_refl _)⟩
    · rw [if_neg ea, if_neg ea]
      obtain ⟨q1, q2, q3, q4, q5⟩ := d k (by omega)
      exact ⟨q1, q2, q3, q4, q5.mv g (Nat.le_refl _) (Nat.le_refl _) (Nat.le_refl _)⟩
  · obtain ⟨q1, q2⟩ := e r hr
    rw [mk (t + 7) (by omega), mk (t + 8) (by omega), nk 25 (by omega), nk 26 (by omega), nk 27 (by omega)]
    exact ⟨q1, q2.mv g (Nat.le_refl _) (Nat.le_refl _) (Nat.le_refl _)⟩
  · rw [mt 3 (by omega), nk 9 (by omega), nk 10 (by omega)]
    exact l1.mv g (Nat.le_refl _) (Nat.le_refl _)
  · rw [mt 4 (by omega), nk 9 (by omega), nk 10 (by omega)]
    exact l2.mv g (Nat.le_refl _) (Nat.le_refl _)
theorem T_gus135 (H : PX tb n t h D sz cc lc q q i M N) (hq : qOk tb n i q) (p1 : PF1 t M0 M) (p2 : PF2 h N0 N) (b1 : sz ≤ i + 1) (b2 : cc ≤ i) (b3 : 3 * lc ≤ i) (hi0 : i0 ≤ i) (hng : dNg D < 8) {a b c d : Int} {w : Int32} {L : List Lw} (ce : CE M N t h sz cc lc w (N.1 0 63) (N.1 31 h) L) (e18 : N.1 18 (8 * h + dNg D) = i3 a) (e19 : N.1 19 (8 * h + dNg D) = i3 b) (e20 : N.1 20 (8 * h + dNg D) = i3 c) (e21 : N.1 21 (8 * h + dNg D) = i3 d) (hB : q.1 = 0 → dB D ∧ 0 ≤ a ∧ a ≤ 8 ∧ 0 ≤ b ∧ b ≤ 8 ∧ -6 ≤ c ∧ c ≤ d ∧ d ≤ 6) : w2 (f_X1_tellGusts_135 (i3 a) (i3 b) (i3 c) (i3 d) w M) (g_b (g_ck (i3 ((8 * h + dNg D : Nat) : Int)) 16 (g_m (sI N 22 (tn (i3 ((8 * h + dNg D : Nat) : Int))) (N.1 0 63)) (fun M18 => (g_ck (M18.1 0 14) 2 (g_ck (i3 ((8 * h + dNg D : Nat) : Int)) 16 (g_m (sI M18 23 (tn (i3 ((8 * h + dNg D : Nat) : Int))) (M18.1 31 (tn (M18.1 0 14)))) (fun M19 => (g_ck (M19.1 0 14) 2 (g_ck (M19.1 0 14) 2 (g_m (sI M19 17 (tn (M19.1 0 14)) ((M19.1 17 (tn (M19.1 0 14))) + (1 : Int32))) (fun M20 => (some (true, M20))))))))))))) (fun r3 M2 => if r3 then pE2 M2 else some (false, M2))) (tQ tb n t h i0 M0 N0) := by
  have hh := H.2.1.1
  have ht := H.1.1
  have H1 := (H.nw (k := 22) (j := 8 * h + dNg D) (x := N.1 0 63) (Or.inr (Or.inl ⟨by omega, by omega, rfl⟩)))
  have e31 : (sI N 22 (8 * h + dNg D) (N.1 0 63)).1 31 h = N.1 31 h := by rw [rI_n (by decide)]
  have H2 := (H1.nw (k := 23) (j := 8 * h + dNg D) (x := N.1 31 h) (Or.inr (Or.inl ⟨by omega, by omega, rfl⟩)))
  have f15 : (sI (sI N 22 (8 * h + dNg D) (N.1 0 63)) 23 (8 * h + dNg D) (N.1 31 h)).1 22 (8 * h + dNg D) = N.1 0 63 := by rw [rI_n (by decide), rI_e, up_e]
  have f16 : (sI (sI N 22 (8 * h + dNg D) (N.1 0 63)) 23 (8 * h + dNg D) (N.1 31 h)).1 23 (8 * h + dNg D) = N.1 31 h := by rw [rI_e, up_e]
  have fk : ∀ k, k ≠ 22 → k ≠ 23 → (sI (sI N 22 (8 * h + dNg D) (N.1 0 63)) 23 (8 * h + dNg D) (N.1 31 h)).1 k = N.1 k := fun k a b => by rw [rI_n b, rI_n a]
  have p3 : PF2 h N0 (sI (sI N 22 (8 * h + dNg D) (N.1 0 63)) 23 (8 * h + dNg D) (N.1 31 h)) := (p2.w (by omega) (by unfold inH; omega)).w (by omega) (by unfold inH; omega)
  rw [ck_ok (by omega) (by omega) (by omega), g_m, tn_n (by omega), H1.2.1.ck, ck_ok (by omega) (by omega) (by omega), g_m, H1.2.1.tn, e31]
  generalize sI (sI N 22 (8 * h + dNg D) (N.1 0 63)) 23 (8 * h + dNg D) (N.1 31 h) = N3 at H2 f15 f16 fk p3 ⊢
  obtain ⟨h1, h2, ⟨h3, h4, h5⟩, h6, h7, h8⟩ := id H2
  have hng6 := h6.2.1.1.2.1
  have hng17 := h6.2.1.2.1.2.1
  rw [h2.ck, h2.ck, g_m, g_b_some, if_pos tTT, h2.tn, hng17, i3_s1]
  rw [f_X1_tellGusts_135, h1.or, f_X4_addGusts, hng6, iL5, i3_mul, show (dNg D : Int) * 5 = ((5 * dNg D : Nat) : Int) by omega, g_v, i3_add, show (40 : Int32) = i3 40 from rfl, if_neg (by rw [i3_lt (by omega) (by omega) (by omega) (by omega)]; omega), iL1, iL2, iL3, iL4, i3_add, i3_add, i3_add, i3_add, show ((5 * dNg D : Nat) : Int) + 1 = ((5 * dNg D + 1 : Nat) : Int) by omega, show ((5 * dNg D : Nat) : Int) + 2 = ((5 * dNg D + 2 : Nat) : Int) by omega, show ((5 * dNg D : Nat) : Int) + 3 = ((5 * dNg D + 3 : Nat) : Int) by omega, show ((5 * dNg D : Nat) : Int) + 4 = ((5 * dNg D + 4 : Nat) : Int) by omega, ck_ok (by omega) (by omega) (by omega), g_m, tn_n (by omega), ck_ok (by omega) (by omega) (by omega), g_m, tn_n (by omega), ck_ok (by omega) (by omega) (by omega), g_m, tn_n (by omega), ck_ok (by omega) (by omega) (by omega), g_m, tn_n (by omega), ck_ok (by omega) (by omega) (by omega), g_m, tn_n (by omega), g_m, g_b_some]
  have hM4 : ∀ k : Nat, k ≠ t + 6 → (sI (sI (sI (sI (sI M (t + 6) (5 * dNg D) (i3 a)) (t + 6) (5 * dNg D + 1) (i3 b)) (t + 6) (5 * dNg D + 2) (i3 c)) (t + 6) (5 * dNg D + 3) (i3 d)) (t + 6) (5 * dNg D + 4) w).1 k = M.1 k := fun k hk => by rw [rI_n hk, rI_n hk, rI_n hk, rI_n hk, rI_n hk]
  have hM6 : ∀ j, (sI (sI (sI (sI (sI M (t + 6) (5 * dNg D) (i3 a)) (t + 6) (5 * dNg D + 1) (i3 b)) (t + 6) (5 * dNg D + 2) (i3 c)) (t + 6) (5 * dNg D + 3) (i3 d)) (t + 6) (5 * dNg D + 4) w).1 (t + 6) j = if j = 5 * dNg D + 4 then w else if j = 5 * dNg D + 3 then i3 d else if j = 5 * dNg D + 2 then i3 c else if j = 5 * dNg D + 1 then i3 b else if j = 5 * dNg D then i3 a else M.1 (t + 6) j := fun j => by
    rw [rI_e, up_x, rI_e, up_x, rI_e, up_x, rI_e, up_x, rI_e, up_x]
  have hM2 : (sI (sI (sI (sI (sI M (t + 6) (5 * dNg D) (i3 a)) (t + 6) (5 * dNg D + 1) (i3 b)) (t + 6) (5 * dNg D + 2) (i3 c)) (t + 6) (5 * dNg D + 3) (i3 d)) (t + 6) (5 * dNg D + 4) w).2 = M.2 := rfl
  have p4 : PF1 t M0 (sI (sI (sI (sI (sI M (t + 6) (5 * dNg D) (i3 a)) (t + 6) (5 * dNg D + 1) (i3 b)) (t + 6) (5 * dNg D + 2) (i3 c)) (t + 6) (5 * dNg D + 3) (i3 d)) (t + 6) (5 * dNg D + 4) w) := ((((p1.w (by omega)).w (by omega)).w (by omega)).w (by omega)).w (by omega)
  generalize sI (sI (sI (sI (sI M (t + 6) (5 * dNg D) (i3 a)) (t + 6) (5 * dNg D + 1) (i3 b)) (t + 6) (5 * dNg D + 2) (i3 c)) (t + 6) (5 * dNg D + 3) (i3 d)) (t + 6) (5 * dNg D + 4) w = M4 at hM4 hM6 hM2 p4 ⊢
  rw [hM4 t (by omega), hng6, i3_add, show (dNg D : Int) + 1 = ((dNg D + 1 : Nat) : Int) by omega]
  have hDC : DC M4 N3 t h sz cc lc D := h6.g ⟨fun k _ => by rw [hM4 (t + 1) (by omega)], fun k _ _ => ⟨rfl, rfl⟩, fun q q1 q2 k _ _ => rfl⟩ (Nat.le_refl _) (Nat.le_refl _) (Nat.le_refl _) (fun j _ => by rw [hM4 t (by omega)]) (fun k k1 k2 a _ => by rw [hM4 (t + k) (by omega)]) (fun a _ => by rw [hM2]) (fun j hj => by rw [hM6, if_neg (by omega), if_neg (by omega), if_neg (by omega), if_neg (by omega), if_neg (by omega)]) (fun r _ => by rw [hM4 (t + 7) (by omega), hM4 (t + 8) (by omega)]; exact ⟨rfl, rfl⟩) (fun k hk => rfl) (fun k hk => ⟨rfl, rfl⟩) (fun a ha => rfl) (fun k k1 k2 a _ => rfl) (fun k k1 k2 a _ => rfl) (fun k k1 k2 a _ => rfl)
  have hDC2 := hDC.aG ht hng (v := (a, b, c, d)) (L := L) ⟨by rw [hM6, if_neg (by omega), if_neg (by omega), if_neg (by omega), if_neg (by omega), if_pos rfl], by rw [fk 18 (by omega) (by omega)]; exact e18⟩ ⟨by rw [hM6, if_neg (by omega), if_neg (by omega), if_neg (by omega), if_pos rfl], by rw [fk 19 (by omega) (by omega)]; exact e19⟩ ⟨by rw [hM6, if_neg (by omega), if_neg (by omega), if_pos rfl], by rw [fk 20 (by omega) (by omega)]; exact e20⟩ ⟨by rw [hM6, if_neg (by omega), if_pos rfl], by rw [fk 21 (by omega) (by omega)]; exact e21⟩ (by
    rw [hM6, if_pos rfl, f15, f16]
    exact ce.cw (hM4 (t + 1) (by omega)) (fun k k1 k2 => fk k (by omega) (by omega)))
  have hX : PX tb n t h (aGs D (a, b, c, d) L) sz cc lc q q i (sI M4 t 6 (i3 ((dNg D + 1 : Nat) : Int))) (sI N3 17 h (i3 ((dNg D + 1 : Nat) : Int))) := by
    have hk : ∀ k, k ≠ t → k ≠ t + 6 → (sI M4 t 6 (i3 ((dNg D + 1 : Nat) : Int))).1 k = M.1 k := fun k a b => by rw [rI_n a, hM4 k b]
    exact ⟨h1.mv (hk 24 (by omega) (by omega)) (hk 25 (by omega) (by omega)) hM2 (by rw [hk 21 (by omega) (by omega)]) (by rw [hk 21 (by omega) (by omega)]), h2.mv (by rw [rI_n (by decide)]) (by rw [rI_n (by decide)]) (by rw [rI_n (by decide)]) rfl (by rw [rI_n (by decide)]) (by rw [rI_n (by decide)]) (by rw [rI_n (by decide)]), ⟨by rw [rI_e, up_n (by decide), hM4 t (by omega)]; exact h3, by rw [rI_n (by decide)]; exact h4, by rw [rI_n (by decide)]; exact h5⟩, hDC2, h7.mv (by rw [hk 21 (by omega) (by omega)]) (by rw [hk 21 (by omega) (by omega)]), h8.mv (by rw [rI_n (by decide)]) (by rw [rI_n (by decide)])⟩
  refine p_end hX hq (p4.w (by omega)) (p3.w (by omega) (by unfold inH; omega)) b1 b2 b3 (fun g => ?_) hi0
  obtain ⟨⟨x1, x2, x3, x4⟩, x5⟩ := hB g
  refine ⟨x1, x2, fun k hk => ?_, x4⟩
  have hk : k < dNg D + 1 := hk
  show 0 ≤ (if k = dNg D then (a, b, c, d) else dGu D k).1 ∧ (if k = dNg D then (a, b, c, d) else dGu D k).1 ≤ 8 ∧ 0 ≤ (if k = dNg D then (a, b, c, d) else dGu D k).2.1 ∧ (if k = dNg D then (a, b, c, d) else dGu D k).2.1 ≤ 8 ∧ -6 ≤ (if k = dNg D then (a, b, c, d) else dGu D k).2.2.1 ∧ (if k = dNg D then (a, b, c, d) else dGu D k).2.2.1 ≤ (if k = dNg D then (a, b, c, d) else dGu D k).2.2.2 ∧ (if k = dNg D then (a, b, c, d) else dGu D k).2.2.2 ≤ 6
  by_cases e : k = dNg D
  · rw [if_pos e]; exact x5
  · rw [if_neg e]; exact x3 k (by omega)
theorem T_gust (hR : PR tb n t h i D M N) (hk : kdT tb n i = 10) : w2 (f_X1_tellGusts M) (g_b (f_X10_tellGusts N) (fun r3 M2 => if r3 then pE2 M2 else some (false, M2))) (tQ tb n t h i M N) := by
  obtain ⟨sz, cc, lc, q, H, ⟨b1, b2, b3⟩, hq, hB⟩ := hR
  have hh := H.2.1.1
  have ht := H.1.1
  have hn6 := H.2.2.2.1.2.1.1.2.1
  have hn17 := H.2.2.2.1.2.1.2.1.2.1
  have hn8 := H.2.2.2.1.2.1.2.2.2.1
  rw [f_X1_tellGusts, H.1.or, hn6, f_X10_tellGusts, H.2.1.ck, H.2.1.tn, hn17, iL8]
  by_cases e8 : dNg D = 8
  · rw [if_neg (by rw [i3_lt (by omega) (by omega) (by omega) (by omega)]; omega), if_pos (by rw [i3_eq (by omega) (by omega) (by omega) (by omega)]; omega), show (2 : Int32) = i3 ((2 : Nat) : Int) from rfl, H.1.fail, g_b_some, H.2.1.wrong, g_b_some, g_b_some, if_neg nFT, w2_s]
    exact t_f (Or.inr rfl) H.1 PF1.rf PF2.rf
  rw [if_pos (by rw [i3_lt (by omega) (by omega) (by omega) (by omega)]; omega), if_neg (by rw [i3_eq (by omega) (by omega) (by omega) (by omega)]; omega), g_i2]
  refine p_step H PF1.rf PF2.rf (by omega) (fun M1 N1 hi H1 p1 p2 _ _ _ _ _ => ?_)
  have hq1 : qOk tb n (i + 1) q := hq.s H.1.2.1 (by omega)
  have hn17' := H1.2.2.2.1.2.1.2.1.2.1
  rw [H1.2.1.ck, g_v, H1.2.1.tn, hn17', H1.2.1.2.2.2.1, i3_mul, i3_add, show 8 * (h : Int) + (dNg D : Int) = ((8 * h + dNg D : Nat) : Int) by omega, iL0, g_i2]
  -- from
  refine p_int H1 hq1 p1 p2 (l1 := 0) (l2 := 0) (by omega) (by omega) (by omega) (fun v1 M2 N2 a1 a2 a3 a4 a5 a6 a7 p3 p4 _ _ _ => ?_)
  have hq2 := hq1.nt (b := decide (v1 < 0 ∨ 8 < v1)) (f := 5) H1.1.2.1 (by omega) (by omega)
  generalize hqq : ntM (decide (v1 < 0 ∨ 8 < v1)) 5 (stT tb n (i + 1)) q = qa at a7 hq2
  have hB2 : qa.1 = 0 → dB D ∧ v1 ≤ 8 := fun g => by
    rw [← hqq] at g
    obtain ⟨g1, g2⟩ := nt_0 (by omega) g
    have g1 := of_decide_eq_false g1
    exact ⟨hB g2, by omega⟩
  rw [w2_vl, a5, ck_ok (by omega) (by omega) (by omega), g_m, tn_n (by omega), a6, g_i2]
  have H3 := a7.nw (k := 18) (j := 8 * h + dNg D) (x := i3 v1) (Or.inr (Or.inl ⟨by omega, by omega, rfl⟩))
  have p5 : PF2 h N (sI N2 18 (8 * h + dNg D) (i3 v1)) := p4.w (by omega) (by unfold inH; omega)
  have e18 : (sI N2 18 (8 * h + dNg D) (i3 v1)).1 18 (8 * h + dNg D) = i3 v1 := by rw [rI_e, up_e]
  generalize sI N2 18 (8 * h + dNg D) (i3 v1) = N3 at H3 p5 e18 ⊢
  -- to
  refine p_int H3 hq2 p3 p5 (l1 := v1) (l2 := 0) (by omega) (by omega) (by omega) (fun v2 M4 N4 c1 c2 c3 c4 c5 c6 c7 p6 p7 c8 c9 c10 => ?_)
  rw [w2_vl, c5, ck_ok (by omega) (by omega) (by omega), g_m, c6]
  have H5 := c7.nw (k := 19) (j := 8 * h + dNg D) (x := i3 v2) (Or.inr (Or.inl ⟨by omega, by omega, rfl⟩))
  have p8 : PF2 h N (sI N4 19 (8 * h + dNg D) (i3 v2)) := p7.w (by omega) (by unfold inH; omega)
  have e19 : (sI N4 19 (8 * h + dNg D) (i3 v2)).1 19 (8 * h + dNg D) = i3 v2 := by rw [rI_e, up_e]
  have e18' : (sI N4 19 (8 * h + dNg D) (i3 v2)).1 18 (8 * h + dNg D) = i3 v1 := by rw [rI_n (by decide), c8 18 (by decide), e18]
  generalize sI N4 19 (8 * h + dNg D) (i3 v2) = N5 at H5 p8 e19 e18' ⊢
  have h8' := H5.2.1.2.2.2.2.1
  rw [ck_ok (by omega) (by omega) (by omega), ck_ok (by omega) (by omega) (by omega), e19, e18', h8', iL1, i3_sub, show ((i + 1 + 1 + 1 : Nat) : Int) - 1 = ((i + 1 + 1 : Nat) : Int) by omega]
  obtain ⟨N6, d1, d2, d3, d4, d5⟩ := r_tel2 H5 H3.1.2.1 hq2 (c := i3 v1 ≤ i3 v2) (dc := inferInstance) (K := fun N' => f_X10_tellGusts_117 (i3 ((8 * h + dNg D : Nat) : Int)) N')
  rw [show ((if i3 v1 ≤ i3 v2 then f_X10_tellGusts_117 (i3 ((8 * h + dNg D : Nat) : Int)) N5 else g_b (f_X10_tells 5 (i3 ((i + 1 + 1 : Nat) : Int)) N5) (fun _ M23 => f_X10_tellGusts_117 (i3 ((8 * h + dNg D : Nat) : Int)) M23)) = f_X10_tellGusts_117 (i3 ((8 * h + dNg D : Nat) : Int)) N6) from d1]
  have hle : (i3 v1 ≤ i3 v2) = (v1 ≤ v2) := i3_le (by omega) (by omega) (by omega) (by omega)
  rw [nt_q (b := (decide (v2 < 0 ∨ 8 < v2) || decide (¬ i3 v1 ≤ i3 v2))) (b' := decide (v2 < v1 ∨ 8 < v2)) (by
    rw [Bool.eq_iff_iff, Bool.or_eq_true, decide_eq_true_iff, decide_eq_true_iff, decide_eq_true_iff, hle]
    omega)] at d2
  have p9 : PF2 h N N6 := p8.c d3 d4 (fun j hj => d5 j (by unfold fR at hj; omega) (by unfold fR at hj; omega))
  have hq3 := hq2.nt (b := decide (v2 < v1 ∨ 8 < v2)) (f := 5) H3.1.2.1 (by omega) (by omega)
  generalize hqq2 : ntM (decide (v2 < v1 ∨ 8 < v2)) 5 (stT tb n (i + 1 + 1)) qa = qb at d2 hq3
  have hB3 : qb.1 = 0 → dB D ∧ v1 ≤ 8 ∧ v2 ≤ 8 := fun g => by
    rw [← hqq2] at g
    obtain ⟨g1, g2⟩ := nt_0 (by omega) g
    have g1 := of_decide_eq_false g1
    have := hB2 g2
    exact ⟨this.1, this.2, by omega⟩
  have e18a : N6.1 18 (8 * h + dNg D) = i3 v1 := by rw [d3 18 (by decide), e18']
  have e19a : N6.1 19 (8 * h + dNg D) = i3 v2 := by rw [d3 19 (by decide), e19]
  -- low
  rw [f_X10_tellGusts_117, g_i2, show f_X1_takeSigned ((-6) : Int32) (6 : Int32) M4 = f_X1_takeSigned (i3 (-6)) (i3 6) M4 from rfl, show f_X10_takesSigned (6 : Int32) N6 = f_X10_takesSigned (i3 6) N6 from rfl]
  refine p_sgn d2 hq3 p6 p9 (by omega) (by omega) (fun j3 v3 s3 M7 N7 f1 f2 f3 fx fq f4 f5 f6 f7 f8 f9 p10 p11 f10 f11 f12 => ?_)
  rw [nt_q (b := decide (6 < v3 ∨ s3 < -6)) (b' := decide (6 < v3)) (by rw [decide_eq_decide]; omega)] at f9
  have hq4 := fq.nt (b := decide (6 < v3)) (f := 5) fx (by omega) (by omega)
  generalize hqq3 : ntM (decide (6 < v3)) 5 (stT tb n j3) qb = qc at f9 hq4
  have hB4 : qc.1 = 0 → (dB D ∧ v1 ≤ 8 ∧ v2 ≤ 8) ∧ -6 ≤ s3 ∧ s3 ≤ 6 := fun g => by
    rw [← hqq3] at g
    obtain ⟨g1, g2⟩ := nt_0 (by omega) g
    have g1 := of_decide_eq_false g1
    exact ⟨hB3 g2, by omega, by omega⟩
  rw [w2_vl, f7, ck_ok (by omega) (by omega) (by omega), g_m, tn_n (by omega), f8, g_i2]
  have H8 := f9.nw (k := 20) (j := 8 * h + dNg D) (x := i3 s3) (Or.inr (Or.inl ⟨by omega, by omega, rfl⟩))
  have p12 : PF2 h N (sI N7 20 (8 * h + dNg D) (i3 s3)) := p11.w (by omega) (by unfold inH; omega)
  have e20 : (sI N7 20 (8 * h + dNg D) (i3 s3)).1 20 (8 * h + dNg D) = i3 s3 := by rw [rI_e, up_e]
  have e18b : (sI N7 20 (8 * h + dNg D) (i3 s3)).1 18 (8 * h + dNg D) = i3 v1 := by rw [rI_n (by decide), f10 18 (by decide), e18a]
  have e19b : (sI N7 20 (8 * h + dNg D) (i3 s3)).1 19 (8 * h + dNg D) = i3 v2 := by rw [rI_n (by decide), f10 19 (by decide), e19a]
  generalize sI N7 20 (8 * h + dNg D) (i3 s3) = N8 at H8 p12 e20 e18b e19b ⊢
  -- high
  rw [show f_X1_takeSigned (i3 s3) (6 : Int32) M7 = f_X1_takeSigned (i3 s3) (i3 6) M7 from rfl, show f_X10_takesSigned (6 : Int32) N8 = f_X10_takesSigned (i3 6) N8 from rfl]
  refine p_sgn H8 hq4 p10 p12 (le := s3) (by omega) (by omega) (fun j4 v4 s4 M9 N9 k1 k2 k3 kx kq k4 k5 k6 k7 k8 k9 p13 p14 k10 k11 k12 => ?_)
  rw [w2_vl, k7, ck_ok (by omega) (by omega) (by omega), g_m, k8]
  have H10 := k9.nw (k := 21) (j := 8 * h + dNg D) (x := i3 s4) (Or.inr (Or.inl ⟨by omega, by omega, rfl⟩))
  have p15 : PF2 h N (sI N9 21 (8 * h + dNg D) (i3 s4)) := p14.w (by omega) (by unfold inH; omega)
  have e21 : (sI N9 21 (8 * h + dNg D) (i3 s4)).1 21 (8 * h + dNg D) = i3 s4 := by rw [rI_e, up_e]
  have e20c : (sI N9 21 (8 * h + dNg D) (i3 s4)).1 20 (8 * h + dNg D) = i3 s3 := by rw [rI_n (by decide), k10 20 (by decide), e20]
  have e18c : (sI N9 21 (8 * h + dNg D) (i3 s4)).1 18 (8 * h + dNg D) = i3 v1 := by rw [rI_n (by decide), k10 18 (by decide), e18b]
  have e19c : (sI N9 21 (8 * h + dNg D) (i3 s4)).1 19 (8 * h + dNg D) = i3 v2 := by rw [rI_n (by decide), k10 19 (by decide), e19b]
  generalize sI N9 21 (8 * h + dNg D) (i3 s4) = N10 at H10 p15 e21 e20c e18c e19c ⊢
  have h8'' := H10.2.1.2.2.2.2.1
  rw [ck_ok (by omega) (by omega) (by omega), ck_ok (by omega) (by omega) (by omega), e21, e20c, h8'', iL1, i3_sub, show ((j4 + 1 : Nat) : Int) - 1 = ((j4 : Nat) : Int) by omega]
  obtain ⟨N11, m1, m2, m3, m4, m5⟩ := r_tel2 H10 kx kq (c := i3 s3 ≤ i3 s4) (dc := inferInstance) (K := fun N' => f_X10_tellGusts_185 (i3 ((8 * h + dNg D : Nat) : Int)) N')
  rw [show ((if i3 s3 ≤ i3 s4 then f_X10_tellGusts_185 (i3 ((8 * h + dNg D : Nat) : Int)) N10 else g_b (f_X10_tells 5 (i3 ((j4 : Nat) : Int)) N10) (fun _ M21 => f_X10_tellGusts_185 (i3 ((8 * h + dNg D : Nat) : Int)) M21)) = f_X10_tellGusts_185 (i3 ((8 * h + dNg D : Nat) : Int)) N11) from m1]
  have hle2 : (i3 s3 ≤ i3 s4) = (s3 ≤ s4) := i3_le (by omega) (by omega) (by omega) (by omega)
  rw [nt_q (b := (decide (6 < v4) || decide (¬ i3 s3 ≤ i3 s4))) (b' := decide (6 < v4 ∨ s4 < s3)) (by
    rw [Bool.eq_iff_iff, Bool.or_eq_true, decide_eq_true_iff, decide_eq_true_iff, decide_eq_true_iff, hle2]
    omega)] at m2
  have p16 : PF2 h N N11 := p15.c m3 m4 (fun j hj => m5 j (by unfold fR at hj; omega) (by unfold fR at hj; omega))
  have hq5 := kq.nt (b := decide (6 < v4 ∨ s4 < s3)) (f := 5) kx (by omega) (by omega)
  generalize hqq4 : ntM (decide (6 < v4 ∨ s4 < s3)) 5 (stT tb n j4) qc = qd at m2 hq5
  have hB5 : qd.1 = 0 → dB D ∧ 0 ≤ v1 ∧ v1 ≤ 8 ∧ 0 ≤ v2 ∧ v2 ≤ 8 ∧ -6 ≤ s3 ∧ s3 ≤ s4 ∧ s4 ≤ 6 := fun g => by
    rw [← hqq4] at g
    obtain ⟨g1, g2⟩ := nt_0 (by omega) g
    have g1 := of_decide_eq_false g1
    have := hB4 g2
    exact ⟨this.1.1, a3, this.1.2.1, c3, this.1.2.2, this.2.1, by omega, by omega⟩
  rw [f_X10_tellGusts_185, g_i2]
  refine p_may (KA := fun w M => f_X1_tellGusts_135 (i3 v1) (i3 v2) (i3 s3) (i3 s4) w M) m2 hq5 p13 p16 (by omega) (by omega) (by omega) (fun i' sz' cc' lc' w L M12 N12 o1 o2 o3 o4 o5 o6 o7 p17 p18 o8 o9 o10 => ?_)
  exact T_gus135 (i0 := i) o3 o2 p17 p18 o4 o5 o6 (by omega) (by omega) o7 (by rw [o8 18 (by omega) (by omega), m3 18 (by decide)]; exact e18c) (by rw [o8 19 (by omega) (by omega), m3 19 (by decide)]; exact e19c) (by rw [o8 20 (by omega) (by omega), m3 20 (by decide)]; exact e20c) (by rw [o8 21 (by omega) (by omega), m3 21 (by decide)]; exact e21) hB5
end
