section
variable {tb : Nat → Nat} {n t h sz cc lc i i0 : Nat} {M M0 N N0 : gM} {D : dT} {q q1 q2 : Nat × Nat}
def aRf (D : dT) (v : Int) (L : List Lw) : dT := (D.1, D.2.1, D.2.2.1, (dNr D + 1, fun a => if a = dNr D then v else dRa D a, fun a => if a = dNr D then L else dCR D a), D.2.2.2.2)
theorem DC.aR (H : DC M N t h sz cc lc D) (ht : t = 3 ∨ t = 12) (hnr : dNr D < 12) {v : Int} {L : List Lw} (e1 : M.1 (t + 8) (dNr D) = i3 v ∧ N.1 25 (12 * h + dNr D) = i3 v) (ce : CE M N t h sz cc lc (M.1 (t + 7) (dNr D)) (N.1 26 (12 * h + dNr D)) (N.1 27 (12 * h + dNr D)) L) : DC (sI M t 7 (i3 ((dNr D + 1 : Nat) : Int))) (sI N 24 h (i3 ((dNr D + 1 : Nat) : Int))) t h sz cc lc (aRf D v L) := by
  obtain ⟨⟨⟨z1, z2, z3⟩, z4, z5, z6⟩, ⟨⟨y1, y2, y3⟩, ⟨y4, y5, y6⟩, y7, y8, y9⟩, c, d, e, l1, l2⟩ := H
  have g : WB t h sz cc lc M N (sI M t 7 (i3 ((dNr D + 1 : Nat) : Int))) (sI N 24 h (i3 ((dNr D + 1 : Nat) : Int))) := ⟨fun k _ => by rw [rI_n (by omega)], fun k _ _ => by rw [rI_n (by omega), rI_n (by omega)]; exact ⟨rfl, rfl⟩, fun q q1 q2 k _ _ => by rw [rI_n (by omega)]⟩
  have mt : ∀ q, q ≠ 7 → (sI M t 7 (i3 ((dNr D + 1 : Nat) : Int))).1 t q = M.1 t q := fun q hq => by rw [rI_e, up_n hq]
  have mk : ∀ k, k ≠ t → (sI M t 7 (i3 ((dNr D + 1 : Nat) : Int))).1 k = M.1 k := fun k hk => by rw [rI_n hk]
  have nk : ∀ k, k ≠ 24 → (sI N 24 h (i3 ((dNr D + 1 : Nat) : Int))).1 k = N.1 k := fun k hk => by rw [rI_n hk]
  refine ⟨⟨⟨by rw [mt 0 (by omega)]; exact z1, by rw [mt 1 (by omega)]; exact z2, by rw [mt 2 (by omega)]; exact z3⟩, by rw [nk 6 (by omega)]; exact z4, by rw [nk 7 (by omega)]; exact z5, by rw [nk 8 (by omega)]; exact z6⟩, ⟨⟨by rw [mt 5 (by omega)]; exact y1, by rw [mt 6 (by omega)]; exact y2, by rw [rI_e, up_e]; rfl⟩, ⟨by rw [nk 11 (by omega)]; exact y4, by rw [nk 17 (by omega)]; exact y5, by rw [rI_e, up_e]; rfl⟩, y7, y8, by show dNr D + 1 ≤ 12; omega⟩, fun a ha => ?_, fun k hk => ?_, fun r hr => ?_, ?_, ?_⟩
  · obtain ⟨q1, q2, q3, q4⟩ := c a ha
    rw [mk (t + 3) (by omega), mk (t + 4) (by omega), mk (t + 5) (by omega), nk 13 (by omega), nk 14 (by omega), nk 15 (by omega), nk 16 (by omega)]
    exact ⟨q1, q2, q3, q4.mv g (Nat.le_refl _) (Nat.le_refl _) (Nat.le_refl _)⟩
  · obtain ⟨q1, q2, q3, q4, q5⟩ := d k hk
    rw [mk (t + 6) (by omega), nk 18 (by omega), nk 19 (by omega), nk 20 (by omega), nk 21 (by omega), nk 22 (by omega), nk 23 (by omega)]
    exact ⟨q1, q2, q3, q4, q5.mv g (Nat.le_refl _) (Nat.le_refl _) (Nat.le_refl _)⟩
  · have hr : r < dNr D + 1 := hr
    rw [mk (t + 7) (by omega), mk (t + 8) (by omega), nk 25 (by omega), nk 26 (by omega), nk 27 (by omega)]
    show (M.1 (t + 8) r = i3 (if r = dNr D then v else dRa D r) ∧ N.1 25 (12 * h + r) = i3 (if r = dNr D then v else dRa D r)) ∧ CE (sI M t 7 (i3 ((dNr D + 1 : Nat) : Int))) (sI N 24 h (i3 ((dNr D + 1 : Nat) : Int))) t h sz cc lc (M.1 (t + 7) r) (N.1 26 (12 * h + r)) (N.1 27 (12 * h + r)) (if r = dNr D then L else dCR D r)
    by_cases ea : r = dNr D
    · rw [if_pos ea, if_pos ea, ea]
      exact ⟨e1, ce.mv g (Nat.le_refl _) (Nat.le_refl _) (Nat.le_refl _)⟩
    · rw [if_neg ea, if_neg ea]
      obtain ⟨q1, q2⟩ := e r (by omega)
      exact ⟨q1, q2.mv g (Nat.le_refl _) (Nat.le_refl _) (Nat.le_refl _)⟩
  · rw [mt 3 (by omega), nk 9 (by omega), nk 10 (by omega)]
    exact l1.mv g (Nat.le_refl _) (Nat.le_refl _)
  · rw [mt 4 (by omega), nk 9 (by omega), nk 10 (by omega)]
    exact l2.mv g (Nat.le_refl _) (Nat.le_refl _)
theorem st_mono {i' : Nat} (hx : IX tb n i') : ∀ d j, j + d = i' → stT tb n j ≤ stT tb n i' := by
  intro d
  induction d with
  | zero => intro j hj; rw [show j = i' by omega]; exact Nat.le_refl _
  | succ d ih =>
    intro j hj
    have hj' : IX tb n j := ⟨hx.1, hx.2.1, by have := hx.2.2.1; omega, fun s hs => hx.2.2.2 s (by omega)⟩
    have := hj'.lt (hx.2.2.2 j (by omega))
    have := ih (j + 1) (by omega)
    omega
theorem qOk.up (hq : qOk tb n i q) {i' : Nat} (hx : IX tb n i') (h : i ≤ i') : qOk tb n i' q := ⟨hq.1, fun g => by have := hq.2 g; have := st_mono hx (i' - i) i (by omega); omega⟩
theorem p_step2 (H : PX tb n t h D sz cc lc q1 q2 i M N) (p1 : PF1 t M0 M) (p2 : PF2 h N0 N) (hk : kdT tb n i < 30) {k1 k2 : gM → Option (Bool × gM)} (hK : ∀ M' N', i < 400 → PX tb n t h D sz cc lc q1 q2 (i + 1) M' N' → PF1 t M0 M' → PF2 h N0 N' → (∀ k, k ≠ 0 → N'.1 k = N.1 k) → (∀ k, k ≠ 21 → M'.1 k = M.1 k) → w2 (k1 M') (k2 N') (tQ tb n t h i0 M0 N0)) : w2 (g_b (f_X1_step M) (fun r M' => if r then k1 M' else some (false, M'))) (g_b (f_X10_pass N) (fun r N' => if r then k2 N' else some (false, N'))) (tQ tb n t h i0 M0 N0) := by
  by_cases hi : i < 400
  · rw [H.1.step hi, H.2.1.pass hi, g_b_some, g_b_some, if_pos rfl, if_pos rfl]
    exact hK _ _ hi (H.st hi hk) p1.o (p2.o (by unfold fR; omega)) (fun k hk => by rw [rI_n hk]) (fun k hk => by rw [rI_n hk])
  · rw [H.1.stepF hi, H.2.1.passF hi, g_b_some, g_b_some, if_neg (by decide), if_neg (by decide), w2_s]
    exact t_f (Or.inr rfl) H.1 p1 p2
theorem T_refl (hR : PR tb n t h i D M N) (hk : kdT tb n i = 11) : w2 (f_X1_tellReflex M) (g_b (f_X10_tellReflex N) (fun r3 M2 => if r3 then pE2 M2 else some (false, M2))) (tQ tb n t h i M N) := by
  obtain ⟨sz, cc, lc, q, H, ⟨b1, b2, b3⟩, hq, hB⟩ := hR
  have hh := H.2.1.1
  have ht := H.1.1
  have hn7 := H.2.2.2.1.2.1.1.2.2
  have hn24 := H.2.2.2.1.2.1.2.1.2.2
  have hn12 := H.2.2.2.1.2.1.2.2.2.2
  rw [f_X1_tellReflex, H.1.or, hn7, f_X10_tellReflex, H.2.1.ck, H.2.1.tn, hn24, iL12]
  by_cases e12 : dNr D = 12
  · rw [if_neg (by rw [i3_lt (by omega) (by omega) (by omega) (by omega)]; omega), if_pos (by rw [i3_eq (by omega) (by omega) (by omega) (by omega)]; omega), show (2 : Int32) = i3 ((2 : Nat) : Int) from rfl, H.1.fail, g_b_some, H.2.1.wrong, g_b_some, g_b_some, if_neg nFT, w2_s]
    exact t_f (Or.inr rfl) H.1 PF1.rf PF2.rf
  rw [if_pos (by rw [i3_lt (by omega) (by omega) (by omega) (by omega)]; omega), if_neg (by rw [i3_eq (by omega) (by omega) (by omega) (by omega)]; omega), g_i2]
  refine p_step H PF1.rf PF2.rf (by omega) (fun M1 N1 hi H1 p1 p2 _ _ _ _ _ => ?_)
  have hq1 : qOk tb n (i + 1) q := hq.s H.1.2.1 (by omega)
  have hq6 : q.1 < 6 := by have := hq1.1; omega
  obtain ⟨h1, h2, ⟨h3, h4, h5⟩, h6, h7, h8⟩ := id H1
  rw [h1.or, w2_vl, h3, g_i2]
  refine w2_b _ (L_cond (sz := sz) (c := cc) (l := lc) h1 h2 h3 h4 h5 (by omega) (by omega) (by omega)) (fun r1 M2 r2 N2 hx => ?_)
  obtain ⟨rfl, f1, f2, f3, f4⟩ := hx
  cases r1 with
  | false =>
    rw [if_neg nFT, if_neg nFT, w2_s]
    exact ⟨rfl, p1.tr f1.pf, p2.tr (f2.pf hh), fun _ => f3 rfl, fun g => by cases g⟩
  | true =>
  obtain ⟨i2, cc2, L, a1, a2, a3, a4, a5, a6, a7, a8⟩ := f4 rfl
  rw [if_pos tTT, if_pos tTT]
  have hlen : (L.flatMap lw ++ [i3 9]).length = (L.flatMap lw).length + 1 := by rw [List.length_append]; rfl
  obtain ⟨s1, s2, s3, s4⟩ := a4
  obtain ⟨r1, r2, r3, r4, r5, r6⟩ := a5
  have hi24 := s1.2.1.2.2.1
  have hq2 : qOk tb n i2 q := hq1.up s1.2.1 (by omega)
  have hm1 : cM q M2 := h7.mv (f1.2.2.1 2 (by decide) (by decide) (by decide) (by decide)) (f1.2.2.1 3 (by decide) (by decide) (by decide) (by decide))
  have hm2 : rM q N2 := h8.mv (f2.2.2.1 11 (by decide)) (f2.2.2.1 12 (by decide))
  have H2 : PX tb n t h D (sz + ((L.flatMap lw).length + 1)) (cc + cc2) (lc + L.length) q q i2 M2 N2 := ⟨s1, r1, ⟨by rw [s3, hlen], by rw [r3, Nat.add_assoc], by rw [r4, Nat.add_assoc]⟩, h6.x ht f1 f2 (by omega) (by omega) (by omega), hm1, hm2⟩
  have ce : CE M2 N2 t h (sz + ((L.flatMap lw).length + 1)) (cc + cc2) (lc + L.length) (i3 (sz : Int)) (N2.1 0 63) (N2.1 31 h) L := Or.inr ⟨a2, a3, ⟨sz, rfl, s4, by omega⟩, 200 * h + lc, r6, by rw [r4], by omega, by omega, by rw [← Nat.add_assoc]; exact r5⟩
  have p3 : PF1 t M M2 := p1.tr f1.pf
  have p4 : PF2 h N N2 := p2.tr (f2.pf hh)
  have hszb : sz + ((L.flatMap lw).length + 1) ≤ i2 + 1 := by omega
  generalize sz + ((L.flatMap lw).length + 1) = szb at H2 ce hszb
  generalize cc + cc2 = ccb at H2 ce a7
  generalize lc + L.length = lcb at H2 ce a8
  have hn24' := H2.2.2.2.1.2.1.2.1.2.2
  rw [H2.2.1.ck, g_v, H2.2.1.tn, hn24', H2.2.1.2.2.2.1, i3_mul, i3_add, show 12 * (h : Int) + (dNr D : Int) = ((12 * h + dNr D : Nat) : Int) by omega, ck_ok (by omega) (by omega) (by omega), g_m, tn_n (by omega)]
  have H3 := H2.nw (k := 26) (j := 12 * h + dNr D) (x := N2.1 0 63) (Or.inr (Or.inr ⟨by omega, by omega, rfl⟩))
  have e31 : (sI N2 26 (12 * h + dNr D) (N2.1 0 63)).1 31 h = N2.1 31 h := by rw [rI_n (by decide)]
  rw [H3.2.1.ck, ck_ok (by omega) (by omega) (by omega), g_m, H3.2.1.tn, e31]
  have H4 := H3.nw (k := 27) (j := 12 * h + dNr D) (x := N2.1 31 h) (Or.inr (Or.inr ⟨by omega, by omega, rfl⟩))
  have p5 : PF2 h N (sI (sI N2 26 (12 * h + dNr D) (N2.1 0 63)) 27 (12 * h + dNr D) (N2.1 31 h)) := (p4.w (by omega) (by unfold inH; omega)).w (by omega) (by unfold inH; omega)
  have e26 : (sI (sI N2 26 (12 * h + dNr D) (N2.1 0 63)) 27 (12 * h + dNr D) (N2.1 31 h)).1 26 (12 * h + dNr D) = N2.1 0 63 := by rw [rI_n (by decide), rI_e, up_e]
  have e27 : (sI (sI N2 26 (12 * h + dNr D) (N2.1 0 63)) 27 (12 * h + dNr D) (N2.1 31 h)).1 27 (12 * h + dNr D) = N2.1 31 h := by rw [rI_e, up_e]
  have ce4 : CE M2 (sI (sI N2 26 (12 * h + dNr D) (N2.1 0 63)) 27 (12 * h + dNr D) (N2.1 31 h)) t h szb ccb lcb (i3 (sz : Int)) (N2.1 0 63) (N2.1 31 h) L := ce.cw rfl (fun k k1 k2 => by rw [rI_n (by omega), rI_n (by omega)])
  generalize hw1 : N2.1 0 63 = w1 at *
  generalize hw2 : N2.1 31 h = w2' at *
  generalize sI (sI N2 26 (12 * h + dNr D) w1) 27 (12 * h + dNr D) w2' = N4 at H4 p5 e26 e27 ce4 ⊢
  have hr2 := H4.1.2.1.r.1
  rw [show (9 : Int32) = i3 (rwT 13) from rfl, H4.2.1.word (by omega), g_b_some, show (13 : Int32) = i3 ((13 : Nat) : Int) from rfl, H4.1.take (by omega)]
  by_cases k13 : kdT tb n i2 = 13
  · rw [decide_eq_true k13, if_pos tTT, if_pos k13, g_i2]
    refine p_step2 H4 p3 p5 (by omega) (fun M5 N5 hi5 H5 p6 p7 x1 x4 => ?_)
    have hq5 : qOk tb n (i2 + 1) q := hq2.s H4.1.2.1 (by omega)
    have ce5 : CE M5 N5 t h szb ccb lcb (i3 (sz : Int)) w1 w2' L := ce4.cw (x4 (t + 1) (by omega)) (fun k k1 k2 => x1 k (by omega))
    have e26' : N5.1 26 (12 * h + dNr D) = w1 := by rw [x1 26 (by decide), e26]
    have e27' : N5.1 27 (12 * h + dNr D) = w2' := by rw [x1 27 (by decide), e27]
    obtain ⟨h1, h2, h3, h4, h5, h6⟩ := id H5
    have hr := h1.2.1.r.1
    rw [h1.or, h1.value, g_b_some, c_named h4, g_b_some, h1.kind, g_b_some, g_v, h2.2.2.2.2.1, show (0 : Int32) = i3 ((0 : Nat) : Int) from rfl, h2.takes (by omega)]
    have ks := ks_17 (kdT tb n (i2 + 1)) (by omega)
    by_cases k17 : kdT tb n (i2 + 1) = 17
    · rw [if_pos (ks.2 k17), if_pos (show i3 ((kdT tb n (i2 + 1) : Nat) : Int) = 17 by rw [k17]; rfl)]
      have hcv := (h1.2.2.1 (i2 + 1) (by omega) (by omega) h1.2.1.2.2.2).2.2 (by omega)
      have hdv := (h2.2.2.1 (i2 + 1) (by omega) (by omega) h2.2.1.2.2.2).2.2.2.2 (by omega)
      rw [hcv]
      have hfa := leA_r (P := fun a => dNm D a = i6 (vlT tb n (i2 + 1))) (k := dNa D)
      have hna6 := h4.2.1.2.2.1
      generalize hgf : leA (fun a => dNm D a = i6 (vlT tb n (i2 + 1))) (dNa D) (-1) = fa at hfa ⊢
      have hc : ∃ M6, (if i3 fa = -1 then g_b (f_X1_note 4 M5) (fun _ M24 => f_X1_tellReflex_84 (i3 (sz : Int)) (i3 fa) M24) else f_X1_tellReflex_84 (i3 (sz : Int)) (i3 fa) M5) = f_X1_tellReflex_84 (i3 (sz : Int)) (i3 fa) M6 ∧ cM (ntM (decide (fa = -1)) 4 (stT tb n (i2 + 1)) q) M6 ∧ (∀ k, k ≠ 21 → M6.1 k = M5.1 k) ∧ M6.2 = M5.2 ∧ CH tb n t (i2 + 1) M6 := by
        by_cases e : fa = -1
        · obtain ⟨M6, a1, a2, a3, a4, a5⟩ := h1.note h5 hq6 (f := 4)
          rw [if_pos (by rw [e]; rfl), show (4 : Int32) = i3 ((4 : Nat) : Int) from rfl, a1, g_b_some, decide_eq_true e]
          exact ⟨M6, rfl, a2, a3, a4, h1.mv (a3 24 (by decide)) (a3 25 (by decide)) a4 (a5 4 (by decide) (by decide)) (a5 1 (by decide) (by decide))⟩
        · rw [if_neg (by rw [show ((-1) : Int32) = i3 (-1) from rfl, i3_eq (by omega) (by omega) (by omega) (by omega)]; exact e), decide_eq_false e, nt_f]
          exact ⟨M5, rfl, h5, fun _ _ => rfl, rfl, h1⟩
      obtain ⟨M6, y1, y2, y3, y4, y5⟩ := hc
      rw [y1, f_X1_tellReflex_84, show (17 : Int32) = i3 ((17 : Nat) : Int) from rfl, y5.take (by omega), if_pos k17]
      by_cases hi6 : i2 + 1 < 400
      · rw [y5.step hi6, g_b_some, if_pos tTT, h2.pass hi6, g_b_some, if_pos tTT, ck_ok (by omega) (by omega) (by omega), tn_n (by omega)]
        have h2' := h2.nx hi6 (by omega)
        have hX6 : PX tb n t h D szb ccb lcb (ntM (decide (fa = -1)) 4 (stT tb n (i2 + 1)) q) q (i2 + 1 + 1) (sI M6 21 4 (i3 ((i2 + 1 + 1 : Nat) : Int))) (sI N5 0 8 (i3 ((i2 + 1 + 1 : Nat) : Int))) := H5.mv (y5.nx hi6 (by omega)) h2' (y2.mv (by rw [rI_e, up_n (by decide)]) (by rw [rI_e, up_n (by decide)])) (h6.mv (by rw [rI_e, up_n (by decide)]) (by rw [rI_e, up_n (by decide)])) (fun k hk => by rw [rI_n hk, y3 k hk]) (by show M6.2.1 = M5.2.1; rw [y4]) (fun k k1 k2 => by rw [rI_n (by omega)]) rfl
        have hnm : (sI N5 0 8 (i3 ((i2 + 1 + 1 : Nat) : Int))).2.1 5 (i2 + 1) = i6 (vlT tb n (i2 + 1)) := hdv
        rw [hnm, r_actOf h2' hX6.2.2.2.1, hgf, g_b_some, ck_ok (by omega) (by omega) (by omega), g_m, ck_ok (by omega) (by omega) (by omega)]
        have H7 := hX6.nw (k := 25) (j := 12 * h + dNr D) (x := i3 fa) (Or.inr (Or.inr ⟨by omega, by omega, rfl⟩))
        have p8 : PF2 h N (sI (sI N5 0 8 (i3 ((i2 + 1 + 1 : Nat) : Int))) 25 (12 * h + dNr D) (i3 fa)) := (p7.o (by unfold fR; omega)).w (by omega) (by unfold inH; omega)
        have e25 : (sI (sI N5 0 8 (i3 ((i2 + 1 + 1 : Nat) : Int))) 25 (12 * h + dNr D) (i3 fa)).1 25 (12 * h + dNr D) = i3 fa := by rw [rI_e, up_e]
        have xk : ∀ k, k ≠ 0 → k ≠ 25 → (sI (sI N5 0 8 (i3 ((i2 + 1 + 1 : Nat) : Int))) 25 (12 * h + dNr D) (i3 fa)).1 k = N5.1 k := fun k a b => by rw [rI_n b, rI_n a]
        generalize sI (sI N5 0 8 (i3 ((i2 + 1 + 1 : Nat) : Int))) 25 (12 * h + dNr D) (i3 fa) = N7 at H7 p8 e25 xk ⊢
        rw [e25]
        have hr' : ∃ N8, (if i3 ((0 : Nat) : Int) ≤ i3 fa then f_X10_tellReflex_149 N7 else g_b (f_X10_tells 4 (i3 ((i2 + 1 : Nat) : Int)) N7) (fun _ M19 => f_X10_tellReflex_149 M19)) = f_X10_tellReflex_149 N8 ∧ rM (ntM (decide (fa = -1)) 4 (stT tb n (i2 + 1)) q) N8 ∧ (∀ k, k ≠ 0 → N8.1 k = N7.1 k) ∧ N8.2 = N7.2 ∧ DH tb n h (i2 + 1 + 1) N8 ∧ PF2 h N N8 := by
          by_cases e : fa = -1
          · obtain ⟨N8, a1, a2, a3, a4, a5⟩ := r_tells (f := 4) H7.2.1.2.2.1 h2.2.1 H7.2.2.2.2.2 hq6 (by omega) (fun g => Or.inl (hq5.2 g))
            rw [if_neg (by rw [e]; decide), show (4 : Int32) = i3 ((4 : Nat) : Int) from rfl, a1, g_b_some, decide_eq_true e]
            exact ⟨N8, rfl, a2, a3, a4, H7.2.1.mv (a3 2 (by decide)) (a3 3 (by decide)) (a3 4 (by decide)) a4 (a5 14 (by decide) (by decide)) (a5 8 (by decide) (by decide)) (a5 9 (by decide) (by decide)), p8.c a3 a4 (fun j hj => a5 j (by unfold fR at hj; omega) (by unfold fR at hj; omega))⟩
          · rw [if_pos (by rw [i3_le (by omega) (by omega) (by omega) (by omega)]; omega), decide_eq_false e, nt_f]
            exact ⟨N7, rfl, H7.2.2.2.2.2, fun _ _ => rfl, rfl, H7.2.1, p8⟩
        obtain ⟨N8, o1, o2, o3, o4, o5, o6⟩ := hr'
        rw [o1, f_X10_tellReflex_149]
        have H8 : PX tb n t h D szb ccb lcb (ntM (decide (fa = -1)) 4 (stT tb n (i2 + 1)) q) (ntM (decide (fa = -1)) 4 (stT tb n (i2 + 1)) q) (i2 + 1 + 1) (sI M6 21 4 (i3 ((i2 + 1 + 1 : Nat) : Int))) N8 := H7.mv H7.1 o5 H7.2.2.2.2.1 o2 (fun _ _ => rfl) rfl (fun k k1 k2 => o3 k (by omega)) (by rw [o4])
        have hqz := hq5.nt (b := decide (fa = -1)) (f := 4) h1.2.1 (by omega) (by omega)
        have hBz : (ntM (decide (fa = -1)) 4 (stT tb n (i2 + 1)) q).1 = 0 → dB D ∧ 0 ≤ fa ∧ fa < dNa D := fun g => by
          obtain ⟨g1, g2⟩ := nt_0 (by omega) g
          have g1 := of_decide_eq_false g1
          exact ⟨hB g2, by omega, by omega⟩
        have p9 : PF1 t M (sI M6 21 4 (i3 ((i2 + 1 + 1 : Nat) : Int))) := (p6.c y3 y4).o
        have ce8 : CE (sI M6 21 4 (i3 ((i2 + 1 + 1 : Nat) : Int))) N8 t h szb ccb lcb (i3 (sz : Int)) w1 w2' L := ce5.cw (by rw [rI_n (by omega), y3 (t + 1) (by omega)]) (fun k k1 k2 => by rw [o3 k (by omega), xk k (by omega) (by omega)])
        have f25 : N8.1 25 (12 * h + dNr D) = i3 fa := by rw [o3 25 (by decide), e25]
        have f26 : N8.1 26 (12 * h + dNr D) = w1 := by rw [o3 26 (by decide), xk 26 (by decide) (by decide), e26']
        have f27 : N8.1 27 (12 * h + dNr D) = w2' := by rw [o3 27 (by decide), xk 27 (by decide) (by decide), e27']
        generalize ntM (decide (fa = -1)) 4 (stT tb n (i2 + 1)) q = qz at H8 hqz hBz
        generalize sI M6 21 4 (i3 ((i2 + 1 + 1 : Nat) : Int)) = M8 at H8 p9 ce8 ⊢
        obtain ⟨u1, u2, ⟨u3, u4, u5⟩, u6, u7, u8⟩ := id H8
        have hnr7 := u6.2.1.1.2.2
        have hnr24 := u6.2.1.2.1.2.2
        rw [u2.ck, u2.ck, g_m, g_b_some, if_pos tTT, u2.tn, hnr24, i3_s1, u1.or, f_X4_addReflex, hnr7, iL12, if_neg (by rw [i3_le (by omega) (by omega) (by omega) (by omega)]; omega)]
        simp only [ck_ok (show (0 : Int) ≤ (dNr D : Int) by omega) (show (dNr D : Int) < (12 : Nat) by omega) (by decide), g_m, tn_n (show dNr D < 2147483648 by omega), rI_n (show t ≠ t + 7 by omega), rI_n (show t ≠ t + 8 by omega), hnr7, g_b_some, i3_s1]
        have hM : ∀ k : Nat, k ≠ t + 7 → k ≠ t + 8 → (sI (sI M8 (t + 7) (dNr D) (i3 (sz : Int))) (t + 8) (dNr D) (i3 fa)).1 k = M8.1 k := fun k a b => by rw [rI_n b, rI_n a]
        have hM7 : (sI (sI M8 (t + 7) (dNr D) (i3 (sz : Int))) (t + 8) (dNr D) (i3 fa)).1 (t + 7) (dNr D) = i3 (sz : Int) := by rw [rI_n (by omega), rI_e, up_e]
        have hM8 : (sI (sI M8 (t + 7) (dNr D) (i3 (sz : Int))) (t + 8) (dNr D) (i3 fa)).1 (t + 8) (dNr D) = i3 fa := by rw [rI_e, up_e]
        have hDC : DC (sI (sI M8 (t + 7) (dNr D) (i3 (sz : Int))) (t + 8) (dNr D) (i3 fa)) N8 t h szb ccb lcb D := u6.g ⟨fun k _ => by rw [hM (t + 1) (by omega) (by omega)], fun k _ _ => ⟨rfl, rfl⟩, fun q q1 q2 k _ _ => rfl⟩ (Nat.le_refl _) (Nat.le_refl _) (Nat.le_refl _) (fun j _ => by rw [hM t (by omega) (by omega)]) (fun k k1 k2 a _ => by rw [hM (t + k) (by omega) (by omega)]) (fun a _ => rfl) (fun j _ => by rw [hM (t + 6) (by omega) (by omega)]) (fun r hr => ⟨by rw [rI_n (by omega), rI_e, up_n (by omega)], by rw [rI_e, up_n (by omega), rI_n (by omega)]⟩) (fun k hk => rfl) (fun k hk => ⟨rfl, rfl⟩) (fun a ha => rfl) (fun k k1 k2 a _ => rfl) (fun k k1 k2 a _ => rfl) (fun k k1 k2 a _ => rfl)
        have hDC2 := hDC.aR ht (by omega) (v := fa) (L := L) ⟨hM8, f25⟩ (by rw [hM7, f26, f27]; exact ce8.cw (hM (t + 1) (by omega) (by omega)) (fun _ _ _ => rfl))
        have hX9 : PX tb n t h (aRf D fa L) szb ccb lcb qz qz (i2 + 1 + 1) (sI (sI (sI M8 (t + 7) (dNr D) (i3 (sz : Int))) (t + 8) (dNr D) (i3 fa)) t 7 (i3 ((dNr D + 1 : Nat) : Int))) (sI N8 24 h (i3 ((dNr D + 1 : Nat) : Int))) := by
          have hk : ∀ k, k ≠ t → k ≠ t + 7 → k ≠ t + 8 → (sI (sI (sI M8 (t + 7) (dNr D) (i3 (sz : Int))) (t + 8) (dNr D) (i3 fa)) t 7 (i3 ((dNr D + 1 : Nat) : Int))).1 k = M8.1 k := fun k a b c => by rw [rI_n a, hM k b c]
          exact ⟨u1.mv (hk 24 (by omega) (by omega) (by omega)) (hk 25 (by omega) (by omega) (by omega)) rfl (by rw [hk 21 (by omega) (by omega) (by omega)]) (by rw [hk 21 (by omega) (by omega) (by omega)]), u2.mv (by rw [rI_n (by decide)]) (by rw [rI_n (by decide)]) (by rw [rI_n (by decide)]) rfl (by rw [rI_n (by decide)]) (by rw [rI_n (by decide)]) (by rw [rI_n (by decide)]), ⟨by rw [rI_e, up_n (by decide), hM t (by omega) (by omega)]; exact u3, by rw [rI_n (by decide)]; exact u4, by rw [rI_n (by decide)]; exact u5⟩, hDC2, u7.mv (by rw [hk 21 (by omega) (by omega) (by omega)]) (by rw [hk 21 (by omega) (by omega) (by omega)]), u8.mv (by rw [rI_n (by decide)]) (by rw [rI_n (by decide)])⟩
        refine p_end hX9 hqz (((p9.w (by omega)).w (by omega)).w (by omega)) (o6.w (by omega) (by unfold inH; omega)) (by omega) (by omega) (by omega) (fun g => ?_) (by omega)
        obtain ⟨⟨v1, v2, v3, v4⟩, v5⟩ := hBz g
        refine ⟨v1, v2, v3, fun r hr => ?_⟩
        have hr : r < dNr D + 1 := hr
        show 0 ≤ (if r = dNr D then fa else dRa D r) ∧ (if r = dNr D then fa else dRa D r) < (dNa D : Int)
        by_cases e : r = dNr D
        · rw [if_pos e]; exact v5
        · rw [if_neg e]; exact v4 r (by omega)
      · rw [y5.stepF hi6, g_b_some, if_neg nFT, h2.passF hi6, g_b_some, if_neg nFT, g_b_some, if_neg nFT, w2_s]
        exact t_f (Or.inr rfl) y5 (p6.c y3 y4) p7
    · rw [if_neg (fun g => k17 (ks.1 g)), if_neg (show ¬ i3 ((kdT tb n (i2 + 1) : Nat) : Int) = 17 by rw [show (17 : Int32) = i3 17 from rfl, i3_eq (by omega) (by omega) (by omega) (by omega)]; omega), f_X1_tellReflex_84, show (17 : Int32) = i3 ((17 : Nat) : Int) from rfl, h1.take (by omega), if_neg k17, g_b_some, if_neg nFT, g_b_some, if_neg nFT, g_b_some, if_neg nFT, w2_s]
      exact t_f (Or.inl rfl) h1 p6 p7
  · rw [decide_eq_false k13, if_neg nFT, if_neg k13, g_b_some, if_neg nFT, show (1 : Int32) = i3 ((1 : Nat) : Int) from rfl, H4.2.1.wrong, g_b_some, g_b_some, if_neg nFT, w2_s]
    exact t_f (Or.inl rfl) H4.1 p3 p5
end
