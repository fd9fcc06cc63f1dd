/-! ===== TELLS of sizes and laws, side by side ===== -/
theorem g_i2 {o : Option (Bool × gM)} {k kk : gM → Option (Bool × gM)} : g_b (g_b o (fun r M => if r then k M else some (false, M))) (fun r M => if r then kk M else some (false, M)) = g_b o (fun r M => if r then g_b (k M) (fun r M => if r then kk M else some (false, M)) else some (false, M)) := by
  cases o with
  | none => rfl
  | some p =>
    obtain ⟨r, M⟩ := p
    cases r <;> rfl
def pE2 (M2 : gM) : Option (Bool × gM) := g_b (f_X10_isSign 59 M2) (fun r5 M4 => if r5 then f_X10_pass M4 else f_X10_wrong 1 M4)
section
variable {tb : Nat → Nat} {n t h sz cc lc i i0 : Nat} {M M0 N N0 : gM} {D : dT} {q q1 q2 : Nat × Nat}
theorem p_end (H : PX tb n t h D sz cc lc q q i M N) (hq : qOk tb n i q) (p1 : PF1 t M0 M) (p2 : PF2 h N0 N) (b1 : sz ≤ i + 1) (b2 : cc ≤ i) (b3 : 3 * lc ≤ i) (hd : q.1 = 0 → dB D) (hi0 : i0 ≤ i) : w2 (g_b (f_X1_take 19 M) (fun r M' => some (r, M'))) (pE2 N) (tQ tb n t h i0 M0 N0) := by
  have hr := H.1.2.1.r.1
  rw [K_id, show (19 : Int32) = i3 ((19 : Nat) : Int) from rfl, H.1.take (by omega), pE2, show (59 : Int32) = i3 (rwT 19) from rfl, H.2.1.sign (by omega), g_b_some]
  by_cases e : kdT tb n i = 19
  · rw [if_pos e, decide_eq_true e, if_pos tTT]
    by_cases hi : i < 400
    · rw [H.1.step hi, H.2.1.pass hi, w2_s]
      exact ⟨rfl, p1.o, p2.o (by unfold fR; omega), fun g => (by cases g), fun _ => ⟨i + 1, D, by omega, sz, cc, lc, q, H.st hi (by omega), ⟨b1, by omega, by omega⟩, hq.s H.1.2.1 (by omega), hd⟩⟩
    · rw [H.1.stepF hi, H.2.1.passF hi, w2_s]
      exact t_f (Or.inr rfl) H.1 p1 p2
  · rw [if_neg e, decide_eq_false e, if_neg nFT, show (1 : Int32) = i3 ((1 : Nat) : Int) from rfl, H.2.1.wrong, w2_s]
    exact t_f (Or.inl rfl) H.1 p1 p2
def sSz (D : dT) (j : Nat) (v : Int) : dT := ((if j = 0 then v else D.1.1, if j = 1 then v else D.1.2.1, if j = 2 then v else D.1.2.2), D.2)
theorem WB.rf {sz cc lc : Nat} : WB t h sz cc lc M N M N := ⟨fun _ _ => rfl, fun _ _ _ => ⟨rfl, rfl⟩, fun _ _ _ _ _ _ => rfl⟩
theorem DC.ss (H : DC M N t h sz cc lc D) (ht : t = 3 ∨ t = 12) {j : Nat} (hj : j < 3) {v : Int} : DC (sI M t j (i3 v)) (sI N (6 + j) h (i3 v)) t h sz cc lc (sSz D j v) := by
  obtain ⟨⟨⟨a1, a2, a3⟩, a4, a5, a6⟩, ⟨⟨b1, b2, b3⟩, ⟨b4, b5, b6⟩, b7⟩, c, d, e, l1, l2⟩ := H
  have g : WB t h sz cc lc M N (sI M t j (i3 v)) (sI N (6 + j) h (i3 v)) := ⟨fun k _ => by rw [rI_n (by omega)], fun k _ _ => by rw [rI_n (by omega), rI_n (by omega)]; exact ⟨rfl, rfl⟩, fun q q1 q2 k _ _ => by rw [rI_n (by omega)]⟩
  have mt : ∀ q, q ≠ j → (sI M t j (i3 v)).1 t q = M.1 t q := fun q hq => by rw [rI_e, up_n hq]
  have mk : ∀ k, k ≠ t → (sI M t j (i3 v)).1 k = M.1 k := fun k hk => by rw [rI_n hk]
  have nk : ∀ k, k ≠ 6 + j → (sI N (6 + j) h (i3 v)).1 k = N.1 k := fun k hk => by rw [rI_n hk]
  have mj : (sI M t j (i3 v)).1 t j = i3 v := by rw [rI_e, up_e]
  have nj : (sI N (6 + j) h (i3 v)).1 (6 + j) h = i3 v := by rw [rI_e, up_e]
  refine ⟨⟨⟨?_, ?_, ?_⟩, ?_, ?_, ?_⟩, ⟨⟨by rw [mt 5 (by omega)]; exact b1, by rw [mt 6 (by omega)]; exact b2, by rw [mt 7 (by omega)]; exact b3⟩, ⟨by rw [nk 11 (by omega)]; exact b4, by rw [nk 17 (by omega)]; exact b5, by rw [nk 24 (by omega)]; exact b6⟩, b7⟩, fun a ha => ?_, fun k hk => ?_, fun r hr => ?_, ?_, ?_⟩
  · show _ = i3 (if j = 0 then v else D.1.1)
    by_cases e : j = 0
    · subst e; rw [if_pos rfl]; exact mj
    · rw [if_neg e, mt 0 (by omega)]; exact a1
  · show _ = i3 (if j = 1 then v else D.1.2.1)
    by_cases e : j = 1
    · subst e; rw [if_pos rfl]; exact mj
    · rw [if_neg e, mt 1 (by omega)]; exact a2
  · show _ = i3 (if j = 2 then v else D.1.2.2)
    by_cases e : j = 2
    · subst e; rw [if_pos rfl]; exact mj
    · rw [if_neg e, mt 2 (by omega)]; exact a3
  · show _ = i3 (if j = 0 then v else D.1.1)
    by_cases e : j = 0
    · subst e; rw [if_pos rfl]; exact nj
    · rw [if_neg e, nk 6 (by omega)]; exact a4
  · show _ = i3 (if j = 1 then v else D.1.2.1)
    by_cases e : j = 1
    · subst e; rw [if_pos rfl]; exact nj
    · rw [if_neg e, nk 7 (by omega)]; exact a5
  · show _ = i3 (if j = 2 then v else D.1.2.2)
    by_cases e : j = 2
    · subst e; rw [if_pos rfl]; exact nj
    · rw [if_neg e, nk 8 (by omega)]; exact a6
  · obtain ⟨q1, q2, q3, q4⟩ := c a ha
    rw [mk (t + 3) (by omega), mk (t + 4) (by omega), mk (t + 5) (by omega), nk 13 (by omega), nk 14 (by omega), nk 15 (by omega), nk 16 (by omega)]
    exact ⟨q1, q2, q3, q4.mv g (Nat.le_refl _) (Nat.le_refl _) (Nat.le_refl _)⟩
  · obtain ⟨q1, q2, q3, q4, q5⟩ := d k hk
    rw [mk (t + 6) (by omega), nk 18 (by omega), nk 19 (by omega), nk 20 (by omega), nk 21 (by omega), nk 22 (by omega), nk 23 (by omega)]
    exact ⟨q1, q2, q3, q4, q5.mv g (Nat.le_refl _) (Nat.le_refl _) (Nat.le_refl _)⟩
  · obtain ⟨q1, q2⟩ := e r hr
    rw [mk (t + 7) (by omega), mk (t + 8) (by omega), nk 25 (by omega), nk 26 (by omega), nk 27 (by omega)]
    exact ⟨q1, q2.mv g (Nat.le_refl _) (Nat.le_refl _) (Nat.le_refl _)⟩
  · rw [mt 3 (by omega), nk 9 (by omega), nk 10 (by omega)]
    exact l1.mv g (Nat.le_refl _) (Nat.le_refl _)
  · rw [mt 4 (by omega), nk 9 (by omega), nk 10 (by omega)]
    exact l2.mv g (Nat.le_refl _) (Nat.le_refl _)
def mxS (j : Nat) : Int := if j = 0 then 8 else if j = 1 then 10 else 5
theorem dB_sz {j : Nat} (hj : j < 3) {v : Int} (hB : dB D) (h1 : 1 ≤ v) (h2 : v ≤ mxS j) : dB (sSz D j v) := by
  obtain ⟨⟨a1, a2, a3, a4, a5, a6⟩, b⟩ := hB
  refine ⟨?_, b⟩
  have : j = 0 ∨ j = 1 ∨ j = 2 := by omega
  rcases this with g | g | g <;> subst g
  · exact ⟨h1, h2, a3, a4, a5, a6⟩
  · exact ⟨a1, a2, h1, h2, a5, a6⟩
  · exact ⟨a1, a2, a3, a4, h1, h2⟩
theorem PX.ss (H : PX tb n t h D sz cc lc q1 q2 i M N) {j : Nat} (hj : j < 3) {v : Int} : PX tb n t h (sSz D j v) sz cc lc q1 q2 i (sI M t j (i3 v)) (sI N (6 + j) h (i3 v)) := by
  obtain ⟨h1, h2, ⟨h3, h4, h5⟩, h6, h7, h8⟩ := H
  have ht := h1.1
  exact ⟨h1.mv (by rw [rI_n (by omega)]) (by rw [rI_n (by omega)]) rfl (by rw [rI_n (by omega)]) (by rw [rI_n (by omega)]), h2.mv (by rw [rI_n (by omega)]) (by rw [rI_n (by omega)]) (by rw [rI_n (by omega)]) rfl (by rw [rI_n (by omega)]) (by rw [rI_n (by omega)]) (by rw [rI_n (by omega)]), ⟨by rw [rI_e, up_n (by omega)]; exact h3, by rw [rI_n (by omega)]; exact h4, by rw [rI_n (by omega)]; exact h5⟩, h6.ss ht hj, h7.mv (by rw [rI_n (by omega)]) (by rw [rI_n (by omega)]), h8.mv (by rw [rI_n (by omega)]) (by rw [rI_n (by omega)])⟩
/-- rope, wide, fast -/
theorem T_size {j : Nat} (hj : j < 3) (hR : PR tb n t h i D M N) (hk : kdT tb n i = j + 6) : w2 (f_X1_tellSize (i3 ((j + 6 : Nat) : Int)) M) (g_b (f_X10_tellNumber (i3 (j : Int)) N) (fun r3 M2 => if r3 then pE2 M2 else some (false, M2))) (tQ tb n t h i M N) := by
  obtain ⟨sz, cc, lc, q, H, ⟨b1, b2, b3⟩, hq, hB⟩ := hR
  have hh := H.2.1.1
  have ht := H.1.1
  rw [f_X1_tellSize, f_X10_tellNumber, g_i2]
  refine p_step H PF1.rf PF2.rf (by omega) (fun M1 N1 hi H1 p1 p2 _ _ _ _ _ => ?_)
  have hq1 : qOk tb n (i + 1) q := hq.s H.1.2.1 (by omega)
  -- what both come to
  have e1 : (if i3 ((j + 6 : Nat) : Int) = 6 then f_X1_tellSize_32 (i3 ((j + 6 : Nat) : Int)) 8 M1 else if i3 ((j + 6 : Nat) : Int) = 7 then f_X1_tellSize_32 (i3 ((j + 6 : Nat) : Int)) 10 M1 else f_X1_tellSize_32 (i3 ((j + 6 : Nat) : Int)) 5 M1) = g_b (f_X1_takeInt (i3 1) (i3 (mxS j)) M1) (fun r4 M3 => if r4 then g_or 3 12 (M3.2.2 21 6) (fun t5 => g_m (sI M3 t5 j (M3.1 21 5)) (fun M6 => g_b (f_X1_take 19 M6) (fun r8 M7 => some (r8, M7)))) else some (false, M3)) := by
    have : j = 0 ∨ j = 1 ∨ j = 2 := by omega
    rcases this with g | g | g <;> subst g
    · rw [if_pos (show i3 ((0 + 6 : Nat) : Int) = 6 from rfl), f_X1_tellSize_32]
      rfl
    · rw [if_neg (show ¬ i3 ((1 + 6 : Nat) : Int) = 6 by decide), if_pos (show i3 ((1 + 6 : Nat) : Int) = 7 from rfl), f_X1_tellSize_32]
      rfl
    · rw [if_neg (show ¬ i3 ((2 + 6 : Nat) : Int) = 6 by decide), if_neg (show ¬ i3 ((2 + 6 : Nat) : Int) = 7 by decide), f_X1_tellSize_32]
      rfl
  have e2 : (if i3 (j : Int) = 0 then f_X10_tellNumber_29 (i3 (j : Int)) 1 8 N1 else if i3 (j : Int) = 1 then f_X10_tellNumber_29 (i3 (j : Int)) 1 10 N1 else f_X10_tellNumber_29 (i3 (j : Int)) 1 5 N1) = g_b (f_X10_takesInt (i3 1) (i3 (mxS j)) N1) (fun r4 M3 => if r4 then g_ck (M3.1 0 14) 2 (g_m (sI M3 (6 + j) (tn (M3.1 0 14)) (M3.1 0 59)) (fun M7 => some (true, M7))) else some (false, M3)) := by
    have : j = 0 ∨ j = 1 ∨ j = 2 := by omega
    rcases this with g | g | g <;> subst g
    · rw [if_pos (show i3 ((0 : Nat) : Int) = 0 from rfl), f_X10_tellNumber_29]
      rfl
    · rw [if_neg (show ¬ i3 ((1 : Nat) : Int) = 0 by decide), if_pos (show i3 ((1 : Nat) : Int) = 1 from rfl), f_X10_tellNumber_29]
      rfl
    · rw [if_neg (show ¬ i3 ((2 : Nat) : Int) = 0 by decide), if_neg (show ¬ i3 ((2 : Nat) : Int) = 1 by decide), f_X10_tellNumber_29]
      rfl
  have hmx : 5 ≤ mxS j ∧ mxS j ≤ 10 := by unfold mxS; split <;> (try split) <;> omega
  show w2 (if i3 ((j + 6 : Nat) : Int) = 6 then f_X1_tellSize_32 (i3 ((j + 6 : Nat) : Int)) 8 M1 else if i3 ((j + 6 : Nat) : Int) = 7 then f_X1_tellSize_32 (i3 ((j + 6 : Nat) : Int)) 10 M1 else f_X1_tellSize_32 (i3 ((j + 6 : Nat) : Int)) 5 M1) (g_b (if i3 (j : Int) = 0 then f_X10_tellNumber_29 (i3 (j : Int)) 1 8 N1 else if i3 (j : Int) = 1 then f_X10_tellNumber_29 (i3 (j : Int)) 1 10 N1 else f_X10_tellNumber_29 (i3 (j : Int)) 1 5 N1) (fun r M => if r then pE2 M else some (false, M))) (tQ tb n t h i M N)
  rw [e1, e2, g_i2]
  refine p_int H1 hq1 p1 p2 (l1 := 1) (l2 := 1) (by omega) (by omega) (by omega) (fun v M2 N2 a1 a2 a3 a4 a5 a6 a7 p3 p4 _ _ _ => ?_)
  rw [a7.1.or, w2_ml, a5, a7.2.1.ck, a7.2.1.tn, g_m, g_b_some, if_pos tTT, a6]
  have hq2 := hq1.nt (b := decide (v < 1 ∨ mxS j < v)) (f := 5) H1.1.2.1 (by omega) (by omega)
  refine p_end (a7.ss hj) hq2 (p3.w (by omega)) (p4.w (by omega) (by unfold inH; omega)) (by omega) (by omega) (by omega) (fun g => ?_) (by omega)
  unfold ntM at g
  by_cases e : v < 1 ∨ mxS j < v
  · rw [decide_eq_true e] at g
    by_cases e2 : q.1 = 0
    · rw [if_pos ⟨rfl, e2⟩] at g; simp at g
    · rw [if_neg (fun g => e2 g.2)] at g; exact absurd g e2
  · rw [decide_eq_false e, if_neg (by simp)] at g
    exact dB_sz hj (hB g) (by omega) (by omega)
def sLw (D : dT) (b : Bool) (X : List Cw) : dT := (D.1, D.2.1, D.2.2.1, D.2.2.2.1, if b then D.2.2.2.2.1 else some X, if b then some X else D.2.2.2.2.2)
/-- the laws: swing (b false), lean (b true) -/
theorem T_law {b : Bool} (hR : PR tb n t h i D M N) (hk : kdT tb n i = if b then 1 else 2) : w2 (f_X1_tellLaw (i3 ((kdT tb n i : Nat) : Int)) M) (g_b (f_X10_tellLaw (b2i b) N) (fun r3 M2 => if r3 then pE2 M2 else some (false, M2))) (tQ tb n t h i M N) := by
  obtain ⟨sz, cc, lc, q, H, ⟨b1, b2, b3⟩, hq, hB⟩ := hR
  have hh := H.2.1.1
  have ht := H.1.1
  have hk2 : kdT tb n i ≤ 2 := by rw [hk]; split <;> omega
  rw [f_X1_tellLaw, f_X10_tellLaw, g_i2]
  refine p_step H PF1.rf PF2.rf (by omega) (fun M1 N1 hi H1 p1 p2 _ _ _ _ _ => ?_)
  obtain ⟨h1, h2, ⟨h3, h4, h5⟩, h6, h7, h8⟩ := id H1
  rw [h1.or, w2_vl, h3, g_i2]
  refine w2_b _ (L_expr (sz := sz) (c := cc) (by omega) (by omega) h1 h2 h3 h4) (fun r1 M2 r2 N2 hx => ?_)
  obtain ⟨rfl, f1, f2, f3, f4, f5⟩ := hx
  cases r1 with
  | false =>
    rw [if_neg nFT, if_neg nFT, w2_s]
    exact ⟨rfl, p1.tr f1.pf, p2.tr (f2.pf hh), fun _ => f4 rfl, fun g => by cases g⟩
  | true =>
    obtain ⟨i', X, a1, a2, a3, a4, a5⟩ := f5 rfl
    obtain ⟨c1, c2, c3, c4, c5, c6, c7⟩ := id a4
    obtain ⟨d1, d2, d3, d4, d5, d6, d7, d8, d9⟩ := id a5
    have hi4 := c1.2.1.2.2.1
    rw [if_pos tTT, if_pos tTT, c1.or]
    -- the class lays the end
    have hKS : KS tb n t sz M1 i' (X.map ec1) M2 := ⟨c1, c2, by rw [c6, List.length_map], c7⟩
    obtain ⟨M3, m1, m2⟩ := hKS.emit (w := i3 9) (by rw [List.length_map]; omega)
    obtain ⟨s1, s2, s3, s4⟩ := m2
    have hlen : (X.map ec1 ++ [i3 9]).length = X.length + 1 := by rw [List.length_append, List.length_map]; rfl
    rw [hlen] at s3
    rw [show (9 : Int32) = i3 9 from rfl, m1, g_b_some]
    have hcl : ∀ (K : gM → Option (Bool × gM)), (if i3 ((kdT tb n i : Nat) : Int) = 2 then g_or 3 12 (M3.2.2 21 6) (fun t14 => g_m (sI M3 t14 3 (i3 (sz : Int))) K) else g_or 3 12 (M3.2.2 21 6) (fun t10 => g_m (sI M3 t10 4 (i3 (sz : Int))) K)) = K (sI M3 t (if b then 4 else 3) (i3 (sz : Int))) := fun K => by
      rw [s1.or, s1.or, hk]
      cases b <;> rfl
    rw [hcl (fun M15 => g_b (f_X1_take 19 M15) (fun r17 M16 => some (r17, M16)))]
    -- the reference keeps from where to where
    have hx4 : (2 : Int32) * N2.1 0 14 + b2i b = i3 ((2 * h + (if b then 1 else 0) : Nat) : Int) := by
      have eb : b2i b = i3 (((if b then 1 else 0) : Nat) : Int) := by cases b <;> rfl
      rw [d1.2.2.2.1, iL2, i3_mul, eb, i3_add]
      rfl
    have hlt : 2 * h + (if b then 1 else 0) < 4 := by split <;> omega
    rw [hx4, ck_ok (by omega) (by omega) (by omega), g_m, tn_n (by omega), d9]
    have hD3 : DH tb n h i' (sI N2 9 (2 * h + (if b then 1 else 0)) (i3 ((500 * h + cc : Nat) : Int))) := d1.mv (by rw [rI_n (by decide)]) (by rw [rI_n (by decide)]) (by rw [rI_n (by decide)]) rfl (by rw [rI_n (by decide)]) (by rw [rI_n (by decide)]) (by rw [rI_n (by decide)])
    have e14 : (sI N2 9 (2 * h + (if b then 1 else 0)) (i3 ((500 * h + cc : Nat) : Int))).1 0 14 = N2.1 0 14 := by rw [rI_n (by decide)]
    rw [hD3.ck, e14, hx4, ck_ok (by omega) (by omega) (by omega), g_m, g_b_some, if_pos tTT, tn_n (by omega), d1.tn, rI_n (by decide), d7]
    -- the relation
    have hq1 : qOk tb n (i + 1) q := hq.s H.1.2.1 (by omega)
    have hqi : qOk tb n i' q := ⟨hq.1, fun g => by
      have := hq1.2 g
      have hm : ∀ d, i + 1 + d ≤ i' → stT tb n (i + 1) ≤ stT tb n (i + 1 + d) := by
        intro d
        induction d with
        | zero => intro _; exact Nat.le_refl _
        | succ d ih =>
          intro hd
          have hx : IX tb n (i + 1 + d) := ⟨c1.2.1.1, c1.2.1.2.1, by omega, fun j hj => c1.2.1.2.2.2 j (by omega)⟩
          have := hx.lt (c1.2.1.2.2.2 (i + 1 + d) (by omega))
          have := ih (by omega)
          rw [show i + 1 + (d + 1) = i + 1 + d + 1 by omega]
          omega
      have := hm (i' - (i + 1)) (by omega)
      rw [show i + 1 + (i' - (i + 1)) = i' by omega] at this
      omega⟩
    have hDC := h6.x (sz' := sz + (X.length + 1)) (cc' := cc + X.length) (lc' := lc) ht s2 (⟨f2.1, f2.2.1, f2.2.2.1, f2.2.2.2.1, f2.2.2.2.2.1, fun q q1 q2 k hk => f2.2.2.2.2.2 q q1 q2 k (by omega)⟩ : EG h cc lc N1 N2) (by omega) (by omega) (Nat.le_refl _)
    have hM1 : cM q M3 := h7.mv (s2.2.2.1 2 (by decide) (by decide) (by decide) (by decide)) (s2.2.2.1 3 (by decide) (by decide) (by decide) (by decide))
    have hM2 : rM q N2 := h8.mv (f2.2.2.1 11 (by decide)) (f2.2.2.1 12 (by decide))
    have hX2 : PX tb n t h (sLw D b X) (sz + (X.length + 1)) (cc + X.length) lc q q i' (sI M3 t (if b then 4 else 3) (i3 (sz : Int))) (sI (sI N2 9 (2 * h + (if b then 1 else 0)) (i3 ((500 * h + cc : Nat) : Int))) 10 (2 * h + (if b then 1 else 0)) (i3 ((500 * h + cc + X.length : Nat) : Int))) := by
      have hb43 : (if b then 4 else 3) = 3 ∨ (if b then 4 else 3) = 4 := by cases b; exact Or.inl rfl; exact Or.inr rfl
      refine ⟨s1.mv (by rw [rI_n (by omega)]) (by rw [rI_n (by omega)]) rfl (by rw [rI_n (by omega)]) (by rw [rI_n (by omega)]), hD3.mv (by rw [rI_n (by decide)]) (by rw [rI_n (by decide)]) (by rw [rI_n (by decide)]) rfl (by rw [rI_n (by decide)]) (by rw [rI_n (by decide)]) (by rw [rI_n (by decide)]), ⟨?_, ?_, ?_⟩, ?_, hM1.mv (by rw [rI_n (by omega)]) (by rw [rI_n (by omega)]), hM2.mv (by rw [rI_n (by decide), rI_n (by decide)]) (by rw [rI_n (by decide), rI_n (by decide)])⟩
      · rw [rI_e, up_n (by omega)]; exact s3
      · rw [rI_n (by decide), rI_n (by decide), d7, Nat.add_assoc]
      · rw [rI_n (by decide), rI_n (by decide), f3]; exact h5
      · obtain ⟨⟨⟨z1, z2, z3⟩, z4, z5, z6⟩, ⟨⟨y1, y2, y3⟩, ⟨y4, y5, y6⟩, y7⟩, c, d, e, l1, l2⟩ := hDC
        have g : WB t h (sz + (X.length + 1)) (cc + X.length) lc M3 N2 (sI M3 t (if b then 4 else 3) (i3 (sz : Int))) (sI (sI N2 9 (2 * h + (if b then 1 else 0)) (i3 ((500 * h + cc : Nat) : Int))) 10 (2 * h + (if b then 1 else 0)) (i3 ((500 * h + cc + X.length : Nat) : Int))) := ⟨fun k _ => by rw [rI_n (by omega)], fun k _ _ => by rw [rI_n (by omega), rI_n (by omega), rI_n (by omega), rI_n (by omega)]; exact ⟨rfl, rfl⟩, fun q q1 q2 k _ _ => by rw [rI_n (by omega), rI_n (by omega)]⟩
        have mt : ∀ q, q ≠ 3 → q ≠ 4 → (sI M3 t (if b then 4 else 3) (i3 (sz : Int))).1 t q = M3.1 t q := fun q _ _ => by rw [rI_e, up_n (by omega)]
        have mk : ∀ k, k ≠ t → (sI M3 t (if b then 4 else 3) (i3 (sz : Int))).1 k = M3.1 k := fun k hk => by rw [rI_n hk]
        have nk : ∀ k, k ≠ 9 → k ≠ 10 → (sI (sI N2 9 (2 * h + (if b then 1 else 0)) (i3 ((500 * h + cc : Nat) : Int))) 10 (2 * h + (if b then 1 else 0)) (i3 ((500 * h + cc + X.length : Nat) : Int))).1 k = N2.1 k := fun k k1 k2 => by rw [rI_n k2, rI_n k1]
        have hnew : LE (sI M3 t (if b then 4 else 3) (i3 (sz : Int))) (sI (sI N2 9 (2 * h + (if b then 1 else 0)) (i3 ((500 * h + cc : Nat) : Int))) 10 (2 * h + (if b then 1 else 0)) (i3 ((500 * h + cc + X.length : Nat) : Int))) t h (sz + (X.length + 1)) (cc + X.length) (i3 (sz : Int)) (i3 ((500 * h + cc : Nat) : Int)) (i3 ((500 * h + cc + X.length : Nat) : Int)) (some X) := by
          refine Or.inr ⟨X, rfl, a2, ⟨sz, rfl, ?_, by omega⟩, 500 * h + cc, rfl, rfl, by omega, by omega, ?_⟩
          · rw [mk (t + 1) (by omega)]; exact s4
          · rw [nk 29 (by omega) (by omega), nk 30 (by omega) (by omega)]; exact d8
        refine ⟨⟨⟨by rw [mt 0 (by omega) (by omega)]; exact z1, by rw [mt 1 (by omega) (by omega)]; exact z2, by rw [mt 2 (by omega) (by omega)]; exact z3⟩, by rw [nk 6 (by omega) (by omega)]; exact z4, by rw [nk 7 (by omega) (by omega)]; exact z5, by rw [nk 8 (by omega) (by omega)]; exact z6⟩, ⟨⟨by rw [mt 5 (by omega) (by omega)]; exact y1, by rw [mt 6 (by omega) (by omega)]; exact y2, by rw [mt 7 (by omega) (by omega)]; exact y3⟩, ⟨by rw [nk 11 (by omega) (by omega)]; exact y4, by rw [nk 17 (by omega) (by omega)]; exact y5, by rw [nk 24 (by omega) (by omega)]; exact y6⟩, y7⟩, fun a ha => ?_, fun k hk => ?_, fun r hr => ?_, ?_, ?_⟩
        · obtain ⟨q1, q2, q3, q4⟩ := c a ha
          rw [mk (t + 3) (by omega), mk (t + 4) (by omega), mk (t + 5) (by omega), nk 13 (by omega) (by omega), nk 14 (by omega) (by omega), nk 15 (by omega) (by omega), nk 16 (by omega) (by omega)]
          exact ⟨q1, q2, q3, q4.mv g (Nat.le_refl _) (Nat.le_refl _) (Nat.le_refl _)⟩
        · obtain ⟨q1, q2, q3, q4, q5⟩ := d k hk
          rw [mk (t + 6) (by omega), nk 18 (by omega) (by omega), nk 19 (by omega) (by omega), nk 20 (by omega) (by omega), nk 21 (by omega) (by omega), nk 22 (by omega) (by omega), nk 23 (by omega) (by omega)]
          exact ⟨q1, q2, q3, q4, q5.mv g (Nat.le_refl _) (Nat.le_refl _) (Nat.le_refl _)⟩
        · obtain ⟨q1, q2⟩ := e r hr
          rw [mk (t + 7) (by omega), mk (t + 8) (by omega), nk 25 (by omega) (by omega), nk 26 (by omega) (by omega), nk 27 (by omega) (by omega)]
          exact ⟨q1, q2.mv g (Nat.le_refl _) (Nat.le_refl _) (Nat.le_refl _)⟩
        · cases b with
          | false =>
            rw [show (if false = true then 4 else 3) = 3 from rfl, show (if false = true then 1 else 0) = 0 from rfl] at *
            rw [Nat.add_zero] at hnew ⊢
            rw [rI_e, up_e, rI_n (by decide), rI_e, up_e, rI_e, up_e]
            exact hnew
          | true =>
            rw [show (if true = true then 4 else 3) = 4 from rfl, show (if true = true then 1 else 0) = 1 from rfl] at *
            rw [rI_e, up_n (by decide), rI_n (by decide), rI_e, up_n (by omega), rI_e, up_n (by omega), rI_n (by decide)]
            exact l1.mv g (Nat.le_refl _) (Nat.le_refl _)
        · cases b with
          | false =>
            rw [show (if false = true then 4 else 3) = 3 from rfl, show (if false = true then 1 else 0) = 0 from rfl] at *
            rw [rI_e, up_n (by decide), rI_n (by decide), rI_e, up_n (by omega), rI_e, up_n (by omega), rI_n (by decide)]
            exact l2.mv g (Nat.le_refl _) (Nat.le_refl _)
          | true =>
            rw [show (if true = true then 4 else 3) = 4 from rfl, show (if true = true then 1 else 0) = 1 from rfl] at *
            rw [rI_e, up_e, rI_n (by decide), rI_e, up_e, rI_e, up_e]
            exact hnew
    refine p_end hX2 hqi (((p1.tr s2.pf)).w (by omega)) ((((p2.tr (f2.pf hh)).w (by omega) ?_)).w (by omega) ?_) (by omega) (by omega) (by omega) (fun g => hB g) (by omega)
    · unfold inH; split <;> omega
    · unfold inH; split <;> omega
end
