/-! ===== CONDS: a literal, and all of them ===== -/
def kAf (k17 : Int32 → Int32 → gM → Option (Bool × gM)) (x1 : Int32) (M19 : gM) : Option (Bool × gM) := (g_b (f_X10_isWord (11 : Int32) M19) (fun r21 M20 => (if r21 then (f_X10_cond_250 (f_X10_cond_255 k17) x1 M20) else (g_b (f_X10_isWord (12 : Int32) M20) (fun r27 M26 => (if r27 then (f_X10_cond_250 (f_X10_cond_255 k17) x1 M26) else (f_X10_cond_255 k17 x1 (0 : Int32) M26)))))))
def k34 (k17 : Int32 → Int32 → gM → Option (Bool × gM)) (x1 x3 x4 : Int32) (M5 : gM) : Option (Bool × gM) := (g_ck x3 400 (g_m (sI M5 34 (tn x3) (M5.1 0 62)) (fun M7 => (g_ck (M7.1 0 14) 2 (g_ck x3 400 (g_m (sI M7 35 (tn x3) (M7.1 28 (tn (M7.1 0 14)))) (fun M8 => (g_b (f_X10_isSign (300 : Int32) M8) (fun r10 M9 => (if r10 then (f_X10_cond_140 (f_X10_cond_145 k17) x1 x3 x4 M9) else (g_b (f_X10_isSign (301 : Int32) M9) (fun r31 M30 => (if r31 then (f_X10_cond_140 (f_X10_cond_145 k17) x1 x3 x4 M30) else (g_b (f_X10_isSign (302 : Int32) M30) (fun r33 M32 => (if r33 then (f_X10_cond_140 (f_X10_cond_145 k17) x1 x3 x4 M32) else (g_b (f_X10_isSign (60 : Int32) M32) (fun r35 M34 => (if r35 then (f_X10_cond_140 (f_X10_cond_145 k17) x1 x3 x4 M34) else (f_X10_cond_145 k17 x1 x3 x4 (0 : Int32) M34))))))))))))))))))))
section
variable {tb : Nat → Nat} {n t h sz c l i i0 cc : Nat} {M M0 N N0 : gM} {ws : List Int32} {L : List Lw}
theorem lc_K : ∀ k : Nat, k < 28 → 24 ≤ k → lcT (k - 24) = rwT k := by decide +kernel
theorem k_sgn {k17 : Int32 → Int32 → gM → Option (Bool × gM)} {x1 x3 x4 : Int32} (hD : DH tb n h i N) : (g_b (f_X10_isSign (300 : Int32) N) (fun r10 M9 => (if r10 then (f_X10_cond_140 (f_X10_cond_145 k17) x1 x3 x4 M9) else (g_b (f_X10_isSign (301 : Int32) M9) (fun r31 M30 => (if r31 then (f_X10_cond_140 (f_X10_cond_145 k17) x1 x3 x4 M30) else (g_b (f_X10_isSign (302 : Int32) M30) (fun r33 M32 => (if r33 then (f_X10_cond_140 (f_X10_cond_145 k17) x1 x3 x4 M32) else (g_b (f_X10_isSign (60 : Int32) M32) (fun r35 M34 => (if r35 then (f_X10_cond_140 (f_X10_cond_145 k17) x1 x3 x4 M34) else (f_X10_cond_145 k17 x1 x3 x4 (0 : Int32) M34))))))))))))) = f_X10_cond_145 k17 x1 x3 x4 (b2i (decide (24 ≤ kdT tb n i ∧ kdT tb n i ≤ 27))) N := by
  rw [show (300 : Int32) = i3 (rwT 24) from rfl, show (301 : Int32) = i3 (rwT 25) from rfl, show (302 : Int32) = i3 (rwT 27) from rfl, show (60 : Int32) = i3 (rwT 26) from rfl, hD.sign (by omega), g_b_some]
  unfold f_X10_cond_140
  by_cases a : kdT tb n i = 24
  · rw [decide_eq_true a, if_pos tTT, decide_eq_true (by omega)]; rfl
  rw [decide_eq_false a, if_neg nFT, hD.sign (by omega), g_b_some]
  by_cases b : kdT tb n i = 25
  · rw [decide_eq_true b, if_pos tTT, decide_eq_true (by omega)]; rfl
  rw [decide_eq_false b, if_neg nFT, hD.sign (by omega), g_b_some]
  by_cases d : kdT tb n i = 27
  · rw [decide_eq_true d, if_pos tTT, decide_eq_true (by omega)]; rfl
  rw [decide_eq_false d, if_neg nFT, hD.sign (by omega), g_b_some]
  by_cases e : kdT tb n i = 26
  · rw [decide_eq_true e, if_pos tTT, decide_eq_true (by omega)]; rfl
  rw [decide_eq_false e, if_neg nFT, decide_eq_false (by omega)]
  rfl
theorem L_lit {K1 : Bool → gM → Option (Bool × gM)} (hK1 : ∀ M, K1 false M = some (false, M)) {k17 : Int32 → Int32 → gM → Option (Bool × gM)} {o nn : Bool} (hC : KS tb n t sz M0 i (L.flatMap lw ++ (if o then [i3 8] else [])) M) (hD : RS tb n h c l N0 i cc L N) (h1 : sz + (L.flatMap lw ++ (if o then [i3 8] else [])).length ≤ i) (h2 : c + cc ≤ i) (h3 : 3 * (l + L.length) ≤ i)
    (hK : ∀ i' cc' m A B M' N', i + 3 ≤ i' → okL (o, nn, m, A, B) → KS tb n t sz M0 i' ((L ++ [(o, nn, m, A, B)]).flatMap lw) M' → RS tb n h c l N0 i' cc' (L ++ [(o, nn, m, A, B)]) N' → sz + ((L ++ [(o, nn, m, A, B)]).flatMap lw).length ≤ i' → c + cc' ≤ i' → w2 (K1 true M') (kAf k17 (i3 ((if o then rwL 0 L + 1 else rwL 0 L : Nat) : Int)) N') (cQ tb n t h sz c l i0 M0 N0)) :
    w2 (g_b (f_X1_literal_39 (b2i nn) M) K1) (g_b (f_X10_expr N) (fun r6 M5 => if r6 then k34 k17 (i3 ((if o then rwL 0 L + 1 else rwL 0 L : Nat) : Int)) (i3 ((200 * h + l + L.length : Nat) : Int)) (b2i nn) M5 else some (false, M5))) (cQ tb n t h sz c l i0 M0 N0) := by
  have hi4 := hC.1.2.1.2.2.1
  have hh := hD.1.1
  generalize hrow : (if o then rwL 0 L + 1 else rwL 0 L : Nat) = row at *
  generalize hws : L.flatMap lw ++ (if o then [i3 8] else []) = ws at *
  have hlw : ∀ l' : Lw, l'.1 = o → (L ++ [l']).flatMap lw = ws ++ lB l' := by
    intro l' e
    rw [List.flatMap_append, List.flatMap_singleton, ← hws]
    unfold lw
    rw [e, List.append_assoc]
  rw [f_X1_literal_39]
  refine k_expr hK1 hC hD (by omega) h2 (by omega) (fun i1 A M1 N1 a1 a2 a3 hC1 hD1 a4 a5 a6 => ?_)
  have hi14 := hC1.1.2.1.2.2.1
  have hk31 := hC1.1.2.1.r.1
  rw [hC1.1.kind, g_b_some, g_v, show (24 : Int32) = i3 24 from rfl, i3_sub]
  -- the reference writes where the first side stands
  rw [k34, ck_ok (by omega) (by omega) (by omega), w2_mr, tn_n (by omega), a5]
  have hD2 := hD1.tw (q := 34) (x := i3 ((500 * h + c + cc : Nat) : Int)) (by omega) (by omega)
  rw [hD2.1.ck, ck_ok (by omega) (by omega) (by omega), w2_mr, hD2.1.tn, hD2.2.2.1]
  have hD3 := hD2.tw (q := 35) (x := i3 ((500 * h + c + (cc + A.length) : Nat) : Int)) (by omega) (by omega)
  have e34 : ∀ q, (sI (sI N1 34 (200 * h + l + L.length) (i3 ((500 * h + c + cc : Nat) : Int))) 35 (200 * h + l + L.length) (i3 ((500 * h + c + (cc + A.length) : Nat) : Int))).1 q (200 * h + l + L.length) = if q = 35 then i3 ((500 * h + c + (cc + A.length) : Nat) : Int) else if q = 34 then i3 ((500 * h + c + cc : Nat) : Int) else N1.1 q (200 * h + l + L.length) := by
    intro q
    by_cases g : q = 35
    · subst g; rw [rI_e, up_e, if_pos rfl]
    · rw [rI_n g, if_neg g]
      by_cases g2 : q = 34
      · subst g2; rw [rI_e, up_e, if_pos rfl]
      · rw [rI_n g2, if_neg g2]
  have hF3 : FV ((sI (sI N1 34 (200 * h + l + L.length) (i3 ((500 * h + c + cc : Nat) : Int))) 35 (200 * h + l + L.length) (i3 ((500 * h + c + (cc + A.length) : Nat) : Int))).1 29) ((sI (sI N1 34 (200 * h + l + L.length) (i3 ((500 * h + c + cc : Nat) : Int))) 35 (200 * h + l + L.length) (i3 ((500 * h + c + (cc + A.length) : Nat) : Int))).1 30) (500 * h + c + cc) A := by
    rw [rI_n (by decide), rI_n (by decide), rI_n (by decide), rI_n (by decide)]; exact a4
  generalize sI (sI N1 34 (200 * h + l + L.length) (i3 ((500 * h + c + cc : Nat) : Int))) 35 (200 * h + l + L.length) (i3 ((500 * h + c + (cc + A.length) : Nat) : Int)) = N3 at hD3 e34 hF3 ⊢
  rw [k_sgn hD3.1]
  have hf : f_X1_fail 1 M1 = some (false, sI (sI M1 21 1 (i3 ((1 : Nat) : Int))) 21 0 (i3 ((stT tb n i1 : Nat) : Int))) := by rw [show (1 : Int32) = i3 ((1 : Nat) : Int) from rfl]; exact hC1.1.fail
  have hw : f_X10_wrong 1 N3 = some (false, sI (sI N3 0 9 (i3 ((1 : Nat) : Int))) 0 10 (i3 ((stT tb n i1 : Nat) : Int))) := by rw [show (1 : Int32) = i3 ((1 : Nat) : Int) from rfl]; exact hD3.1.wrong
  by_cases hk : 24 ≤ kdT tb n i1 ∧ kdT tb n i1 ≤ 27
  · obtain ⟨m, hm⟩ : ∃ m : Nat, kdT tb n i1 = m + 24 := ⟨kdT tb n i1 - 24, by omega⟩
    rw [decide_eq_true hk, f_X10_cond_145, if_neg nT0, hm, show ((m + 24 : Nat) : Int) - 24 = (m : Int) by omega, if_neg (by rw [iL0, i3_lt (by omega) (by omega) (by omega) (by omega)]; omega), if_pos (by rw [iL3, i3_le (by omega) (by omega) (by omega) (by omega)]; omega)]
    have h8 := hD3.1.2.2.2.2.1
    have d4 := (hD3.1.2.2.1 i1 (by omega) (by omega) hD3.1.2.1.2.2.2).2.2.2.1 (by omega) (by omega)
    have elc : rwT (kdT tb n i1) = lcT m := by
      rw [← lc_K _ (by omega) hk.1, hm]
      congr 1
    rw [h8, ck_ok (by omega) (by omega) (by omega), ck_ok (by omega) (by omega) (by omega), w2_mr, tn_n (by omega), tn_n (by omega), d4, elc]
    have hD4 := hD3.tw (q := 33) (x := i3 (lcT m)) (by omega) (by omega)
    have e33 : ∀ q, (sI N3 33 (200 * h + l + L.length) (i3 (lcT m))).1 q (200 * h + l + L.length) = if q = 33 then i3 (lcT m) else N3.1 q (200 * h + l + L.length) := by
      intro q
      by_cases g : q = 33
      · subst g; rw [rI_e, up_e, if_pos rfl]
      · rw [rI_n g, if_neg g]
    have hF4 : FV ((sI N3 33 (200 * h + l + L.length) (i3 (lcT m))).1 29) ((sI N3 33 (200 * h + l + L.length) (i3 (lcT m))).1 30) (500 * h + c + cc) A := by
      rw [rI_n (by decide), rI_n (by decide)]; exact hF3
    generalize sI N3 33 (200 * h + l + L.length) (i3 (lcT m)) = N4 at hD4 e33 hF4 ⊢
    by_cases hi : i1 < 400
    · rw [hC1.1.step hi, hD4.1.pass hi, g_b_some, g_b_some, if_pos tTT, if_pos tTT]
      have hC5 := hC1.st hi (by omega)
      have hD5 := hD4.st hi (by omega)
      have e8 : ∀ q, q ≠ 0 → (sI N4 0 8 (i3 ((i1 + 1 : Nat) : Int))).1 q = N4.1 q := fun q hq => by rw [rI_n hq]
      generalize sI N4 0 8 (i3 ((i1 + 1 : Nat) : Int)) = N5 at hD5 e8 ⊢
      generalize sI M1 21 4 (i3 ((i1 + 1 : Nat) : Int)) = M5 at hC5 ⊢
      refine k_expr hK1 hC5 hD5 (by rw [List.length_append, List.length_map]; omega) (by omega) (by omega) (fun i2 B M6 N6 b1 b2 b3 hC6 hD6 b4 b5 b6 => ?_)
      have hi24 := hC6.1.2.1.2.2.1
      rw [hC6.1.or]
      obtain ⟨M7, m1, m2⟩ := hC6.emit (w := lW (o, nn, m, A, B)) (by rw [List.length_append, List.length_append, List.length_map, List.length_map]; omega)
      have eW : ((i3 (m : Int) * 2 + b2i nn) * 16 + 7 : Int32) = lW (o, nn, m, A, B) := by
        unfold lW
        show _ = i3 (((m * 2 + (if nn then 1 else 0) : Nat) : Int) * 16 + (7 : Nat))
        have eb : b2i nn = i3 (((if nn then 1 else 0) : Nat) : Int) := by cases nn <;> rfl
        rw [eb, iL2, i3_mul, i3_add, iL16, i3_mul, iL7, i3_add]
        congr 1
      rw [eW, m1, g_b_some, g_b_some]
      rw [hD6.1.ck, ck_ok (by omega) (by omega) (by omega), w2_mr, hD6.1.tn, hD6.2.2.1]
      have hD7 := hD6.tw (q := 36) (x := i3 ((500 * h + c + (cc + A.length + B.length) : Nat) : Int)) (by omega) (by omega)
      rw [ck_ok (by omega) (by omega) (by omega), w2_mr]
      have hD8 := hD7.tw (q := 32) (x := zb (b2i nn)) (by omega) (by omega)
      rw [ck_ok (by omega) (by omega) (by omega), w2_mr]
      have hD9 := hD8.tw (q := 37) (x := i3 (row : Int)) (by omega) (by omega)
      have e9 : ∀ q, (sI (sI (sI N6 36 (200 * h + l + L.length) (i3 ((500 * h + c + (cc + A.length + B.length) : Nat) : Int))) 32 (200 * h + l + L.length) (zb (b2i nn))) 37 (200 * h + l + L.length) (i3 (row : Int))).1 q (200 * h + l + L.length) = if q = 37 then i3 (row : Int) else if q = 32 then zb (b2i nn) else if q = 36 then i3 ((500 * h + c + (cc + A.length + B.length) : Nat) : Int) else N6.1 q (200 * h + l + L.length) := by
        intro q
        by_cases g : q = 37
        · subst g; rw [rI_e, up_e, if_pos rfl]
        · rw [rI_n g, if_neg g]
          by_cases g2 : q = 32
          · subst g2; rw [rI_e, up_e, if_pos rfl]
          · rw [rI_n g2, if_neg g2]
            by_cases g3 : q = 36
            · subst g3; rw [rI_e, up_e, if_pos rfl]
            · rw [rI_n g3, if_neg g3]
      have e29 : (sI (sI (sI N6 36 (200 * h + l + L.length) (i3 ((500 * h + c + (cc + A.length + B.length) : Nat) : Int))) 32 (200 * h + l + L.length) (zb (b2i nn))) 37 (200 * h + l + L.length) (i3 (row : Int))).1 29 = N6.1 29 := by rw [rI_n (by decide), rI_n (by decide), rI_n (by decide)]
      have e30 : (sI (sI (sI N6 36 (200 * h + l + L.length) (i3 ((500 * h + c + (cc + A.length + B.length) : Nat) : Int))) 32 (200 * h + l + L.length) (zb (b2i nn))) 37 (200 * h + l + L.length) (i3 (row : Int))).1 30 = N6.1 30 := by rw [rI_n (by decide), rI_n (by decide), rI_n (by decide)]
      generalize sI (sI (sI N6 36 (200 * h + l + L.length) (i3 ((500 * h + c + (cc + A.length + B.length) : Nat) : Int))) 32 (200 * h + l + L.length) (zb (b2i nn))) 37 (200 * h + l + L.length) (i3 (row : Int)) = N9 at hD9 e9 e29 e30 ⊢
      rw [hD9.1.ck, hD9.1.ck, w2_mr, hD9.1.tn, hD9.2.2.2.1, i3_s1]
      -- what the literals' cells hold at last
      have g6 : ∀ q, 32 ≤ q → q ≤ 37 → N6.1 q (200 * h + l + L.length) = N5.1 q (200 * h + l + L.length) := fun q q1 q2 => b6.2.2.2.2.2 q q1 q2 _ (by omega)
      have gA : ∀ j, 500 * h + c + cc ≤ j → j < 500 * h + c + cc + A.length → N6.1 29 j = N4.1 29 j ∧ N6.1 30 j = N4.1 30 j := fun j j1 j2 => by
        have := b6.2.2.2.2.1 j (Or.inl (by omega))
        rw [e8 29 (by decide), e8 30 (by decide)] at this
        exact this
      have hlq : lQ N9 h (500 * h + c + (cc + A.length + B.length)) (200 * h + l + L.length) (o, nn, m, A, B) := by
        refine ⟨?_, ?_, 500 * h + c + cc, ⟨by omega, by show 500 * h + c + cc + A.length + B.length ≤ _; omega⟩, ?_, ?_, ?_, ?_, ?_⟩
        · rw [e9, if_neg (by decide), if_pos rfl, zb_ok]
        · rw [e9, if_neg (by decide), if_neg (by decide), if_neg (by decide), g6 33 (by omega) (by omega), e8 33 (by decide), e33, if_pos rfl]
        · rw [e9, if_neg (by decide), if_neg (by decide), if_neg (by decide), g6 34 (by omega) (by omega), e8 34 (by decide), e33, if_neg (by decide), e34, if_neg (by decide), if_pos rfl]
        · rw [e9, if_neg (by decide), if_neg (by decide), if_neg (by decide), g6 35 (by omega) (by omega), e8 35 (by decide), e33, if_neg (by decide), e34, if_pos rfl]
          congr 2
          show _ = 500 * h + c + cc + A.length
          omega
        · rw [e9, if_neg (by decide), if_neg (by decide), if_pos rfl]
          congr 2
          show _ = 500 * h + c + cc + A.length + B.length
          omega
        · rw [e29, e30]
          exact FV_c _ _ (fun j j1 j2 => gA j j1 j2) hF4
        · rw [e29, e30]
          show FV (N6.1 29) (N6.1 30) (500 * h + c + cc + A.length) B
          rw [show 500 * h + c + cc + A.length = 500 * h + c + (cc + A.length) by omega]
          exact b4
      have h37 : N9.1 37 (200 * h + l + L.length) = i3 ((if o then rwL 0 L + 1 else rwL 0 L : Nat) : Int) := by rw [e9, if_pos rfl, hrow]
      have hlen : (L ++ [((o, nn, m, A, B) : Lw)]).length = L.length + 1 := by rw [List.length_append]; rfl
      have hRS : RS tb n h c l N0 i2 (cc + A.length + B.length) (L ++ [(o, nn, m, A, B)]) (sI N9 31 h (i3 (((200 * h + l + L.length : Nat) : Int) + 1))) := by
        obtain ⟨r1, r2, r3, r4, r5, r6⟩ := hD9
        refine ⟨r1.mv (by rw [rI_n (by decide)]) (by rw [rI_n (by decide)]) (by rw [rI_n (by decide)]) rfl (by rw [rI_n (by decide)]) (by rw [rI_n (by decide)]) (by rw [rI_n (by decide)]), r2.k, by rw [rI_n (by decide)]; exact r3, ?_, ?_, by rw [rI_n (by decide)]; exact r6⟩
        · rw [rI_e, up_e, hlen]
          rfl
        · refine rQ_m (M := N9) (Nat.le_refl _) (fun j _ _ => by rw [rI_n (by decide), rI_n (by decide)]; exact ⟨rfl, rfl⟩) _ _ _ (fun s s1 s2 j _ _ => by rw [rI_n (by omega)]) ?_
          exact rQ_s L _ 0 (o, nn, m, A, B) r5 h37 hlq
      have hw1 := hlw (o, nn, m, A, B) rfl
      have hlB : lB (o, nn, m, A, B) = A.map ec1 ++ (B.map ec1 ++ [lW (o, nn, m, A, B)]) := rfl
      refine hK i2 (cc + A.length + B.length) m A B M7 _ (by omega) ⟨by show m < 4; omega, a2, b2⟩ ?_ hRS ?_ (by omega)
      · rw [hw1, hlB, ← List.append_assoc, ← List.append_assoc]
        exact m2
      · rw [hw1, hlB, List.length_append, List.length_append, List.length_append, List.length_map, List.length_map, List.length_singleton]
        omega
    · rw [hC1.1.stepF hi, hD4.1.passF hi, g_b_some, g_b_some, if_neg nFT, if_neg nFT, g_b_some, hK1, w2_s]
      exact cq_f (Or.inr rfl) hC1 hD4
  · rw [decide_eq_false hk, f_X10_cond_145, if_pos eF0, hw, g_b_some]
    have hcl : (if i3 (((kdT tb n i1 : Nat) : Int) - 24) < 0 then g_b (f_X1_fail 1 M1) (fun r7 M6 => some (r7, M6)) else if i3 (((kdT tb n i1 : Nat) : Int) - 24) ≤ 3 then g_b (f_X1_step M1) (fun r9 M8 => if r9 then g_b (f_X1_expression M8) (fun r11 M10 => if r11 then g_or 3 12 (M10.2.2 21 6) (fun t12 => g_b (f_X4_emit t12 ((i3 (((kdT tb n i1 : Nat) : Int) - 24) * 2 + b2i nn) * 16 + 7) M10) (fun r14 M13 => some (true, M13))) else some (false, M10)) else some (false, M8)) else g_b (f_X1_fail 1 M1) (fun r16 M15 => some (r16, M15))) = some (false, sI (sI M1 21 1 (i3 ((1 : Nat) : Int))) 21 0 (i3 ((stT tb n i1 : Nat) : Int))) := by
      rw [hf, g_b_some]
      by_cases g : kdT tb n i1 < 24
      · rw [if_pos (by rw [iL0, i3_lt (by omega) (by omega) (by omega) (by omega)]; omega)]
      · rw [if_neg (by rw [iL0, i3_lt (by omega) (by omega) (by omega) (by omega)]; omega), if_neg (by rw [iL3, i3_le (by omega) (by omega) (by omega) (by omega)]; omega)]
    rw [hcl, g_b_some, hK1, w2_s]
    exact cq_f (Or.inl rfl) hC1 hD3
/-- not, not .. -/
theorem L_nots {K1 : Bool → gM → Option (Bool × gM)} (hK1 : ∀ M, K1 false M = some (false, M)) {k17 : Int32 → Int32 → gM → Option (Bool × gM)} {row kk : Int32} (iB : Nat) (hK : ∀ i nn M N, iB ≤ i → KS tb n t sz M0 i ws M → RS tb n h c l N0 i cc L N → w2 (g_b (f_X1_literal_39 (b2i nn) M) K1) (g_b (f_X10_expr N) (fun r6 M5 => if r6 then k34 k17 row kk (b2i nn) M5 else some (false, M5))) (cQ tb n t h sz c l i0 M0 N0)) : ∀ (k n1 m1 i st : Nat) (nn : Bool) (M N : gM), i + k = 401 → k < n1 → k < m1 → st ≤ i → iB ≤ i → KS tb n t sz M0 i ws M → RS tb n h c l N0 i cc L N → w2 (g_b (f_X1_literal_4 n1 (b2i nn) (i3 (st : Int)) M) K1) (f_X10_cond_34 k17 m1 row kk (b2i nn) N) (cQ tb n t h sz c l i0 M0 N0) := by
  intro k
  induction k with
  | zero =>
    intro n1 m1 i st nn M N h1 h2 h3 h4 h5 hC hD
    have := hC.1.2.1.2.2.1
    omega
  | succ k ih =>
    intro n1 m1 i st nn M N h1 h2 h3 h4 h5 hC hD
    have hi4 := hC.1.2.1.2.2.1
    have hk31 := hC.1.2.1.r.1
    cases n1 with
    | zero => omega
    | succ n1 =>
    cases m1 with
    | zero => omega
    | succ m1 =>
    rw [f_X1_literal_4, iL400, if_neg (by rw [i3_lt (by omega) (by omega) (by omega) (by omega)]; omega), hC.1.kind, g_b_some, f_X10_cond_34, show (10 : Int32) = i3 (rwT 16) from rfl, hD.1.word (by omega), g_b_some, i3_s1]
    by_cases k16 : kdT tb n i = 16
    · rw [decide_eq_true k16, if_pos tTT, if_pos (show i3 ((kdT tb n i : Nat) : Int) = 16 by rw [k16]; rfl), g_v]
      refine k_step hK1 hC hD (by omega) (fun M' N' hi hM hN => ?_)
      cases nn with
      | true =>
        rw [if_neg nT0]
        exact ih n1 m1 (i + 1) (st + 1) false M' N' (by omega) (by omega) (by omega) (by omega) (by omega) hM hN
      | false =>
        rw [if_pos eF0]
        exact ih n1 m1 (i + 1) (st + 1) true M' N' (by omega) (by omega) (by omega) (by omega) (by omega) hM hN
    · rw [decide_eq_false k16, if_neg nFT, if_neg (show ¬ i3 ((kdT tb n i : Nat) : Int) = 16 by rw [iL16, i3_eq (by omega) (by omega) (by omega) (by omega)]; omega)]
      exact hK i nn M N h5 hC hD
theorem c_loop (hsz : sz ≤ i0) : ∀ (k n1 m1 i st cc : Nat) (o : Bool) (L : List Lw) (M N : gM), 401 ≤ i + k → k + 1 < n1 → k + 1 < m1 → st ≤ i → i0 ≤ i → (∀ l' ∈ L, okL l') → (L = [] → o = false) → (L ≠ [] → ∃ l' L', L = l' :: L' ∧ l'.1 = false) → KS tb n t sz M0 i (L.flatMap lw ++ (if o then [i3 8] else [])) M → RS tb n h c l N0 i cc L N → sz + (L.flatMap lw ++ (if o then [i3 8] else [])).length ≤ i → c + cc ≤ i → 3 * (l + L.length) ≤ i → w2 (f_X1_condition_4 n1 1 (i3 (st : Int)) M) (f_X10_cond_17 m1 (i3 ((if o then rwL 0 L + 1 else rwL 0 L : Nat) : Int)) 1 N) (cQ tb n t h sz c l i0 M0 N0) := by
  intro k
  induction k with
  | zero =>
    intro n1 m1 i st cc o L M N h1 h2 h3 h4 h5 h6 h7 h8 hC
    have := hC.1.2.1.2.2.1
    omega
  | succ k ih =>
    intro n1 m1 i st cc o L M N h1 h2 h3 h4 h5 h6 h7 h8 hC hD b1 b2 b3
    have hi4 := hC.1.2.1.2.2.1
    have hh := hD.1.1
    cases n1 with
    | zero => omega
    | succ n1 =>
    cases m1 with
    | zero => omega
    | succ m1 =>
    rw [f_X1_condition_4, iL400, if_neg (by rw [i3_lt (by omega) (by omega) (by omega) (by omega)]; omega), if_neg n10, f_X10_cond_17, if_neg n10, hD.1.ck, w2_vr, hD.1.tn, hD.2.2.2.1, f_X1_literal]
    refine L_nots (fun M => if_neg nFT) i (fun i' nn M' N' hi' hM hN => ?_) (401 - i) FU FU i 0 false M N (by omega) (by rw [FU_s]; omega) (by rw [FU_s]; omega) (by omega) (Nat.le_refl _) hC hD
    refine L_lit (fun M => if_neg nFT) hM hN (by omega) (by omega) (by omega) (fun i2 cc' m A B M2 N2 g1 g2 hC2 hD2 g3 g4 => ?_)
    have hi24 := hC2.1.2.1.2.2.1
    have hk31 := hC2.1.2.1.r.1
    have hlen : (L ++ [((o, nn, m, A, B) : Lw)]).length = L.length + 1 := by rw [List.length_append]; rfl
    have hok : ∀ l' ∈ L ++ [((o, nn, m, A, B) : Lw)], okL l' := fun l' hl' => by
      rcases List.mem_append.1 hl' with g | g
      · exact h6 l' g
      · rw [List.mem_singleton.1 g]; exact g2
    have hfirst : ∃ l' L', L ++ [((o, nn, m, A, B) : Lw)] = l' :: L' ∧ l'.1 = false := by
      cases L with
      | nil => exact ⟨(o, nn, m, A, B), [], rfl, h7 rfl⟩
      | cons x L' =>
        obtain ⟨l', L'', e1, e2⟩ := h8 (by intro g; cases g)
        cases e1
        exact ⟨x, L' ++ [(o, nn, m, A, B)], rfl, e2⟩
    have hne : L ++ [((o, nn, m, A, B) : Lw)] ≠ [] := by intro g; simp at g
    have hrow : (if o then rwL 0 L + 1 else rwL 0 L) = rwL 0 (L ++ [((o, nn, m, A, B) : Lw)]) := by rw [rwL_s]
    rw [hrow]
    generalize hLL : L ++ [((o, nn, m, A, B) : Lw)] = L2 at *
    rw [if_pos tTT, hC2.1.kind, g_b_some, hC2.1.kind, g_b_some, kAf, show (11 : Int32) = i3 (rwT 15) from rfl, hD2.1.word (by omega), g_b_some]
    have c66 : ∀ (x1 : Int32) (st' : Nat) (M3 : gM), f_X1_condition_66 (f_X1_condition_4 n1) 1 (i3 (st : Int)) M3 = g_b (f_X1_step M3) (fun r M' => if r then f_X1_condition_4 n1 1 (i3 ((st + 1 : Nat) : Int)) M' else some (false, M')) := fun x1 st' M3 => by rw [f_X1_condition_66, if_neg n10, i3_s1]; rfl
    by_cases k15 : kdT tb n i2 = 15
    · rw [decide_eq_true k15, if_pos tTT, if_pos (show i3 ((kdT tb n i2 : Nat) : Int) = 15 by rw [k15]; rfl), f_X1_condition_42, f_X1_condition_47, hC2.1.kind, g_b_some, if_neg (show ¬ i3 ((kdT tb n i2 : Nat) : Int) = 14 by rw [k15]; decide), c66 1 st, f_X10_cond_250, f_X10_cond_255, show (12 : Int32) = i3 (rwT 14) from rfl, hD2.1.word (by omega), g_b_some, decide_eq_false (by omega), if_neg nFT, f_X10_cond_268, if_neg n10]
      have := k_step (K1 := fun r M => some (r, M)) (fun M => rfl) hC2 hD2 (by omega) (k1 := fun M' => f_X1_condition_4 n1 1 (i3 ((st + 1 : Nat) : Int)) M') (k2 := fun N' => f_X10_cond_17 m1 (i3 ((rwL 0 L2 : Nat) : Int)) 1 N') (i0 := i0) (fun M' N' hi hM hN => by
        rw [K_id]
        have := ih n1 m1 (i2 + 1) (st + 1) cc' false L2 M' N' (by omega) (by omega) (by omega) (by omega) (by omega) hok (fun g => absurd g hne) (fun _ => hfirst) (by rw [if_neg nFT, List.append_nil]; exact hM) hN (by rw [if_neg nFT, List.append_nil]; omega) (by omega) (by omega)
        rw [if_neg nFT] at this
        exact this)
      rw [K_id] at this
      exact this
    · rw [decide_eq_false k15, if_neg nFT, if_neg (show ¬ i3 ((kdT tb n i2 : Nat) : Int) = 15 by rw [iL15, i3_eq (by omega) (by omega) (by omega) (by omega)]; omega), show (12 : Int32) = i3 (rwT 14) from rfl, hD2.1.word (by omega), g_b_some]
      by_cases k14 : kdT tb n i2 = 14
      · rw [decide_eq_true k14, if_pos tTT, if_pos (show i3 ((kdT tb n i2 : Nat) : Int) = 14 by rw [k14]; rfl), f_X1_condition_42, f_X1_condition_47, hC2.1.kind, g_b_some, if_pos (show i3 ((kdT tb n i2 : Nat) : Int) = 14 by rw [k14]; rfl), hC2.1.or]
        obtain ⟨M3, m1', m2'⟩ := hC2.emit (w := i3 8) (by omega)
        rw [show (8 : Int32) = i3 8 from rfl, m1', g_b_some, c66 1 st, f_X10_cond_250, f_X10_cond_255, show (12 : Int32) = i3 (rwT 14) from rfl, hD2.1.word (by omega), g_b_some, decide_eq_true k14, if_pos tTT, f_X10_cond_268, if_neg n10, i3_s1]
        have := k_step (K1 := fun r M => some (r, M)) (fun M => rfl) m2' hD2 (by omega) (k1 := fun M' => f_X1_condition_4 n1 1 (i3 ((st + 1 : Nat) : Int)) M') (k2 := fun N' => f_X10_cond_17 m1 (i3 ((rwL 0 L2 + 1 : Nat) : Int)) 1 N') (i0 := i0) (fun M' N' hi hM hN => by
          rw [K_id]
          have := ih n1 m1 (i2 + 1) (st + 1) cc' true L2 M' N' (by omega) (by omega) (by omega) (by omega) (by omega) hok (fun g => absurd g hne) (fun _ => hfirst) (by rw [if_pos tTT]; exact hM) hN (by rw [if_pos tTT, List.length_append, List.length_singleton]; omega) (by omega) (by omega)
          rw [if_pos tTT] at this
          exact this)
        rw [K_id] at this
        exact this
      · rw [decide_eq_false k14, if_neg nFT, if_neg (show ¬ i3 ((kdT tb n i2 : Nat) : Int) = 14 by rw [show (14 : Int32) = i3 14 from rfl, i3_eq (by omega) (by omega) (by omega) (by omega)]; omega), f_X1_condition_47, hC2.1.kind, g_b_some, if_neg (show ¬ i3 ((kdT tb n i2 : Nat) : Int) = 14 by rw [show (14 : Int32) = i3 14 from rfl, i3_eq (by omega) (by omega) (by omega) (by omega)]; omega), f_X1_condition_66, if_pos rfl, f_X10_cond_255, show (12 : Int32) = i3 (rwT 14) from rfl, hD2.1.word (by omega), g_b_some, decide_eq_false k14, if_neg nFT, f_X10_cond_268, if_pos rfl]
        cases n1 with
        | zero => omega
        | succ n1 =>
        cases m1 with
        | zero => omega
        | succ m1 =>
        rw [f_X1_condition_4, if_pos (show (0 : Int32) = 0 from rfl), ite_self, f_X10_cond_17, if_pos (show (0 : Int32) = 0 from rfl), f_X1_condition_85, hC2.1.or]
        obtain ⟨M3, m1', m2'⟩ := hC2.emit (w := i3 9) (by omega)
        rw [show (9 : Int32) = i3 9 from rfl, m1', g_b_some, w2_s]
        exact ⟨rfl, m2'.2.1, hD2.2.1, fun g => (by cases g), fun _ => ⟨i2, cc', L2, by omega, hok, hfirst, m2', hD2, g3, g4, by omega⟩⟩
theorem L_cond (hC : CH tb n t i M) (hD : DH tb n h i N) (h8 : M.1 t 8 = i3 (sz : Int)) (h28 : N.1 28 h = i3 ((500 * h + c : Nat) : Int)) (h31 : N.1 31 h = i3 ((200 * h + l : Nat) : Int)) (hsz : sz ≤ i) (hc : c ≤ i) (hl : 3 * l ≤ i) : w2 (f_X1_condition M) (f_X10_cond N) (cQ tb n t h sz c l i M N) := by
  have hi4 := hC.2.1.2.2.1
  rw [f_X1_condition, f_X10_cond, hD.ck, hD.tn, w2_mr, h31]
  refine c_loop (tb := tb) (n := n) (t := t) (h := h) (sz := sz) (c := c) (l := l) (i0 := i) (M0 := M) (N0 := N) hsz (401 - i) FU FU i 0 0 false [] M (sI N 0 63 (i3 ((200 * h + l : Nat) : Int))) (by omega) (by rw [FU_s]; omega) (by rw [FU_s]; omega) (by omega) (Nat.le_refl _) (fun l' g => by cases g) (fun _ => rfl) (fun g => absurd rfl g) ⟨hC, EF.rf, h8, trivial⟩ ⟨hD.mv ?_ ?_ ?_ rfl ?_ ?_ ?_, EG.rf.o (by omega), by rw [rI_n (by decide)]; exact h28, by rw [rI_n (by decide)]; exact h31, trivial, by rw [rI_e, up_e]⟩ (by simpa using hsz) (by omega) (by simpa using hl)
  · rw [rI_n (by decide)]
  · rw [rI_n (by decide)]
  · rw [rI_n (by decide)]
  · rw [rI_e, up_n (by decide)]
  · rw [rI_e, up_n (by decide)]
  · rw [rI_e, up_n (by decide)]
end
