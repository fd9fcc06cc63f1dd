/-! ===== TELLS of ACTS, side by side ===== -/
section
variable {tb : Nat → Nat} {n t h sz cc lc i i0 : Nat} {M M0 N N0 : gM} {D : dT} {q q1 q2 : Nat × Nat}
theorem PX.nw (H : PX tb n t h D sz cc lc q1 q2 i M N) {k j : Nat} {x : Int32} (hk : (13 ≤ k ∧ k ≤ 16 ∧ j = 6 * h + dNa D) ∨ (18 ≤ k ∧ k ≤ 23 ∧ j = 8 * h + dNg D) ∨ (25 ≤ k ∧ k ≤ 27 ∧ j = 12 * h + dNr D)) : PX tb n t h D sz cc lc q1 q2 i M (sI N k j x) := by
  obtain ⟨h1, h2, ⟨h3, h4, h5⟩, h6, h7, h8⟩ := H
  have e : ∀ s, s ≠ k → (sI N k j x).1 s = N.1 s := fun s hs => by rw [rI_n hs]
  have e' : ∀ s p, (s ≠ k ∨ p ≠ j) → (sI N k j x).1 s p = N.1 s p := fun s p hp => by
    by_cases g : s = k
    · subst g; rw [rI_e, up_n (by omega)]
    · rw [rI_n g]
  refine ⟨h1, h2.mv (e 2 (by omega)) (e 3 (by omega)) (e 4 (by omega)) rfl (by rw [e 0 (by omega)]) (by rw [e 0 (by omega)]) (by rw [e 0 (by omega)]), ⟨h3, by rw [e 28 (by omega)]; exact h4, by rw [e 31 (by omega)]; exact h5⟩, ?_, h7, h8.mv (by rw [e 0 (by omega)]) (by rw [e 0 (by omega)])⟩
  exact h6.g ⟨fun _ _ => rfl, fun s _ _ => by rw [e 29 (by omega), e 30 (by omega)]; exact ⟨rfl, rfl⟩, fun s s1 s2 p _ _ => by rw [e s (by omega)]⟩ (Nat.le_refl _) (Nat.le_refl _) (Nat.le_refl _) (fun _ _ => rfl) (fun _ _ _ _ _ => rfl) (fun _ _ => rfl) (fun _ _ => rfl) (fun _ _ => ⟨rfl, rfl⟩) (fun s hs => by rw [e s (by omega)]) (fun s hs => by rw [e s (by omega)]; exact ⟨rfl, rfl⟩) (fun _ _ => rfl) (fun s s1 s2 a ha => e' s _ (by omega)) (fun s s1 s2 a ha => e' s _ (by omega)) (fun s s1 s2 a ha => e' s _ (by omega))
theorem c_named (hD : DC M N t h sz cc lc D) {x : Int64} : f_X4_actNamed t x M = some (i3 (leA (fun a => dNm D a = x) (dNa D) (-1)), M) := by
  obtain ⟨-, ⟨⟨b1, -⟩, -, b7, -⟩, c, -⟩ := hD
  rw [f_X4_actNamed]
  have : ∀ (m a : Nat), a ≤ dNa D → dNa D < m + a → (∀ b, b < a → dNm D b ≠ x) → f_X4_actNamed_2 t m x (i3 (a : Int)) M = some (i3 (leA (fun a => dNm D a = x) (dNa D) (-1)), M) := by
    intro m
    induction m with
    | zero => intro a h1 h2; omega
    | succ m ih =>
      intro a h1 h2 h3
      rw [f_X4_actNamed_2, b1]
      by_cases e : a = dNa D
      · rw [if_pos (by rw [i3_le (by omega) (by omega) (by omega) (by omega)]; omega), leA_d (P := fun a => dNm D a = x) (fun b hb => h3 b (by omega))]
        rfl
      · rw [if_neg (by rw [i3_le (by omega) (by omega) (by omega) (by omega)]; omega), iL6, if_neg (by rw [i3_le (by omega) (by omega) (by omega) (by omega)]; omega), ck_ok (by omega) (by omega) (by omega), tn_n (by omega), (c a (by omega)).1.1]
        by_cases g : dNm D a = x
        · rw [if_pos ((lg_cmp_eq _ _).2 g), leA_e (P := fun a => dNm D a = x) (by omega) g h3]
        · rw [if_neg (fun g2 => g ((lg_cmp_eq _ _).1 g2)), i3_s1]
          refine ih (a + 1) (by omega) (by omega) (fun b hb => ?_)
          by_cases eb : b = a
          · rw [eb]; exact g
          · exact h3 b (by omega)
  exact this FU 0 (by omega) (by rw [FU_s]; omega) (fun b hb => by omega)
theorem r_actOf (hH : DH tb n h i N) (hD : DC M N t h sz cc lc D) {x : Int64} : f_X10_actOf x N = some (i3 (leA (fun a => dNm D a = x) (dNa D) (-1)), N) := by
  obtain ⟨-, ⟨-, ⟨b4, -⟩, b7, -⟩, c, -⟩ := hD
  have hh := hH.1
  rw [f_X10_actOf]
  have : ∀ (m a : Nat), a ≤ dNa D → dNa D < m + a → (∀ b, b < a → dNm D b ≠ x) → f_X10_actOf_2 m x (i3 (a : Int)) N = some (i3 (leA (fun a => dNm D a = x) (dNa D) (-1)), N) := by
    intro m
    induction m with
    | zero => intro a h1 h2; omega
    | succ m ih =>
      intro a h1 h2 h3
      rw [f_X10_actOf_2, hH.ck, hH.tn, b4]
      by_cases e : a = dNa D
      · rw [if_pos (by rw [i3_le (by omega) (by omega) (by omega) (by omega)]; omega), leA_d (P := fun a => dNm D a = x) (fun b hb => h3 b (by omega))]
        rfl
      · rw [if_neg (by rw [i3_le (by omega) (by omega) (by omega) (by omega)]; omega), hH.2.2.2.1, iL6, i3_mul, i3_add, show 6 * (h : Int) + (a : Int) = ((6 * h + a : Nat) : Int) by omega, ck_ok (by omega) (by omega) (by omega), tn_n (by omega), (c a (by omega)).1.2]
        by_cases g : dNm D a = x
        · rw [if_pos ((lg_cmp_eq _ _).2 g), leA_e (P := fun a => dNm D a = x) (by omega) g h3]
        · rw [if_neg (fun g2 => g ((lg_cmp_eq _ _).1 g2)), i3_s1]
          refine ih (a + 1) (by omega) (by omega) (fun b hb => ?_)
          by_cases eb : b = a
          · rw [eb]; exact g
          · exact h3 b (by omega)
  exact this FU 0 (by omega) (by rw [FU_s]; omega) (fun b hb => by omega)
theorem leA_r {P : Nat → Prop} {k : Nat} : -1 ≤ leA P k (-1) ∧ leA P k (-1) < (k : Int) ∨ leA P k (-1) = -1 := by
  rcases leA_x (P := P) (n := k) (-1) with ⟨a, h1, h2, h3, h4⟩ | ⟨h1, h2⟩
  · exact Or.inl (by omega)
  · exact Or.inr h2
def aAc (D : dT) (nm : Int64) (pu st : Int) (L : List Lw) : dT := (D.1, (dNa D + 1, fun a => if a = dNa D then nm else dNm D a, fun a => if a = dNa D then pu else dPu D a, fun a => if a = dNa D then st else dSt D a, fun a => if a = dNa D then L else dCA D a), D.2.2)
theorem DC.aA (H : DC M N t h sz cc lc D) (ht : t = 3 ∨ t = 12) (hna : dNa D < 6) {nm : Int64} {pu st : Int} {L : List Lw} (e1 : M.2.1 (t + 2) (dNa D) = nm) (e2 : N.2.1 12 (6 * h + dNa D) = nm) (e3 : M.1 (t + 3) (dNa D) = i3 pu) (e4 : N.1 13 (6 * h + dNa D) = i3 pu) (e5 : M.1 (t + 4) (dNa D) = i3 st) (e6 : N.1 14 (6 * h + dNa D) = i3 st) (ce : CE M N t h sz cc lc (M.1 (t + 5) (dNa D)) (N.1 15 (6 * h + dNa D)) (N.1 16 (6 * h + dNa D)) L) : DC (sI M t 5 (i3 ((dNa D + 1 : Nat) : Int))) (sI N 11 h (i3 ((dNa D + 1 : Nat) : Int))) t h sz cc lc (aAc D nm pu st L) := by
  obtain ⟨⟨⟨z1, z2, z3⟩, z4, z5, z6⟩, ⟨⟨y1, y2, y3⟩, ⟨y4, y5, y6⟩, y7, y8⟩, c, d, e, l1, l2⟩ := H
  have g : WB t h sz cc lc M N (sI M t 5 (i3 ((dNa D + 1 : Nat) : Int))) (sI N 11 h (i3 ((dNa D + 1 : Nat) : Int))) := ⟨fun k _ => by rw [rI_n (by omega)], fun k _ _ => by rw [rI_n (by omega), rI_n (by omega)]; exact ⟨rfl, rfl⟩, fun q q1 q2 k _ _ => by rw [rI_n (by omega)]⟩
  have mt : ∀ q, q ≠ 5 → (sI M t 5 (i3 ((dNa D + 1 : Nat) : Int))).1 t q = M.1 t q := fun q hq => by rw [rI_e, up_n hq]
  have mk : ∀ k, k ≠ t → (sI M t 5 (i3 ((dNa D + 1 : Nat) : Int))).1 k = M.1 k := fun k hk => by rw [rI_n hk]
  have nk : ∀ k, k ≠ 11 → (sI N 11 h (i3 ((dNa D + 1 : Nat) : Int))).1 k = N.1 k := fun k hk => by rw [rI_n hk]
  refine ⟨⟨⟨by rw [mt 0 (by omega)]; exact z1, by rw [mt 1 (by omega)]; exact z2, by rw [mt 2 (by omega)]; exact z3⟩, by rw [nk 6 (by omega)]; exact z4, by rw [nk 7 (by omega)]; exact z5, by rw [nk 8 (by omega)]; exact z6⟩, ⟨⟨by rw [rI_e, up_e]; rfl, by rw [mt 6 (by omega)]; exact y2, by rw [mt 7 (by omega)]; exact y3⟩, ⟨by rw [rI_e, up_e]; rfl, by rw [nk 17 (by omega)]; exact y5, by rw [nk 24 (by omega)]; exact y6⟩, by show dNa D + 1 ≤ 6; omega, y8⟩, fun a ha => ?_, fun k hk => ?_, fun r hr => ?_, ?_, ?_⟩
  · have ha : a < dNa D + 1 := ha
    rw [mk (t + 3) (by omega), mk (t + 4) (by omega), mk (t + 5) (by omega), nk 13 (by omega), nk 14 (by omega), nk 15 (by omega), nk 16 (by omega)]
    show (M.2.1 (t + 2) a = (if a = dNa D then nm else dNm D a) ∧ N.2.1 12 (6 * h + a) = (if a = dNa D then nm else dNm D a)) ∧ (M.1 (t + 3) a = i3 (if a = dNa D then pu else dPu D a) ∧ N.1 13 (6 * h + a) = i3 (if a = dNa D then pu else dPu D a)) ∧ (M.1 (t + 4) a = i3 (if a = dNa D then st else dSt D a) ∧ N.1 14 (6 * h + a) = i3 (if a = dNa D then st else dSt D a)) ∧ CE (sI M t 5 (i3 ((dNa D + 1 : Nat) : Int))) (sI N 11 h (i3 ((dNa D + 1 : Nat) : Int))) t h sz cc lc (M.1 (t + 5) a) (N.1 15 (6 * h + a)) (N.1 16 (6 * h + a)) (if a = dNa D then L else dCA D a)
    by_cases ea : a = dNa D
    · rw [if_pos ea, if_pos ea, if_pos ea, if_pos ea, ea]
      exact ⟨⟨e1, e2⟩, ⟨e3, e4⟩, ⟨e5, e6⟩, ce.mv g (Nat.le_refl _) (Nat.le_refl _) (Nat.le_refl _)⟩
    · rw [if_neg ea, if_neg ea, if_neg ea, if_neg ea]
      obtain ⟨q1, q2, q3, q4⟩ := c a (by omega)
      exact ⟨q1, q2, q3, q4.mv g (Nat.le_refl _) (Nat.le_refl _) (Nat.le_refl _)⟩
  · obtain ⟨q1, q2, q3, q4, q5⟩ := d k hk
    rw [mk (t + 6) (by omega), nk 18 (by omega), nk 19 (by omega), nk 20 (by omega), nk 21 (by omega), nk 22 (by omega), nk 23 (by omega)]
    exact ⟨q1, q2, q3, q4, q5.mv g (Nat.le_refl _) (Nat.le_refl _) (Nat.le_refl _)⟩
  · obtain ⟨q1, q2⟩ := e r hr
    rw [mk (t + 7) (by omega), mk (t + 8) (by omega), nk 25 (by omega), nk 26 (by omega), nk 27 (by omega)]
    exact ⟨q1, q2.mv g (Nat.le_refl _) (Nat.le_refl _) (Nat.le_refl _)⟩
  · rw [mt 3 (by omega), nk 9 (by omega), nk 10 (by omega)]
    exact l1.mv g (Nat.le_refl _) (Nat.le_refl _)
  · rw [mt 4 (by omega), nk 9 (by omega), nk 10 (by omega)]
    exact l2.mv g (Nat.le_refl _) (Nat.le_refl _)
theorem nt_q {b b' : Bool} {f s : Nat} (h : b = b') : ntM b f s q = ntM b' f s q := by rw [h]
theorem nt_0 {b : Bool} {f s : Nat} (hf : f ≠ 0) (g : (ntM b f s q).1 = 0) : b = false ∧ q.1 = 0 := by
  unfold ntM at g
  by_cases e : b = true ∧ q.1 = 0
  · rw [if_pos e] at g; exact absurd g hf
  · rw [if_neg e] at g
    exact ⟨by cases b; rfl; exact absurd ⟨rfl, g⟩ e, g⟩
theorem CE.cw {M' N' : gM} {w v e : Int32} {L : List Lw} (H : CE M N t h sz cc lc w v e L) (e1 : M'.1 (t + 1) = M.1 (t + 1)) (e2 : ∀ k, 29 ≤ k → k ≤ 37 → N'.1 k = N.1 k) : CE M' N' t h sz cc lc w v e L := H.mv ⟨fun k _ => by rw [e1], fun k _ _ => by rw [e2 29 (by omega) (by omega), e2 30 (by omega) (by omega)]; exact ⟨rfl, rfl⟩, fun q q1 q2 k _ _ => by rw [e2 q (by omega) (by omega)]⟩ (Nat.le_refl _) (Nat.le_refl _) (Nat.le_refl _)
/-- the ACT is laid, on both sides -/
theorem T_act142 (H : PX tb n t h D sz cc lc q q i M N) (hq : qOk tb n i q) (p1 : PF1 t M0 M) (p2 : PF2 h N0 N) (b1 : sz ≤ i + 1) (b2 : cc ≤ i) (b3 : 3 * lc ≤ i) (hi0 : i0 ≤ i) (hna : dNa D < 6) {nm : Int64} {pu st : Int} {w : Int32} {L : List Lw} (ce : CE M N t h sz cc lc w (N.1 0 63) (N.1 31 h) L) (e13 : N.1 13 (6 * h + dNa D) = i3 pu) (e14 : N.1 14 (6 * h + dNa D) = i3 st) (hB : q.1 = 0 → dB D ∧ -9 ≤ pu ∧ pu ≤ 9 ∧ -1 ≤ st ∧ st ≤ 1) : w2 (f_X1_tellAct_142 nm (i3 pu) (i3 st) w M) (g_b (g_ck (i3 ((6 * h + dNa D : Nat) : Int)) 12 (g_m (sI N 15 (tn (i3 ((6 * h + dNa D : Nat) : Int))) (N.1 0 63)) (fun M18 => (g_ck (M18.1 0 14) 2 (g_ck (i3 ((6 * h + dNa D : Nat) : Int)) 12 (g_m (sI M18 16 (tn (i3 ((6 * h + dNa D : Nat) : Int))) (M18.1 31 (tn (M18.1 0 14)))) (fun M19 => (g_ck (i3 ((6 * h + dNa D : Nat) : Int)) 12 (g_m (sL M19 12 (tn (i3 ((6 * h + dNa D : Nat) : Int))) nm) (fun M20 => (g_ck (M20.1 0 14) 2 (g_ck (M20.1 0 14) 2 (g_m (sI M20 11 (tn (M20.1 0 14)) ((M20.1 11 (tn (M20.1 0 14))) + (1 : Int32))) (fun M21 => (some (true, M21)))))))))))))))) (fun r3 M2 => if r3 then pE2 M2 else some (false, M2))) (tQ tb n t h i0 M0 N0) := by
  have hh := H.2.1.1
  have ht := H.1.1
  have H1 := (H.nw (k := 15) (j := 6 * h + dNa D) (x := N.1 0 63) (Or.inl ⟨by omega, by omega, rfl⟩))
  have e31 : (sI N 15 (6 * h + dNa D) (N.1 0 63)).1 31 h = N.1 31 h := by rw [rI_n (by decide)]
  have H2 := (H1.nw (k := 16) (j := 6 * h + dNa D) (x := N.1 31 h) (Or.inl ⟨by omega, by omega, rfl⟩))
  have f15 : (sI (sI N 15 (6 * h + dNa D) (N.1 0 63)) 16 (6 * h + dNa D) (N.1 31 h)).1 15 (6 * h + dNa D) = N.1 0 63 := by rw [rI_n (by decide), rI_e, up_e]
  have f16 : (sI (sI N 15 (6 * h + dNa D) (N.1 0 63)) 16 (6 * h + dNa D) (N.1 31 h)).1 16 (6 * h + dNa D) = N.1 31 h := by rw [rI_e, up_e]
  have fk : ∀ k, k ≠ 15 → k ≠ 16 → (sI (sI N 15 (6 * h + dNa D) (N.1 0 63)) 16 (6 * h + dNa D) (N.1 31 h)).1 k = N.1 k := fun k a b => by rw [rI_n b, rI_n a]
  have p3 : PF2 h N0 (sI (sI N 15 (6 * h + dNa D) (N.1 0 63)) 16 (6 * h + dNa D) (N.1 31 h)) := (p2.w (by omega) (by unfold inH; omega)).w (by omega) (by unfold inH; omega)
  rw [ck_ok (by omega) (by omega) (by omega), g_m, tn_n (by omega), H1.2.1.ck, ck_ok (by omega) (by omega) (by omega), g_m, H1.2.1.tn, e31]
  generalize sI (sI N 15 (6 * h + dNa D) (N.1 0 63)) 16 (6 * h + dNa D) (N.1 31 h) = N3 at H2 f15 f16 fk p3 ⊢
  rw [ck_ok (by omega) (by omega) (by omega), g_m]
  obtain ⟨h1, h2, ⟨h3, h4, h5⟩, h6, h7, h8⟩ := id H2
  have hna5 := h6.2.1.1.1
  have hna11 := h6.2.1.2.1.1
  have e14' : (sL N3 12 (6 * h + dNa D) nm).1 0 14 = N3.1 0 14 := rfl
  rw [e14', h2.ck, h2.ck, g_m, g_b_some, if_pos tTT, h2.tn, show (sL N3 12 (6 * h + dNa D) nm).1 11 h = i3 (dNa D : Int) from hna11, i3_s1]
  -- the class's cells
  rw [f_X1_tellAct_142, h1.or, f_X4_addAct, hna5, iL6, if_neg (by rw [i3_le (by omega) (by omega) (by omega) (by omega)]; omega)]
  have g5 : ∀ (k : Nat) (x : Int64), (sL M (t + 2) k x).1 t 5 = M.1 t 5 := fun k x => rfl
  have hM4 : ∀ k : Nat, k ≠ t + 3 → k ≠ t + 4 → k ≠ t + 5 → (sI (sI (sI (sL M (t + 2) (dNa D) nm) (t + 3) (dNa D) (i3 pu)) (t + 4) (dNa D) (i3 st)) (t + 5) (dNa D) w).1 k = M.1 k := fun k a b c => by rw [rI_n c, rI_n b, rI_n a]; rfl
  have hM4t : (sI (sI (sI (sL M (t + 2) (dNa D) nm) (t + 3) (dNa D) (i3 pu)) (t + 4) (dNa D) (i3 st)) (t + 5) (dNa D) w).1 t 5 = i3 (dNa D : Int) := by rw [hM4 t (by omega) (by omega) (by omega), hna5]
  simp only [ck_ok (show (0 : Int) ≤ (dNa D : Int) by omega) (show (dNa D : Int) < (6 : Nat) by omega) (by decide), g_m, tn_n (show dNa D < 2147483648 by omega), rI_n (show t ≠ t + 3 by omega), rI_n (show t ≠ t + 4 by omega), rI_n (show t ≠ t + 5 by omega), rL_1, hna5, g_b_some, i3_s1]
  -- what stands before the count is raised
  have hDC : DC (sI (sI (sI (sL M (t + 2) (dNa D) nm) (t + 3) (dNa D) (i3 pu)) (t + 4) (dNa D) (i3 st)) (t + 5) (dNa D) w) (sL N3 12 (6 * h + dNa D) nm) t h sz cc lc D := by
    refine h6.g ⟨fun k _ => by rw [hM4 (t + 1) (by omega) (by omega) (by omega)], fun k _ _ => ⟨rfl, rfl⟩, fun q q1 q2 k _ _ => rfl⟩ (Nat.le_refl _) (Nat.le_refl _) (Nat.le_refl _) (fun j _ => by rw [hM4 t (by omega) (by omega) (by omega)]) (fun k k1 k2 a ha => ?_) (fun a ha => ?_) (fun j _ => by rw [hM4 (t + 6) (by omega) (by omega) (by omega)]) (fun r _ => by rw [hM4 (t + 7) (by omega) (by omega) (by omega), hM4 (t + 8) (by omega) (by omega) (by omega)]; exact ⟨rfl, rfl⟩) (fun k hk => rfl) (fun k hk => ⟨rfl, rfl⟩) (fun a ha => ?_) (fun k k1 k2 a _ => rfl) (fun k k1 k2 a _ => rfl) (fun k k1 k2 a _ => rfl)
    · have hk : k = 3 ∨ k = 4 ∨ k = 5 := by omega
      rcases hk with g | g | g <;> subst g
      · rw [rI_n (by omega), rI_n (by omega), rI_e, up_n (by omega)]; rfl
      · rw [rI_n (by omega), rI_e, up_n (by omega), rI_n (by omega)]; rfl
      · rw [rI_e, up_n (by omega), rI_n (by omega), rI_n (by omega)]; rfl
    · show (sL M (t + 2) (dNa D) nm).2.1 (t + 2) a = _
      rw [rL_e, uL_n (by omega)]
    · rw [rL_e, uL_n (by omega)]
  have hce : CE (sI (sI (sI (sL M (t + 2) (dNa D) nm) (t + 3) (dNa D) (i3 pu)) (t + 4) (dNa D) (i3 st)) (t + 5) (dNa D) w) (sL N3 12 (6 * h + dNa D) nm) t h sz cc lc ((sI (sI (sI (sL M (t + 2) (dNa D) nm) (t + 3) (dNa D) (i3 pu)) (t + 4) (dNa D) (i3 st)) (t + 5) (dNa D) w).1 (t + 5) (dNa D)) ((sL N3 12 (6 * h + dNa D) nm).1 15 (6 * h + dNa D)) ((sL N3 12 (6 * h + dNa D) nm).1 16 (6 * h + dNa D)) L := by
    rw [rI_e, up_e, show (sL N3 12 (6 * h + dNa D) nm).1 15 (6 * h + dNa D) = N.1 0 63 from f15, show (sL N3 12 (6 * h + dNa D) nm).1 16 (6 * h + dNa D) = N.1 31 h from f16]
    exact ce.cw (hM4 (t + 1) (by omega) (by omega) (by omega)) (fun k k1 k2 => fk k (by omega) (by omega))
  have hDC2 := hDC.aA ht hna (nm := nm) (pu := pu) (st := st) (L := L) (by show (sL M (t + 2) (dNa D) nm).2.1 (t + 2) (dNa D) = nm; rw [rL_e, uL_e]) (by rw [rL_e, uL_e]) (by rw [rI_n (by omega), rI_n (by omega), rI_e, up_e]) (by rw [show (sL N3 12 (6 * h + dNa D) nm).1 13 = N3.1 13 from rfl, fk 13 (by omega) (by omega)]; exact e13) (by rw [rI_n (by omega), rI_e, up_e]) (by rw [show (sL N3 12 (6 * h + dNa D) nm).1 14 = N3.1 14 from rfl, fk 14 (by omega) (by omega)]; exact e14) hce
  have p4 : PF1 t M0 (sI (sI (sI (sI (sL M (t + 2) (dNa D) nm) (t + 3) (dNa D) (i3 pu)) (t + 4) (dNa D) (i3 st)) (t + 5) (dNa D) w) t 5 (i3 ((dNa D + 1 : Nat) : Int))) := ((((p1.l (by omega)).w (by omega)).w (by omega)).w (by omega)).w (by omega)
  have p5 : PF2 h N0 (sI (sL N3 12 (6 * h + dNa D) nm) 11 h (i3 ((dNa D + 1 : Nat) : Int))) := p3.l.w (by omega) (by unfold inH; omega)
  have hX : PX tb n t h (aAc D nm pu st L) sz cc lc q q i (sI (sI (sI (sI (sL M (t + 2) (dNa D) nm) (t + 3) (dNa D) (i3 pu)) (t + 4) (dNa D) (i3 st)) (t + 5) (dNa D) w) t 5 (i3 ((dNa D + 1 : Nat) : Int))) (sI (sL N3 12 (6 * h + dNa D) nm) 11 h (i3 ((dNa D + 1 : Nat) : Int))) := by
    have hk : ∀ k, k ≠ t → k ≠ t + 3 → k ≠ t + 4 → k ≠ t + 5 → (sI (sI (sI (sI (sL M (t + 2) (dNa D) nm) (t + 3) (dNa D) (i3 pu)) (t + 4) (dNa D) (i3 st)) (t + 5) (dNa D) w) t 5 (i3 ((dNa D + 1 : Nat) : Int))).1 k = M.1 k := fun k a b c d => by rw [rI_n a, hM4 k b c d]
    obtain ⟨u1, u2, u3, u4, u5, u6⟩ := h1
    refine ⟨⟨u1, u2, u3.c (hk 24 (by omega) (by omega) (by omega) (by omega)) (hk 25 (by omega) (by omega) (by omega) (by omega)) ?_, u4, by rw [hk 21 (by omega) (by omega) (by omega) (by omega)]; exact u5, by rw [hk 21 (by omega) (by omega) (by omega) (by omega)]; exact u6⟩, ?_, ⟨?_, ?_, ?_⟩, hDC2, h7.mv (by rw [hk 21 (by omega) (by omega) (by omega) (by omega)]) (by rw [hk 21 (by omega) (by omega) (by omega) (by omega)]), h8.mv (by rw [rI_n (by decide)]; rfl) (by rw [rI_n (by decide)]; rfl)⟩
    · show (sL M (t + 2) (dNa D) nm).2.1 26 = M.2.1 26
      rw [rL_n (by omega)]
    · obtain ⟨v1, v2, v3, v4, v5, v6⟩ := h2
      exact ⟨v1, v2, v3.c (by rw [rI_n (by decide)]; rfl) (by rw [rI_n (by decide)]; rfl) (by rw [rI_n (by decide)]; rfl) (by rw [rI_2, rL_n (by decide)]), by rw [rI_n (by decide)]; exact v4, by rw [rI_n (by decide)]; exact v5, by rw [rI_n (by decide)]; exact v6⟩
    · rw [rI_e, up_n (by decide), hM4 t (by omega) (by omega) (by omega)]; exact h3
    · rw [rI_n (by decide)]; exact h4
    · rw [rI_n (by decide)]; exact h5
  refine p_end hX hq p4 p5 b1 b2 b3 (fun g => ?_) hi0
  obtain ⟨⟨x1, x2, x3, x4⟩, x5⟩ := hB g
  refine ⟨x1, fun a ha => ?_, x3, fun r hr => ?_⟩
  · have ha : a < dNa D + 1 := ha
    show -9 ≤ (if a = dNa D then pu else dPu D a) ∧ (if a = dNa D then pu else dPu D a) ≤ 9 ∧ -1 ≤ (if a = dNa D then st else dSt D a) ∧ (if a = dNa D then st else dSt D a) ≤ 1
    by_cases e : a = dNa D
    · rw [if_pos e, if_pos e]; exact x5
    · rw [if_neg e, if_neg e]; exact x2 a (by omega)
  · have := x4 r hr
    show 0 ≤ dRa D r ∧ dRa D r < ((dNa D + 1 : Nat) : Int)
    omega
end
