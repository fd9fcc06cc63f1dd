/-- the beginning: what CAN be done at all -/
theorem k_f69 {R : tR} {p : Int} {t st n0 : Nat} {M : gM} (hC : CB R p t st M) (hB : ∀ s : Nat, s < 2079 → M.1 38 s = i3 (@ite _ (stP R s) (Classical.propDecidable _) 1048576 (-1)) ∧ M.1 39 s = i3 (-2)) (hL : LsI M n0 (opP R)) :
    wp (f_X5_findFates_69 FU (i3 n0) (i3 ((0 : Nat) : Int)) M) (fun _ N => CB R p t st N ∧ Fr (cBt ++ [37, 38, 39, 46]) M N ∧ keO R p N ∧ N.1 37 = M.1 37) := by
  obtain ⟨hL1, hL2, hL3⟩ := id hL
  refine wp_lp (F := fun n x (_ : Unit) M => f_X5_findFates_69 n (i3 n0) (i3 x) M)
    (I := fun x _ N => CB R p t st N ∧ Fr (cBt ++ [39]) M N ∧ (∀ s : Nat, s < 2079 → N.1 39 s = i3 (-2) ∨ opP R s ∧ N.1 39 s = i3 (kqR R p 0 s)) ∧ (∀ s : Nat, s < 2079 → ¬ opP R s → N.1 39 s = i3 (-2)) ∧ ∀ i : Nat, i < x → ∀ s : Nat, s < 2079 → M.1 46 i = i3 s → N.1 39 s = i3 (kqR R p 0 s)) n0 ?_ ?_ FU 0 () M (by omega) (by rw [FU_s]; omega) ⟨hC, Fr.rf, fun s hs => Or.inl (hB s hs).2, fun s hs _ => (hB s hs).2, fun i hi => by omega⟩
  · intro n x _ N hx hI hk
    obtain ⟨i2, f, i4, i5, i6⟩ := hI
    obtain ⟨s, hs, es, ho⟩ := hL2 x hx
    have e46 : N.1 46 x = i3 s := by rw [f.e1 (by decide), es]
    rw [f_X5_findFates_69]
    simp only [i3_sn]
    simp (disch := omega) only [i3_lt, i3_le, i3_eq, ck_ok, i3_tn, Int.toNat_natCast, e46]
    rw [if_neg (by omega)]
    refine wp_b _ (c_mask hs i2) (fun m N2 hN => ?_)
    obtain ⟨hm, hC2, f2⟩ := hN
    rw [c_first hm, g_b_some, wp_m]
    have hkq : leA (caP R p s) 6 (-2) = kqR R p 0 s := leA_c (fun a _ => ⟨fun h => ⟨h, Or.inl rfl⟩, fun h => h.1⟩)
    rw [hkq]
    have q39 : (sI N2 39 s (i3 (kqR R p 0 s))).1 39 = upd (N.1 39) s (i3 (kqR R p 0 s)) := by rw [rI_e, f2.e1 (by decide)]
    refine hk () _ ⟨hC2.mv (S := [39]) (Fr.rf.i (by decide)) (by decide), (f.tr (f2.up (by decide))).i (by decide), fun q hq => ?_, fun q hq hno => ?_, fun i hi q hq eq => ?_⟩
    · by_cases hqs : q = s
      · subst hqs
        exact Or.inr ⟨ho, by rw [q39, up_e]⟩
      · rw [q39, up_n hqs]
        exact i4 q hq
    · have hqs : q ≠ s := fun h => hno (h ▸ ho)
      rw [q39, up_n hqs]
      exact i5 q hq hno
    · by_cases hqs : q = s
      · subst hqs
        rw [q39, up_e]
      · rw [q39, up_n hqs]
        by_cases hix : i = x
        · subst hix
          rw [es, i3_eq (by omega) (by omega) (by omega) (by omega)] at eq
          omega
        · exact i6 i (by omega) q hq eq
  · intro n _ N hI
    obtain ⟨i2, f, i4, i5, i6⟩ := hI
    rw [f_X5_findFates_69]
    simp (disch := omega) only [i3_lt, i3_le, i3_eq]
    rw [if_pos (by omega)]
    have e38 : N.1 38 = M.1 38 := f.e1 (by decide)
    have e46 : N.1 46 = M.1 46 := f.e1 (by decide)
    refine wp_mono (k_frounds (M0 := M) FU 0 n0 true N (by omega) (by rw [FU_s]; omega) i2 (f.up (by decide)) (fun s hs => ?_) ⟨hL1, fun i hi => ?_, fun s hs hp => ?_⟩ (fun h => by cases h)) (fun _ N2 hN => ⟨hN.1, hN.2.1, hN.2.2.1, by rw [hN.2.2.2, f.e1 (by decide)]⟩)
    · by_cases hst : stP R s
      · have h38 : N.1 38 s = i3 1048576 := by rw [e38, (hB s hs).1, if_pos hst]
        by_cases ho : ovP R s
        · exact Or.inr (Or.inl ⟨hst, ho, h38, i5 s hs (fun h => h.2 ho)⟩)
        · obtain ⟨i, g1, g2⟩ := hL3 s hs ⟨hst, ho⟩
          exact Or.inr (Or.inr (Or.inl ⟨ho, hst, h38, i6 i g1 s hs g2⟩))
      · exact Or.inl ⟨hst, by rw [e38, (hB s hs).1, if_neg hst], i5 s hs (fun h => hst h.1)⟩
    · obtain ⟨s, g1, g2, g3⟩ := hL2 i hi
      exact ⟨s, g1, by rw [e46, g2], g3, g3.1⟩
    · rw [e46]
      exact hL3 s hs hp.1
theorem k_f15 {R : tR} {p : Int} {t st : Nat} {M : gM} (hC : CB R p t st M) :
    wp (f_X5_findFates_15 FU (i3 ((0 : Nat) : Int)) M) (fun _ N => CB R p t st N ∧ Fr (cBt ++ [37, 38, 39, 46]) M N ∧ keO R p N ∧ N.1 37 = M.1 37) := by
  refine wp_lp (F := fun n x (_ : Unit) M => f_X5_findFates_15 n (i3 x) M)
    (I := fun x _ N => CB R p t st N ∧ Fr [38, 39] M N ∧ ∀ s : Nat, s < x → N.1 38 s = i3 (@ite _ (stP R s) (Classical.propDecidable _) 1048576 (-1)) ∧ N.1 39 s = i3 (-2)) 2079 ?_ ?_ FU 0 () M (by omega) (by rw [FU_s]; omega) ⟨hC, Fr.rf, fun s hs => by omega⟩
  · intro n x _ N hx hI hk
    obtain ⟨i2, f, i4⟩ := hI
    rw [f_X5_findFates_15, k_or i2, k_has i2 hx, g_b_some]
    simp only [i3_sn]
    simp (disch := omega) only [i3_lit, i3_neg, i3_add, i3_sub, i3_mul, i3_lt, i3_le, i3_eq, ck_ok, i3_tn, Int.toNat_natCast, wp_m]
    rw [if_neg (by omega)]
    simp (disch := omega) only [b_if]
    have fin : ∀ v : Int, v = @ite _ (stP R x) (Classical.propDecidable _) 1048576 (-1) → wp (f_X5_findFates_15 n (i3 ((x + 1 : Nat) : Int)) (sI (sI N 38 x (i3 v)) 39 x (i3 (-2)))) (fun _ N => CB R p t st N ∧ Fr (cBt ++ [37, 38, 39, 46]) M N ∧ keO R p N ∧ N.1 37 = M.1 37) := by
      intro v hv
      refine hk () _ ⟨i2.mv (S := [38, 39]) ((Fr.rf.i (by decide)).i (by decide)) (by decide), (f.i (by decide)).i (by decide), fun s hs => ?_⟩
      rw [rI_n (by decide), rI_e, rI_e, rI_n (by decide)]
      by_cases hsx : s = x
      · subst hsx
        rw [up_e, up_e, hv]
        exact ⟨rfl, rfl⟩
      · rw [up_n hsx, up_n hsx]
        exact i4 s (by omega)
    refine wp_if (fun hx2 => ?_) (fun hx2 => ?_)
    · exact fin _ (by rw [if_pos hx2])
    · exact fin _ (by rw [if_neg hx2])
  · intro n _ N hI
    obtain ⟨i2, f, i4⟩ := hI
    rw [f_X5_findFates_15]
    simp (disch := omega) only [iL2079, i3_lt, i3_le, i3_eq]
    rw [if_pos (by omega)]
    refine wp_b _ (k_list i2) (fun y N2 hN => ?_)
    obtain ⟨n0, rfl, hC2, f2, hL⟩ := hN
    refine wp_mono (k_f69 hC2 (fun s hs => ?_) hL) (fun _ N3 hN => ⟨hN.1, (f.up (by decide)).tr ((f2.up (by decide)).tr hN.2.1), hN.2.2.1, ?_⟩)
    · rw [f2.e1 (by decide), f2.e1 (by decide)]
      exact i4 s hs
    · rw [hN.2.2.2, f2.e1 (by decide), f.e1 (by decide)]
def fI (R : tR) (p : Int) (M : gM) : Prop := M.1 37 10 = 0 ∨ (M.1 37 10 = 1 ∧ keO R p M)
theorem k_fates {R : tR} {p : Int} {t st : Nat} {M : gM} (hC : CB R p t st M) (hF : fI R p M) :
    wp (f_X5_findFates M) (fun _ N => CB R p t st N ∧ Fr (cBt ++ [37, 38, 39, 46]) M N ∧ keO R p N ∧ N.1 37 10 = 1 ∧ ∀ j, j ≠ 10 → N.1 37 j = M.1 37 j) := by
  rw [f_X5_findFates]
  rcases hF with h | ⟨h, hk⟩
  · rw [if_pos h, wp_m]
    have f1 : Fr [37] M (sI M 37 10 1) := Fr.rf.i (by decide)
    refine wp_mono (k_f15 (hC.mv f1 (by decide))) (fun _ N hN => ⟨hN.1, (f1.up (by decide)).tr hN.2.1, hN.2.2.1, ?_, fun j hj => ?_⟩)
    · rw [hN.2.2.2, rI_e, up_e]
    · rw [hN.2.2.2, rI_e, up_n hj]
  · rw [h, if_neg (by decide), wp_some]
    exact ⟨hC, Fr.rf, hk, h, fun j _ => rfl⟩
/-! ===== what is asked of FATES ===== -/
theorem fc_r {R : tR} {p : Int} {s : Nat} : -1 ≤ fcR R p s ∧ fcR R p s ≤ 1048576 := by
  unfold fcR
  split
  · next h =>
    split
    · omega
    · next h2 =>
      rcases fa_x (p := p) h with ⟨h3, -⟩ | ⟨-, n, h4, h5, -⟩
      · exact absurd h3 h2
      · omega
  · omega
theorem fc_e {R : tR} {p : Int} {s : Nat} : fcR R p s = 1048576 ↔ sfR R p 0 s := by
  unfold fcR
  split
  · next h =>
    split
    · next h2 => exact ⟨fun _ => h2, fun _ => rfl⟩
    · next h2 =>
      rcases fa_x (p := p) h with ⟨h3, -⟩ | ⟨-, n, h4, h5, -⟩
      · exact absurd h3 h2
      · exact ⟨fun h => by omega, fun h => absurd h h2⟩
  · next h => exact ⟨fun h => by omega, fun h2 => absurd (h2 0) h⟩
theorem k_safe {R : tR} {p : Int} {N : gM} (hk : keO R p N) {s : Nat} (hs : s < 2079) : f_X5_isSafe (i3 s) N = some (b_ (sfR R p 0 s), N) := by
  have h1 := (hk s hs).1
  have h2 := fc_r (R := R) (p := p) (s := s)
  rw [f_X5_isSafe]
  simp (disch := omega) only [i3_lit, i3_neg, i3_add, i3_sub, i3_mul, i3_lt, i3_le, i3_eq, ck_ok, i3_tn, Int.toNat_natCast, h1]
  rw [if_neg (by omega), if_neg (by omega)]
  by_cases h : sfR R p 0 s
  · rw [if_pos (fc_e.2 h), b_t h]
  · rw [if_neg (fun g => h (fc_e.1 g)), b_f h]
theorem k_safe0 {R : tR} {p : Int} {N : gM} {z : Int} (h1 : -2147483648 ≤ z ∧ z < 0) : f_X5_isSafe (i3 z) N = some (false, N) := by
  rw [f_X5_isSafe]
  simp (disch := omega) only [i3_lit, i3_neg, i3_add, i3_sub, i3_mul, i3_lt, i3_le, i3_eq]
  rw [if_pos (by omega)]
theorem k_safeAct {R : tR} {p : Int} {t st s a : Nat} {M : gM} (hs : s < 2079) (ha : a < rNa R) (hC : CB R p t st M) (hk : keO R p M) : wp (f_X5_isSafeAct (i3 s) (i3 a) M) (fun r N => r = b_ (gdP R p (sfR R p 0) 0 s a) ∧ CB R p t st N ∧ Fr cBt M N) := by
  have hlh := lh_r (p := p) (s := s) hC.1.1
  rw [f_X5_isSafeAct]
  refine wp_b _ (c_least hs hC) (fun r N1 hN => ?_)
  obtain ⟨rfl, hC1, f1⟩ := hN
  refine wp_b _ (c_great hs hC1) (fun r N2 hN => ?_)
  obtain ⟨rfl, hC2, f2⟩ := hN
  rw [f_X5_leadsWell]
  refine wp_b _ (k_lw (P := sfR R p 0) hs ha (k := 38) (by omega) (by omega) (fun q hq => ?_) FU (loR R p s) N2 hC2 (f1.tr f2) (by omega) (by omega) (by rw [FU_s]; omega)) (fun r N3 hN => ?_)
  · rw [(hk q hq).1]
    have h2 := fc_r (R := R) (p := p) (s := q)
    simp (disch := omega) only [i3_lit, i3_le]
    rw [← fc_e (R := R) (p := p)]
    omega
  · obtain ⟨rfl, hC3, f3⟩ := hN
    rw [wp_some]
    refine ⟨b_e ⟨fun h g h1 h2 => h g (by omega) (by omega), fun h g h1 h2 => h g (by omega) (by omega)⟩, hC3, f3⟩
