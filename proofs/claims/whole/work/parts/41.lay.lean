/-! ===== where a BEAT leads, by the reference ===== -/
theorem d_235 {R : tR} {p : Int} {h : Nat} {M : gM} (H : B2 R p h M) {b : Int} (hb : 0 ≤ b ∧ b ≤ 9) {sw le : Int32} : f_X10_beaten_235 sw le (i3 b) M = some (i3 (@ite _ (inR R b le.toInt sw.toInt) (Classical.propDecidable _) (nuZ b le.toInt sw.toInt) (-2)), M) := by
  obtain ⟨zs, s1, s2, rfl⟩ := i3_ex sw
  obtain ⟨zl, l1, l2, rfl⟩ := i3_ex le
  rw [f_X10_beaten_235, d_place H (by omega) (by omega) (by omega), g_b_some, i3_toInt s1 s2, i3_toInt l1 l2]
  by_cases hi : inR R b zl zs
  · rw [b_t hi, if_pos rfl, if_pos hi, f_X10_numberOf, g_b_some]
    simp only [i3_lit, i3_neg, i3_add, i3_sub, i3_mul]
    rfl
  · rw [b_f hi, if_neg (by decide), if_neg hi]
    rfl
theorem d_161 {R : tR} {p : Int} {h s a : Nat} {M : gM} (H : B2 R p h M) (hs : stP R s) (ho : ¬ ovP R s) (ha : a < rNa R) (h64 : M.1 0 64 = i3 (gAt s)) {sw le : Int32} : f_X10_beaten_161 (i3 a) sw le M = some (i3 (tgR R s a sw le), M) := by
  obtain ⟨hR, hp, hh, h13, h47, ⟨g6, -⟩, g2, -⟩ := id H
  have hna := hR.2.1
  have hlen := hR.1
  have hg := gx s (st_lt hs)
  have h3 := hs.2.2.2.1
  rw [Int.toNat_natCast] at h3
  have hst := hR.2.2.1 a ha
  have h4 : gAt s ≠ rLen R := ho
  rw [f_X10_beaten_161, h64]
  have e1 : (6 * (h : Int) + a).toNat = 6 * h + a := by omega
  have key : f_X10_beaten_195 sw le (i3 (gAt s)) (i3 (rSt R a)) M = some (i3 (tgR R s a sw le), M) := by
    rw [f_X10_beaten_195]
    simp (disch := omega) only [h13, d_ck, tn_n, i3_lit, i3_neg, i3_add, i3_sub, i3_mul, i3_lt, i3_le, i3_eq, g6, g_v]
    unfold tgR
    by_cases h5 : 0 ≤ gAt s + rSt R a
    · rw [if_pos h5, if_pos (by omega), d_235 H (by omega), show max 0 (gAt s + rSt R a) = gAt s + rSt R a by omega]
    · rw [if_neg h5, d_235 H (by omega), show max 0 (gAt s + rSt R a) = 0 by omega]
  simp (disch := omega) only [h13, d_ck, tn_n, i3_lit, i3_neg, i3_add, i3_sub, i3_mul, ck_ok, i3_tn, e1, Int.toNat_natCast]
  rcases g2 with ⟨g1, g2, g3, g4, -⟩ | ⟨g1, g2⟩
  · have : a = 0 := by omega
    subst this
    rw [g4] at key
    rw [if_pos (show M.1 11 h = i3 0 from g1)]
    exact key
  · rw [g1, if_neg (by rw [i3_eq (by omega) (by omega) (by omega) (by omega)]; omega), (g2 a ha).2.1]
    exact key
theorem d_beaten {R : tR} {p : Int} {h s a : Nat} {g : Int} {M : gM} (H : B2 R p h M) (hs : stP R s) (ho : ¬ ovP R s) (ha : a < rNa R) : wp (f_X10_beaten (i3 s) (i3 a) (i3 g) M) (fun r N => r = i3 (nxR R p s a g) ∧ Fo [46] jV M N) := by
  obtain ⟨hR, hp, hh, h13, h47, -, -, -, -, hls, hll⟩ := id H
  have hs2 := st_lt hs
  rw [f_X10_beaten, d_push H ha, g_b_some]
  refine wp_b _ (d_look (pu := rPu R a) (g := g) H hs2) (fun _ M2 hN => ?_)
  obtain ⟨f2, hat2⟩ := hN
  have H2 := H.mv f2 (by decide) (by decide)
  obtain ⟨u0, u1, u2, u3, u4, u5⟩ := id hat2
  have e1 : (2 * (h : Int)).toNat = 2 * h := by omega
  have e2 : (2 * (h : Int) + 1).toNat = 2 * h + 1 := by omega
  have f2' : Fo [46] jV M M2 := f2.up (by decide) (by decide)
  -- behind the swing
  have lean : ∀ (sw : Int32) (M3 : gM), Fo [46] jV M M3 → Vr M3 s (rPu R a) g p → atS (rSw R) s (rPu R a) g p = some sw → wp (f_X10_beaten_88 (i3 a) sw M3) (fun r N => r = i3 (nxR R p s a g) ∧ Fo [46] jV M N) := by
    intro sw M3 f3 hat3 hsw
    have hnx : nxR R p s a g = match rLe R (i3 (gAt s)) (i3 (gLe s)) sw (i3 (rPu R a)) (i3 g) (i3 p) with
      | none => -2
      | some le => tgR R s a sw le := by
      unfold nxR
      rw [hsw]
      all_goals rfl
    rw [f_X10_beaten_88, wp_m]
    have hat4 : (sI M3 0 66 sw).1 0 64 = i3 (gAt s) ∧ (sI M3 0 66 sw).1 0 65 = i3 (gLe s) ∧ (sI M3 0 66 sw).1 0 66 = sw ∧ (sI M3 0 66 sw).1 0 67 = i3 (rPu R a) ∧ (sI M3 0 66 sw).1 0 68 = i3 g ∧ (sI M3 0 66 sw).1 0 69 = i3 p := by
      obtain ⟨a0, a1, a2, a3, a4, a5⟩ := hat3
      simp only [rI_e, up_x]
      simp [a0, a1, a3, a4, a5]
    have f5 : Fo [46] jV M (sI M3 0 66 sw) := f3.o (by decide)
    generalize sI M3 0 66 sw = M4 at f5 hat4 ⊢
    have H4 := H.mv f5 (by decide) (by decide)
    obtain ⟨v0, v1, v2, v3, v4, v5⟩ := id hat4
    rw [wp_v, H4.2.2.2.1, v1]
    simp (disch := omega) only [iL2, iL1, i3_mul, i3_add, ck_ok, i3_tn, e2]
    rw [f5.e1 (by decide) (by decide), f5.e1 (by decide) (by decide)]
    rcases hll with ⟨l1, l2⟩ | ⟨l1, l2⟩
    · rw [if_pos l1, d_161 H4 hs ho ha v0, wp_some]
      refine ⟨?_, f5⟩
      rw [hnx, l2]
      rfl
    · rw [if_neg l1]
      refine wp_b _ (l2 M4 (Hf.a (fun k h1 h2 => f5.e1 (by omega) (by simp; omega)))) (fun r M5 hq => ?_)
      obtain ⟨f6, hq⟩ := hq
      rw [v0, v1, v2, v3, v4, v5] at hq
      have f7 := f5.tr (f6.up (by decide) (by decide) : Fo [46] jV M4 M5)
      have H5 := H.mv f7 (by decide) (by decide)
      cases hle : rLe R (i3 (gAt s)) (i3 (gLe s)) sw (i3 (rPu R a)) (i3 g) (i3 p) with
      | none =>
        rw [hle] at hq hnx
        simp only at hq hnx
        rw [hq, if_neg (by decide), wp_some, hnx]
        exact ⟨rfl, f7⟩
      | some le =>
        rw [hle] at hq hnx
        simp only at hq hnx
        rw [hq.1, if_pos rfl, hq.2, d_161 H5 hs ho ha (by rw [f6.e0 (by decide), v0]), wp_some, hnx]
        exact ⟨rfl, f7⟩
  rw [wp_v, u1, u2, u3, H2.2.2.2.1, H2.2.2.2.2.1]
  rw [iL2, i3_mul, ck_ok (by omega) (by omega) (by omega), ck_ok (by omega) (by omega) (by omega), ck_ok (by omega) (by omega) (by omega), i3_tn (by omega) (by omega), e1, f2.e1 (by decide) (by decide), f2.e1 (by decide) (by decide)]
  rcases hls with ⟨l1, l2⟩ | ⟨l1, l2⟩
  · rw [if_pos l1]
    refine lean _ M2 f2' hat2 ?_
    unfold atS
    rw [l2]
    rfl
  · rw [if_neg l1]
    refine wp_b _ (l2 M2 (Hf.a (fun k h1 h2 => f2.e1 (by omega) (by simp)))) (fun r M5 hq => ?_)
    obtain ⟨f6, hq⟩ := hq
    rw [u0, u1, u2, u3, u4, u5] at hq
    have f7 := f2'.tr (f6.up (by decide) (by decide) : Fo [46] jV M2 M5)
    cases hsw : atS (rSw R) s (rPu R a) g p with
    | none =>
      unfold atS at hsw
      rw [hsw] at hq
      simp only at hq
      rw [hq, if_neg (by decide), wp_some]
      refine ⟨?_, f7⟩
      unfold nxR atS
      rw [hsw]
      rfl
    | some sw =>
      have hsw2 := hsw
      unfold atS at hsw2
      rw [hsw2] at hq
      simp only at hq
      rw [hq.1, if_pos rfl, hq.2]
      exact lean _ M5 f7 (hat2.mv f6 (by decide)) hsw
/-! ===== gusts ===== -/
theorem d_blow {R : tR} {p : Int} {h s : Nat} (hs : s < 2079) : ∀ (n k : Nat) (M : gM), B2 R p h M → k ≤ rNg R → k < n → Vr M s 0 0 p → M.1 47 s = i3 0 → M.1 48 s = i3 0 →
    wp (f_X10_blow_33 n (i3 s) (i3 ((k : Int) - 1)) M) (fun _ N => Fo [46, 47, 48] jV M N ∧ (∀ q, q ≠ s → N.1 47 q = M.1 47 q ∧ N.1 48 q = M.1 48 q) ∧ N.1 47 s = i3 (ghR R p s k).1 ∧ N.1 48 s = i3 (ghR R p s k).2) := by
  intro n
  induction n with
  | zero => intro k M _ h1 h2; omega
  | succ n ih =>
    intro k M H hk hn hv h47' h48'
    obtain ⟨hR, hp, hh, h13, h47, -, -, g3, -⟩ := id H
    have hna := hR.2.1
    have hg := gx s hs
    rw [f_X10_blow_33, h13]
    cases k with
    | zero =>
      simp (disch := omega) only [iL0, i3_lt, i3_le, i3_eq]
      rw [if_pos (by omega), wp_some]
      exact ⟨Fo.rf, fun q _ => ⟨rfl, rfl⟩, h47', h48'⟩
    | succ k =>
      obtain ⟨c1, c2, c3, c4, c5⟩ := g3 k (by omega)
      have hgu := hR.2.2.2.1 k (by omega)
      have e0 : ((k + 1 : Nat) : Int) - 1 = k := by omega
      have e1 : (8 * (h : Int) + k).toNat = 8 * h + k := by omega
      have e2 : (k : Int) + -1 = (k : Int) - 1 := by omega
      rw [e0]
      simp (disch := omega) only [i3_lit, i3_neg, i3_add, i3_sub, i3_mul, i3_lt, i3_le, i3_eq]
      rw [if_neg (by omega), wp_v]
      simp (disch := omega) only [ck_ok, i3_tn, e1, e2, c1, c2, hv.1, i3_lt, i3_le, i3_eq]
      have skip : ¬ guP R p s k → ∀ M2, Fo [46] [70] M M2 → wp (f_X10_blow_33 n (i3 s) (i3 ((k : Int) - 1)) M2) (fun _ N => Fo [46, 47, 48] jV M N ∧ (∀ q, q ≠ s → N.1 47 q = M.1 47 q ∧ N.1 48 q = M.1 48 q) ∧ N.1 47 s = i3 (ghR R p s (k + 1)).1 ∧ N.1 48 s = i3 (ghR R p s (k + 1)).2) := by
        intro hno M2 f2
        have eg : ghR R p s (k + 1) = ghR R p s k := by rw [ghR, if_neg hno]
        refine wp_mono (ih k M2 (H.mv f2 (by decide) (by decide)) (by omega) (by omega) (hv.mv f2 (by decide)) (by rw [f2.e1 (by decide) (by decide), h47']) (by rw [f2.e1 (by decide) (by decide), h48'])) (fun _ N hN => ?_)
        obtain ⟨q1, q2, q3⟩ := hN
        refine ⟨(f2.up (by decide) (by decide)).tr q1, fun q hq => ?_, by rw [eg]; exact q3⟩
        have := q2 q hq
        rw [f2.e1 (by decide) (by decide), f2.e1 (by decide) (by decide)] at this
        exact this
      refine wp_if (fun hx => ?_) (fun hx => ?_)
      · exact skip (fun h => by have := h.1; omega) M Fo.rf
      · refine wp_if (fun hx2 => ?_) (fun hx2 => ?_)
        · exact skip (fun h => by have := h.2.1; omega) M Fo.rf
        · refine wp_b _ (d_cond c5 (Fo.rf (S := []) (J := [])) (by decide) hv) (fun r M2 hq => ?_)
          obtain ⟨hq1, f2⟩ := hq
          refine wp_if (fun hx4 => ?_) (fun hx4 => ?_)
          · have hyes : guP R p s k := ⟨by omega, by omega, by rw [← hq1]; exact hx4⟩
            have eg : ghR R p s (k + 1) = (rGu R k).2.2 := by rw [ghR, if_pos hyes]
            have k20 : M2.1 20 (8 * h + k) = i3 (rGu R k).2.2.1 := by rw [f2.e1 (by decide) (by decide), c3]
            have k21 : M2.1 21 (8 * h + k) = i3 (rGu R k).2.2.2 := by rw [f2.e1 (by decide) (by decide), c4]
            simp (disch := omega) only [wp_some, wp_m, wp_v, g_b_some, k20, rI_n, k21, Int.toNat_natCast, wp_some]
            refine ⟨(((f2.up (by decide) (by decide)).i (by decide) (by decide)).i (by decide) (by decide)), fun q hq => ?_, ?_, ?_⟩
            · rw [rI_e, rI_e, rI_n (by decide), up_n hq, up_n hq, f2.e1 (by decide) (by decide), f2.e1 (by decide) (by decide)]
              exact ⟨rfl, rfl⟩
            · rw [rI_e, up_e, eg]
            · rw [rI_e, up_e, eg]
          · exact skip (fun h => hx4 (by rw [hq1]; exact h.2.2)) M2 f2
theorem d_blows {R : tR} {p : Int} {h s : Nat} {M : gM} (H : B2 R p h M) (hs : s < 2079) : wp (f_X10_blow (i3 s) M) (fun _ N => Fo [46, 47, 48] jV M N ∧ (∀ q, q ≠ s → N.1 47 q = M.1 47 q ∧ N.1 48 q = M.1 48 q) ∧ N.1 47 s = i3 (loR R p s) ∧ N.1 48 s = i3 (hiR R p s)) := by
  have hna := H.1.2.1
  rw [f_X10_blow]
  simp (disch := omega) only [ck_ok, wp_m, i3_tn, Int.toNat_natCast]
  have f1 : Fo [46, 47, 48] jV M (sI (sI M 47 s 0) 48 s 0) := (Fo.rf.i (by decide) (by decide)).i (by decide) (by decide)
  have e47 : (sI (sI M 47 s 0) 48 s 0).1 47 = upd (M.1 47) s 0 := by rw [rI_n (by decide), rI_e]
  have e48 : (sI (sI M 47 s 0) 48 s 0).1 48 = upd (M.1 48) s 0 := by rw [rI_e, rI_n (by decide)]
  generalize sI (sI M 47 s 0) 48 s 0 = M1 at f1 e47 e48 ⊢
  have H1 := H.mv f1 (by decide) (by decide)
  refine wp_b _ (d_look (pu := 0) (g := 0) H1 hs) (fun _ M2 hN => ?_)
  obtain ⟨f2, hv⟩ := hN
  have H2 := H1.mv f2 (by decide) (by decide)
  have h17 : M2.1 17 h = i3 (rNg R) := H2.2.2.2.2.2.1.2.2.2.1
  rw [H2.2.2.2.1, d_ck H.2.2.1, tn_n (by have := H.2.2.1; omega), h17, iL1, i3_sub, wp_v]
  refine wp_mono (d_blow hs FU (rNg R) M2 H2 (Nat.le_refl _) (by rw [FU_s]; omega) hv (by rw [f2.e1 (by decide) (by decide), e47, up_e]; rfl) (by rw [f2.e1 (by decide) (by decide), e48, up_e]; rfl)) (fun _ N hN => ?_)
  obtain ⟨q1, q2, q3⟩ := hN
  refine ⟨(f1.tr (f2.up (by decide) (by decide))).tr q1, fun q hq => ?_, q3⟩
  have := q2 q hq
  rw [f2.e1 (by decide) (by decide), f2.e1 (by decide) (by decide), e47, e48, up_n hq, up_n hq] at this
  exact this
/-! ===== the tables ===== -/
def tS (R : tR) (p : Int) (M : gM) (s : Nat) : Prop := M.1 47 s = i3 (loR R p s) ∧ M.1 48 s = i3 (hiR R p s) ∧ ∀ a : Nat, a < rNa R → M.1 49 (6 * s + a) = b2i (b_ (caP R p s a)) ∧ (caP R p s a → ∀ j : Nat, j < 25 → M.1 50 (25 * (6 * s + a) + j) = i3 (nxR R p s a ((j : Int) - 12)))
def TB (R : tR) (p : Int) (M : gM) : Prop := ∀ s : Nat, s < 2079 → stP R s → tS R p M s
def rwE (M N : gM) (q : Nat) : Prop := N.1 47 q = M.1 47 q ∧ N.1 48 q = M.1 48 q ∧ ∀ a : Nat, a < 6 → N.1 49 (6 * q + a) = M.1 49 (6 * q + a) ∧ ∀ j : Nat, j < 25 → N.1 50 (25 * (6 * q + a) + j) = M.1 50 (25 * (6 * q + a) + j)
theorem rwE.tr {M N L : gM} {q : Nat} (h : rwE M N q) (g : rwE N L q) : rwE M L q := ⟨g.1.trans h.1, g.2.1.trans h.2.1, fun a ha => ⟨(g.2.2 a ha).1.trans (h.2.2 a ha).1, fun j hj => ((g.2.2 a ha).2 j hj).trans ((h.2.2 a ha).2 j hj)⟩⟩
theorem rwE.ts {R : tR} {p : Int} {M N : gM} {q : Nat} (hR : tOk R) (h : rwE M N q) (ht : tS R p M q) : tS R p N q := by
  have hna := hR.2.1
  exact ⟨h.1.trans ht.1, h.2.1.trans ht.2.1, fun a ha => ⟨((h.2.2 a (by omega)).1).trans (ht.2.2 a ha).1, fun hc j hj => ((h.2.2 a (by omega)).2 j hj).trans ((ht.2.2 a ha).2 hc j hj)⟩⟩
abbrev cTb : List Nat := [46, 47, 48, 49, 50]
theorem d_72 {R : tR} {p : Int} {h s a : Nat} {k27 : Int32 → Int32 → gM → Option (Unit × gM)} {Q : Unit → gM → Prop} {M : gM} (H : B2 R p h M) (hs : stP R s) (ho : ¬ ovP R s) (ha : a < rNa R)
    (hk : ∀ N, Fo cTb jV M N → (∀ i, (i < 25 * (6 * s + a) ∨ 25 * (6 * s + a) + 25 ≤ i) → N.1 50 i = M.1 50 i) → N.1 47 = M.1 47 → N.1 48 = M.1 48 → N.1 49 = M.1 49 → (∀ j : Nat, j < 25 → N.1 50 (25 * (6 * s + a) + j) = i3 (nxR R p s a ((j : Int) - 12))) → wp (k27 (i3 s) (i3 ((a + 1 : Nat) : Int)) N) Q) :
    wp (f_X10_layAll_72 k27 FU (i3 s) (i3 a) (i3 (((0 : Nat) : Int) - 12)) M) Q := by
  have hna := H.1.2.1
  have hs2 := st_lt hs
  refine wp_lp (F := fun n x (_ : Unit) M => f_X10_layAll_72 k27 n (i3 s) (i3 a) (i3 ((x : Int) - 12)) M) (I := fun x _ N => Fo [46, 50] jV M N ∧ (∀ i, (i < 25 * (6 * s + a) ∨ 25 * (6 * s + a) + 25 ≤ i) → N.1 50 i = M.1 50 i) ∧ ∀ j : Nat, j < x → N.1 50 (25 * (6 * s + a) + j) = i3 (nxR R p s a ((j : Int) - 12))) 25 ?_ ?_ FU 0 () M (by omega) (by rw [FU_s]; omega) ⟨Fo.rf, fun _ _ => rfl, fun j hj => by omega⟩
  · intro n x _ N hx hI hk2
    obtain ⟨f, i1, i2⟩ := hI
    rw [f_X10_layAll_72]
    simp (disch := omega) only [iL12, i3_lt, i3_le, i3_eq]
    rw [if_neg (by omega)]
    refine wp_b _ (d_beaten (H.mv f (by decide) (by decide)) hs ho ha) (fun r N2 hN => ?_)
    obtain ⟨rfl, f2⟩ := hN
    have e1 : (25 * (6 * (s : Int) + a) + ((x : Int) - 12) + 12).toNat = 25 * (6 * s + a) + x := by omega
    have e2 : (x : Int) - 12 + 1 = ((x + 1 : Nat) : Int) - 12 := by omega
    simp (disch := omega) only [i3_lit, i3_neg, i3_add, i3_sub, i3_mul, ck_ok, wp_m, i3_tn, e1, e2]
    refine hk2 () _ ⟨(f.tr (f2.up (by decide) (by decide))).i (by decide) (by decide), fun i hi => ?_, fun j hj => ?_⟩
    · rw [rI_e, up_n (by omega), f2.e1 (by decide) (by decide)]
      exact i1 i hi
    · rw [rI_e]
      by_cases hjx : j = x
      · subst hjx
        rw [up_e]
      · rw [up_n (by omega), f2.e1 (by decide) (by decide)]
        exact i2 j (by omega)
  · intro n _ N hI
    obtain ⟨f, i1, i2⟩ := hI
    rw [f_X10_layAll_72, i3_sn]
    simp (disch := omega) only [iL12, i3_lt, i3_le, i3_eq]
    rw [if_pos (by omega)]
    exact hk N (f.up (by decide) (by decide)) i1 (f.e1 (by decide) (by decide)) (f.e1 (by decide) (by decide)) (f.e1 (by decide) (by decide)) i2
theorem d_27 {R : tR} {p : Int} {h s : Nat} {k2 : Int32 → gM → Option (Unit × gM)} {Q : Unit → gM → Prop} {M0 M : gM} (H0 : B2 R p h M0) (hs : stP R s) (f0 : Fo cTb jV M0 M) (hr : ∀ q, q ≠ s → rwE M0 M q) (h47 : M.1 47 s = i3 (loR R p s)) (h48 : M.1 48 s = i3 (hiR R p s))
    (hk : ∀ N, Fo cTb jV M0 N → (∀ q, q ≠ s → rwE M0 N q) → tS R p N s → wp (k2 (i3 ((s + 1 : Nat) : Int)) N) Q) :
    wp (f_X10_layAll_27 k2 FU (i3 s) (i3 ((0 : Nat) : Int)) M) Q := by
  have hna := H0.1.2.1
  have hs2 := st_lt hs
  refine wp_lp (F := fun n x (_ : Unit) M => f_X10_layAll_27 k2 n (i3 s) (i3 x) M) (I := fun x _ N => Fo cTb jV M0 N ∧ (∀ q, q ≠ s → rwE M0 N q) ∧ N.1 47 s = i3 (loR R p s) ∧ N.1 48 s = i3 (hiR R p s) ∧ ∀ a : Nat, a < x → N.1 49 (6 * s + a) = b2i (b_ (caP R p s a)) ∧ (caP R p s a → ∀ j : Nat, j < 25 → N.1 50 (25 * (6 * s + a) + j) = i3 (nxR R p s a ((j : Int) - 12)))) (rNa R) ?_ ?_ FU 0 () M (by omega) (by rw [FU_s]; omega) ⟨f0, hr, h47, h48, fun a ha => by omega⟩
  · intro n x _ N hx hI hk2
    obtain ⟨f, i1, i2, i3', i4⟩ := hI
    have H := H0.mv f (by decide) (by decide)
    rw [f_X10_layAll_27, d_acts H, g_b_some]
    simp (disch := omega) only [i3_le]
    rw [if_neg (by omega)]
    refine wp_b _ (d_may H hs2 hx) (fun r N2 hN => ?_)
    obtain ⟨rfl, f2⟩ := hN
    have e1 : (6 * (s : Int) + x).toNat = 6 * s + x := by omega
    simp only [i3_sn]
    simp (disch := omega) only [iL6, i3_mul, i3_add, ck_ok, wp_m, i3_tn, e1, zb_ok]
    have q49 : (sI N2 49 (6 * s + x) (b2i (b_ (caP R p s x)))).1 49 = upd (N.1 49) (6 * s + x) (b2i (b_ (caP R p s x))) := by rw [rI_e, f2.e1 (by decide) (by decide)]
    have fQ : Fo cTb jV M0 (sI N2 49 (6 * s + x) (b2i (b_ (caP R p s x)))) := (f.tr (f2.up (by decide) (by decide))).i (by decide) (by decide)
    have f3 : Fo [46, 49] jV N (sI N2 49 (6 * s + x) (b2i (b_ (caP R p s x)))) := (f2.up (by decide) (by decide)).i (by decide) (by decide)
    generalize sI N2 49 (6 * s + x) (b2i (b_ (caP R p s x))) = N3 at q49 fQ f3 ⊢
    have q47 : N3.1 47 = N.1 47 := f3.e1 (by decide) (by decide)
    have q48 : N3.1 48 = N.1 48 := f3.e1 (by decide) (by decide)
    have q50 : N3.1 50 = N.1 50 := f3.e1 (by decide) (by decide)
    rw [q49, up_e]
    simp (disch := omega) only [b2i_0, b_ifn]
    refine wp_if (fun hx2 => ?_) (fun hx2 => ?_)
    · refine hk2 () N3 ⟨fQ, fun q hq => (i1 q hq).tr ⟨by rw [q47], by rw [q48], fun a ha => ⟨by rw [q49, up_n (by omega)], fun j hj => by rw [q50]⟩⟩, by rw [q47, i2], by rw [q48, i3'], fun a ha => ?_⟩
      by_cases hax : a = x
      · subst hax
        rw [q49, up_e]
        exact ⟨rfl, fun hc => absurd hc hx2⟩
      · rw [q49, up_n (by omega), q50]
        exact i4 a (by omega)
    · have hc : caP R p s x := Classical.not_not.1 hx2
      refine d_72 (H0.mv fQ (by decide) (by decide)) hs hc.2.1 hx (fun N4 g1 g2 g3 g4 g5 g6 => ?_)
      refine hk2 () N4 ⟨fQ.tr g1, fun q hq => (i1 q hq).tr ⟨by rw [g3, q47], by rw [g4, q48], fun a ha => ⟨by rw [g5, q49, up_n (by omega)], fun j hj => by rw [g2 _ (by omega), q50]⟩⟩, by rw [g3, q47, i2], by rw [g4, q48, i3'], fun a ha => ?_⟩
      by_cases hax : a = x
      · subst hax
        rw [g5, q49, up_e]
        exact ⟨rfl, fun _ => g6⟩
      · rw [g5, q49, up_n (by omega)]
        refine ⟨(i4 a (by omega)).1, fun hca j hj => ?_⟩
        rw [g2 _ (by omega), q50]
        exact (i4 a (by omega)).2 hca j hj
  · intro n _ N hI
    obtain ⟨f, i1, i2, i3', i4⟩ := hI
    rw [f_X10_layAll_27, d_acts (H0.mv f (by decide) (by decide)), g_b_some]
    simp (disch := omega) only [i3_le]
    rw [if_pos (by omega), i3_sn]
    exact hk N f i1 ⟨i2, i3', i4⟩
theorem d_layAll {R : tR} {p : Int} {h : Nat} {M : gM} (H : B2 R p h M) : wp (f_X10_layAll M) (fun _ N => Fo cTb jV M N ∧ TB R p N) := by
  have hR := H.1
  rw [f_X10_layAll]
  refine wp_lp (F := fun n x (_ : Unit) M => f_X10_layAll_2 n (i3 x) M) (I := fun x _ N => Fo cTb jV M N ∧ ∀ s : Nat, s < x → stP R s → tS R p N s) 2079 ?_ ?_ FU 0 () M (by omega) (by rw [FU_s]; omega) ⟨Fo.rf, fun s hs => by omega⟩
  · intro n x _ N hx hI hk
    obtain ⟨f, i1⟩ := hI
    have H1 := H.mv f (by decide) (by decide)
    rw [f_X10_layAll_2, d_state H1 (by omega), g_b_some, i3_sn]
    simp (disch := omega) only [b_if]
    simp (disch := omega) only [iL2079, i3_lt, i3_le, i3_eq]
    rw [if_neg (by omega)]
    refine wp_if (fun hx2 => ?_) (fun hx2 => ?_)
    · refine wp_b _ (d_blows H1 hx) (fun _ N2 hN => ?_)
      obtain ⟨f2, g1, g2, g3⟩ := hN
      have e49 : N2.1 49 = N.1 49 := f2.e1 (by decide) (by decide)
      have e50 : N2.1 50 = N.1 50 := f2.e1 (by decide) (by decide)
      refine d_27 (M0 := N) H1 hx2 (f2.up (by decide) (by decide)) (fun q hq => ⟨(g1 q hq).1, (g1 q hq).2, fun a ha => ⟨by rw [e49], fun j hj => by rw [e50]⟩⟩) g2 g3 (fun N3 q1 q2 q3 => ?_)
      refine hk () N3 ⟨f.tr q1, fun s hs hst => ?_⟩
      by_cases hsx : s = x
      · subst hsx
        exact q3
      · exact (q2 s hsx).ts hR (i1 s (by omega) hst)
    · refine hk () N ⟨f, fun s hs hst => ?_⟩
      by_cases hsx : s = x
      · subst hsx
        exact absurd hst hx2
      · exact i1 s (by omega) hst
  · intro n _ N hI
    obtain ⟨f, i1⟩ := hI
    rw [f_X10_layAll_2]
    simp (disch := omega) only [iL2079, i3_lt, i3_le, i3_eq]
    rw [if_pos (by omega), wp_some]
    exact ⟨f, i1⟩
