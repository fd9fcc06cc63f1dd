/-! ===== the reference's ODDS ===== -/
def roI (R : tR) (p : Int) (X : Nat → Int) (m : Nat) (N : gM) : Prop := ∀ c : Nat, c < 3 → ∀ s : Nat, s < 2079 → N.2.1 62 (2079 * c + s) = ooR R p X c m s
theorem iL6237 : (6237 : Int32) = i3 6237 := rfl
theorem iL4158b : (4158 : Int32) = i3 4158 := rfl
/-- what a gust adds -/
noncomputable def kgO (R : tR) (p : Int) (X : Nat → Int) (c m s i : Nat) : Int64 := @ite _ (drX R p X s (loR R p s + (i : Int)) = -2) (Classical.propDecidable _) (cfO c) (ooR R p X c m (drX R p X s (loR R p s + (i : Int))).toNat)
theorem d_c137 {s q : Nat} {k82 : Int32 → Int32 → Int32 → gM → Option (Unit × gM)} {Q : Unit → gM → Prop} {M : gM} {x1 x3 : Int32} (hs : s < 2079) (hq : q < 2079)
    (hk : ∀ N, Fo [62] [] M N → (∀ i : Nat, (∀ c : Nat, c < 3 → i ≠ 6237 + s + 2079 * c) → N.2.1 62 i = M.2.1 62 i) → (∀ c : Nat, c < 3 → N.2.1 62 (6237 + s + 2079 * c) = M.2.1 62 (6237 + s + 2079 * c) + M.2.1 62 (2079 * c + q)) → wp (k82 x1 (i3 ((6237 + s : Nat) : Int)) (x3 + 1) N) Q) :
    wp (f_X10_countRows_137 k82 FU x1 (i3 ((6237 + s : Nat) : Int)) x3 (i3 q) (i3 ((0 : Nat) : Int)) M) Q := by
  refine wp_lp (F := fun n x (_ : Unit) M => f_X10_countRows_137 k82 n x1 (i3 ((6237 + s : Nat) : Int)) x3 (i3 q) (i3 x) M) (I := fun x _ N => Fo [62] [] M N ∧ (∀ i : Nat, (∀ c : Nat, c < x → i ≠ 6237 + s + 2079 * c) → N.2.1 62 i = M.2.1 62 i) ∧ ∀ c : Nat, c < x → N.2.1 62 (6237 + s + 2079 * c) = M.2.1 62 (6237 + s + 2079 * c) + M.2.1 62 (2079 * c + q)) 3 ?_ ?_ FU 0 () M (by omega) (by rw [FU_s]; omega) ⟨Fo.rf, fun _ _ => rfl, fun c hc => by omega⟩
  · intro n x _ N hx hI hk2
    obtain ⟨f, i1, i2⟩ := hI
    have e1 : ((6237 + s : Nat) : Int) + 2079 * (x : Int) = ((6237 + s + 2079 * x : Nat) : Int) := by omega
    have e2 : 2079 * (x : Int) + (q : Int) = ((2079 * x + q : Nat) : Int) := by omega
    rw [f_X10_countRows_137]
    rw [show i3 (x : Int) + 1 = i3 ((x + 1 : Nat) : Int) from i3_sn x]
    simp (disch := omega) only [iL3, iL2079, i3_le, i3_mul, i3_add, e1, e2, ck_ok, i3_tn, Int.toNat_natCast]
    rw [if_neg (by omega), wp_m, i1 (6237 + s + 2079 * x) (fun c hc => by omega), i1 (2079 * x + q) (fun c hc => by omega)]
    refine hk2 () _ ⟨f.l (by decide), fun i hi => ?_, fun c hc => ?_⟩
    · rw [rL_e, uL_n (hi x (by omega))]
      exact i1 i (fun c hc => hi c (by omega))
    · rw [rL_e]
      by_cases hcx : c = x
      · subst hcx; rw [uL_e]
      · rw [uL_n (by omega)]; exact i2 c (by omega)
  · intro n _ N hI
    obtain ⟨f, i1, i2⟩ := hI
    rw [f_X10_countRows_137]
    simp (disch := omega) only [iL3, i3_le]
    rw [if_pos (by omega)]
    exact hk N f i1 i2
theorem d_c82 {R : tR} {p : Int} {h s m : Nat} {X : Nat → Int} {M0 : gM} (H : D2 R p h M0) (hX : XP R p X) (hr : rfI R X M0) (hs : stP R s) (hro : roI R p X m M0) : ∀ (n j : Nat) (M : gM), j ≤ (hiR R p s - loR R p s + 1).toNat → (hiR R p s - loR R p s + 1).toNat < n + j → Fo [62] [] M0 M → (∀ i : Nat, (∀ c : Nat, c < 3 → i ≠ 6237 + s + 2079 * c) → M.2.1 62 i = M0.2.1 62 i) → (∀ c : Nat, c < 3 → M.2.1 62 (6237 + s + 2079 * c) = sumL (kgO R p X c m s) j) →
    wp (f_X10_countRows_82 n (i3 s) (i3 ((6237 + s : Nat) : Int)) (i3 (loR R p s + (j : Int))) M) (fun _ N => Fo [62] [] M0 N ∧ (∀ i : Nat, (∀ c : Nat, c < 3 → i ≠ 6237 + s + 2079 * c) → N.2.1 62 i = M0.2.1 62 i) ∧ ∀ c : Nat, c < 3 → N.2.1 62 (6237 + s + 2079 * c) = sumL (kgO R p X c m s) (hiR R p s - loR R p s + 1).toNat) := by
  have hR := H.1.1
  have hs2 := st_lt hs
  have hlh := lh_r (p := p) (s := s) hR
  intro n
  induction n with
  | zero => intro j M h1 h2; omega
  | succ n ih =>
    intro j M hj hn f i1 i2
    have H1 := H.mv f (by decide) (by decide)
    rw [f_X10_countRows_82]
    have eg : i3 (loR R p s + (j : Int)) + 1 = i3 (loR R p s + ((j + 1 : Nat) : Int)) := by
      rw [iL1, i3_add]
      congr 1
      omega
    rw [eg]
    simp (disch := omega) only [ck_ok, i3_tn, Int.toNat_natCast, d_hi H1 hs, i3_lt]
    refine wp_if (fun hx => ?_) (fun hx => ?_)
    · have : j = (hiR R p s - loR R p s + 1).toNat := by omega
      rw [wp_some]
      exact ⟨f, i1, fun c hc => by rw [i2 c hc, this]⟩
    · rw [d_driven H1 hX (fun s hs hst => by rw [f.e1 (by decide) (by decide)]; exact hr s hs hst) hs (by omega), g_b_some]
      rcases dr_q hR p X s (loR R p s + (j : Int)) with hq | ⟨q, hq, hq2, hq3⟩
      · have e1 : ((6237 + s : Nat) : Int) + 4158 = ((6237 + s + 4158 : Nat) : Int) := by omega
        rw [hq, if_pos (show i3 (-2) = ((-2) : Int32) from rfl)]
        simp (disch := omega) only [iL4158b, i3_add, e1, ck_ok, i3_tn, Int.toNat_natCast]
        rw [wp_m, wp_m]
        have q62 : (sL (sL M 62 (6237 + s) (M.2.1 62 (6237 + s) + 1)) 62 (6237 + s + 4158) ((sL M 62 (6237 + s) (M.2.1 62 (6237 + s) + 1)).2.1 62 (6237 + s + 4158) + 1)).2.1 62 = vp_updL (vp_updL (M.2.1 62) (6237 + s) (M.2.1 62 (6237 + s) + 1)) (6237 + s + 4158) (M.2.1 62 (6237 + s + 4158) + 1) := by
          rw [rL_e, rL_e, uL_n (by omega)]
        have fQ : Fo [62] [] M0 (sL (sL M 62 (6237 + s) (M.2.1 62 (6237 + s) + 1)) 62 (6237 + s + 4158) ((sL M 62 (6237 + s) (M.2.1 62 (6237 + s) + 1)).2.1 62 (6237 + s + 4158) + 1)) := (f.l (by decide)).l (by decide)
        generalize sL (sL M 62 (6237 + s) (M.2.1 62 (6237 + s) + 1)) 62 (6237 + s + 4158) ((sL M 62 (6237 + s) (M.2.1 62 (6237 + s) + 1)).2.1 62 (6237 + s + 4158) + 1) = N at q62 fQ ⊢
        refine ih (j + 1) N (by omega) (by omega) fQ (fun i hi => ?_) (fun c hc => ?_)
        · have h0 := hi 0 (by omega)
          have h2 := hi 2 (by omega)
          rw [q62, uL_n (by omega), uL_n (by omega)]
          exact i1 i hi
        · have kg : kgO R p X c m s j = cfO c := by unfold kgO; rw [if_pos hq]
          rw [sumL_s, kg, ← i2 c hc, q62]
          have cc : c = 0 ∨ c = 1 ∨ c = 2 := by omega
          rcases cc with rfl | rfl | rfl
          · rw [uL_n (by omega), show 6237 + s + 2079 * 0 = 6237 + s by omega, uL_e]
            rfl
          · rw [uL_n (by omega), uL_n (by omega)]
            exact (Int64.add_zero _).symm
          · rw [show 6237 + s + 2079 * 2 = 6237 + s + 4158 by omega, uL_e]
            rfl
      · rw [hq]
        simp (disch := omega) only [i3_m2, i3_eq]
        rw [if_neg (by omega)]
        refine d_c137 hs2 hq2 (fun N g1 g2 g3 => ?_)
        rw [eg]
        refine ih (j + 1) N (by omega) (by omega) (f.tr g1) (fun i hi => by rw [g2 i hi]; exact i1 i hi) (fun c hc => ?_)
        have kg : kgO R p X c m s j = ooR R p X c m q := by unfold kgO; rw [if_neg (by omega), hq, Int.toNat_natCast]
        rw [sumL_s, kg, g3 c hc, i2 c hc, i1 (2079 * c + q) (fun c2 hc2 => by omega), hro c hc q hq2]
theorem d_crows {R : tR} {p : Int} {h s m : Nat} {X : Nat → Int} {M : gM} (H : D2 R p h M) (hX : XP R p X) (hr : rfI R X M) (hs : s < 2079) (hro : roI R p X m M) : wp (f_X10_countRows (i3 s) M) (fun _ N => Fo [62] [] M N ∧ (∀ i : Nat, (∀ c : Nat, c < 3 → i ≠ 6237 + s + 2079 * c) → N.2.1 62 i = M.2.1 62 i) ∧ ∀ c : Nat, c < 3 → N.2.1 62 (6237 + s + 2079 * c) = ooR R p X c (m + 1) s) := by
  have e0 : (6237 : Int) + s = ((6237 + s : Nat) : Int) := by omega
  have e1 : ((6237 + s : Nat) : Int) + 2079 = ((6237 + s + 2079 : Nat) : Int) := by omega
  have e2 : ((6237 + s : Nat) : Int) + 4158 = ((6237 + s + 4158 : Nat) : Int) := by omega
  rw [f_X10_countRows, iL6237, i3_add, e0, wp_v]
  simp (disch := omega) only [iL2079, iL4158b, i3_add, e1, e2, ck_ok, i3_tn, Int.toNat_natCast]
  rw [wp_m, wp_m, wp_m]
  have q62 : (sL (sL (sL M 62 (6237 + s) 0) 62 (6237 + s + 2079) 0) 62 (6237 + s + 4158) 0).2.1 62 = vp_updL (vp_updL (vp_updL (M.2.1 62) (6237 + s) 0) (6237 + s + 2079) 0) (6237 + s + 4158) 0 := by rw [rL_e, rL_e, rL_e]
  have fQ : Fo [62] [] M (sL (sL (sL M 62 (6237 + s) 0) 62 (6237 + s + 2079) 0) 62 (6237 + s + 4158) 0) := ((Fo.rf.l (by decide)).l (by decide)).l (by decide)
  generalize sL (sL (sL M 62 (6237 + s) 0) 62 (6237 + s + 2079) 0) 62 (6237 + s + 4158) 0 = M1 at q62 fQ ⊢
  have H1 := H.mv fQ (by decide) (by decide)
  have z1 : ∀ i : Nat, (∀ c : Nat, c < 3 → i ≠ 6237 + s + 2079 * c) → M1.2.1 62 i = M.2.1 62 i := fun i hi => by
    have h0 := hi 0 (by omega)
    have h1 := hi 1 (by omega)
    have h2 := hi 2 (by omega)
    rw [q62, uL_n (by omega), uL_n (by omega), uL_n (by omega)]
  have z2 : ∀ c : Nat, c < 3 → M1.2.1 62 (6237 + s + 2079 * c) = 0 := fun c hc => by
    have cc : c = 0 ∨ c = 1 ∨ c = 2 := by omega
    rw [q62]
    rcases cc with rfl | rfl | rfl
    · rw [uL_n (by omega), uL_n (by omega), show 6237 + s + 2079 * 0 = 6237 + s by omega, uL_e]
    · rw [uL_n (by omega), show 6237 + s + 2079 * 1 = 6237 + s + 2079 by omega, uL_e]
    · rw [show 6237 + s + 2079 * 2 = 6237 + s + 4158 by omega, uL_e]
  rw [d_state H1.1 (by omega), g_b_some, b_if]
  refine wp_if (fun hst => ?_) (fun hst => ?_)
  · rw [d_over H1.1 hs, g_b_some, b_if]
    refine wp_if (fun ho => ?_) (fun ho => ?_)
    · rw [wp_m, wp_m, wp_some]
      have p62 : (sL (sL M1 62 (6237 + s + 2079) 1) 62 (6237 + s + 4158) 1).2.1 62 = vp_updL (vp_updL (M1.2.1 62) (6237 + s + 2079) 1) (6237 + s + 4158) 1 := by rw [rL_e, rL_e]
      refine ⟨(fQ.l (by decide)).l (by decide), fun i hi => ?_, fun c hc => ?_⟩
      · have h1 := hi 1 (by omega)
        have h2 := hi 2 (by omega)
        rw [p62, uL_n (by omega), uL_n (by omega)]
        exact z1 i hi
      · rw [oo_ov hst ho hc, p62]
        have cc : c = 0 ∨ c = 1 ∨ c = 2 := by omega
        rcases cc with rfl | rfl | rfl
        · rw [uL_n (by omega), uL_n (by omega), z2 0 hc]
          rfl
        · rw [uL_n (by omega), show 6237 + s + 2079 * 1 = 6237 + s + 2079 by omega, uL_e]
          rfl
        · rw [show 6237 + s + 2079 * 2 = 6237 + s + 4158 by omega, uL_e]
          rfl
    · rw [d_lo H1 hst, wp_v]
      have hro1 : roI R p X m M1 := fun c hc q hq => by rw [z1 _ (fun c2 hc2 => by omega)]; exact hro c hc q hq
      have := d_c82 H1 hX (fun s hs hst => by rw [fQ.e1 (by decide) (by decide)]; exact hr s hs hst) hst hro1 FU 0 M1 (by omega) (by have := lh_r (p := p) (s := s) H.1.1; rw [FU_s]; omega) Fo.rf (fun _ _ => rfl) z2
      rw [show loR R p s + ((0 : Nat) : Int) = loR R p s by omega] at this
      refine wp_mono this (fun _ N hN => ⟨fQ.tr hN.1, fun i hi => by rw [hN.2.1 i hi]; exact z1 i hi, fun c hc => ?_⟩)
      rw [hN.2.2 c hc, ooR, if_pos hst, if_neg ho]
      rfl
  · rw [wp_some]
    refine ⟨fQ, z1, fun c hc => ?_⟩
    rw [z2 c hc, ooR, if_neg hst]
theorem d_o109 {R : tR} {p : Int} {h s0 nn wh : Nat} {X : Nat → Int} {M0 : gM} (hX : XP R p X) (hr : rfI R X M0) (hs : s0 < 2079) (hw : wh < 3) (hnn : nn ≤ 12) : ∀ (n k : Nat) (M : gM), k ≤ nn → nn < n + k → D2 R p h M → Fo [62] [] M0 M → roI R p X k M → wp (f_X10_odds_109 n (i3 s0) (i3 nn) (i3 wh) (i3 k) M) (fun r N => r = ooR R p X wh nn s0 ∧ Fo [62] [] M0 N) := by
  intro n
  induction n with
  | zero => intro k M h1 h2; omega
  | succ n ih =>
    intro k M h1 h2 H f hro
    rw [f_X10_odds_109]
    simp (disch := omega) only [i3_le]
    refine wp_if (fun hx => ?_) (fun hx => ?_)
    · have : k = nn := by omega
      subst this
      have e1 : 2079 * (wh : Int) + s0 = ((2079 * wh + s0 : Nat) : Int) := by omega
      simp (disch := omega) only [iL2079, i3_mul, i3_add, e1, ck_ok, i3_tn, Int.toNat_natCast, wp_some]
      exact ⟨hro wh hw s0 hs, f⟩
    · refine wp_lp (F := fun m x (_ : Unit) M => f_X10_odds_118 (f_X10_odds_109 n) m (i3 s0) (i3 nn) (i3 wh) (i3 k) (i3 x) M) (I := fun x _ N => Fo [62] [] M N ∧ roI R p X k N ∧ ∀ c : Nat, c < 3 → ∀ s : Nat, s < x → N.2.1 62 (6237 + s + 2079 * c) = ooR R p X c (k + 1) s) 2079 ?_ ?_ FU 0 () M (by omega) (by rw [FU_s]; omega) ⟨Fo.rf, hro, fun c hc s hs => by omega⟩
      · intro m x _ N hx hI hk2
        obtain ⟨g, i1, i2⟩ := hI
        rw [f_X10_odds_118]
        rw [show i3 (x : Int) + 1 = i3 ((x + 1 : Nat) : Int) from i3_sn x]
        simp (disch := omega) only [iL2079, i3_le]
        rw [if_neg (by omega)]
        refine wp_b _ (d_crows (H.mv g (by decide) (by decide)) hX (fun s hs hst => by rw [g.e1 (by decide) (by decide), f.e1 (by decide) (by decide)]; exact hr s hs hst) hx i1) (fun _ N2 hN => ?_)
        obtain ⟨u1, u2, u3⟩ := hN
        refine hk2 () N2 ⟨g.tr u1, fun c hc q hq => ?_, fun c hc q hq => ?_⟩
        · rw [u2 _ (fun c2 hc2 => by omega)]
          exact i1 c hc q hq
        · by_cases hqx : q = x
          · subst hqx; exact u3 c hc
          · rw [u2 _ (fun c2 hc2 => by omega)]
            exact i2 c hc q (by omega)
      · intro m _ N hI
        obtain ⟨g, i1, i2⟩ := hI
        rw [f_X10_odds_118]
        simp (disch := omega) only [iL2079, i3_le]
        rw [if_pos (by omega)]
        refine wp_lp (F := fun m x (_ : Unit) M => f_X10_odds_141 (f_X10_odds_109 n) m (i3 s0) (i3 nn) (i3 wh) (i3 k) (i3 x) M) (I := fun x _ L => Fo [62] [] N L ∧ (∀ i : Nat, i < x → L.2.1 62 i = N.2.1 62 (6237 + i)) ∧ ∀ i : Nat, x ≤ i → L.2.1 62 i = N.2.1 62 i) 6237 ?_ ?_ FU 0 () N (by omega) (by rw [FU_s]; omega) ⟨Fo.rf, fun i hi => by omega, fun _ _ => rfl⟩
        · intro m x _ L hx hI hk2
          obtain ⟨g2, j1, j2⟩ := hI
          have e1 : (6237 : Int) + x = ((6237 + x : Nat) : Int) := by omega
          rw [f_X10_odds_141]
          rw [show i3 (x : Int) + 1 = i3 ((x + 1 : Nat) : Int) from i3_sn x]
          simp (disch := omega) only [iL6237, i3_le, i3_add, e1, ck_ok, i3_tn, Int.toNat_natCast]
          rw [if_neg (by omega), wp_m, j2 (6237 + x) (by omega)]
          refine hk2 () _ ⟨g2.l (by decide), fun i hi => ?_, fun i hi => ?_⟩
          · rw [rL_e]
            by_cases hix : i = x
            · subst hix; rw [uL_e]
            · rw [uL_n hix]; exact j1 i (by omega)
          · rw [rL_e, uL_n (by omega)]
            exact j2 i (by omega)
        · intro m _ L hI
          obtain ⟨g2, j1, j2⟩ := hI
          rw [f_X10_odds_141]
          simp (disch := omega) only [iL6237, i3_le]
          rw [if_pos (by omega), i3_sn]
          refine ih (k + 1) L (by omega) (by omega) ((H.mv g (by decide) (by decide)).mv g2 (by decide) (by decide)) ((f.tr g).tr g2) (fun c hc q hq => ?_)
          rw [j1 _ (by omega), show 6237 + (2079 * c + q) = 6237 + q + 2079 * c by omega]
          exact i2 c hc q hq
theorem d_odds {R : tR} {p : Int} {h s0 nn wh : Nat} {X : Nat → Int} {M : gM} (H : D2 R p h M) (hX : XP R p X) (hr : rfI R X M) (hs : stP R s0) (hw : wh < 3) (hnn : nn ≤ 12) : wp (f_X10_odds_38 FU (i3 s0) (i3 nn) (i3 wh) (i3 ((0 : Nat) : Int)) M) (fun r N => r = ooR R p X wh nn s0 ∧ Fo [62] [] M N) := by
  have hs2 := st_lt hs
  refine wp_lp (F := fun n x (_ : Unit) M => f_X10_odds_38 n (i3 s0) (i3 nn) (i3 wh) (i3 x) M) (I := fun x _ N => Fo [62] [] M N ∧ ∀ c : Nat, c < 3 → ∀ s : Nat, s < x → N.2.1 62 (2079 * c + s) = ooR R p X c 0 s) 2079 ?_ ?_ FU 0 () M (by omega) (by rw [FU_s]; omega) ⟨Fo.rf, fun c hc s hs => by omega⟩
  · intro n x _ N hx hI hk2
    obtain ⟨f, i1⟩ := hI
    have e1 : (2079 : Int) + x = ((2079 + x : Nat) : Int) := by omega
    have e2 : (4158 : Int) + x = ((4158 + x : Nat) : Int) := by omega
    rw [f_X10_odds_38]
    simp (disch := omega) only [iL2079, i3_le, i3_add, e1, ck_ok, i3_tn, Int.toNat_natCast]
    rw [if_neg (by omega), wp_m]
    have f1 : Fo [62] [] M (sL N 62 x 0) := f.l (by decide)
    have q62 : (sL N 62 x 0).2.1 62 = vp_updL (N.2.1 62) x 0 := rL_e
    generalize sL N 62 x 0 = N1 at f1 q62 ⊢
    have H1 := H.mv f1 (by decide) (by decide)
    have go : ∀ v : Int64, v = ooR R p X 1 0 x → wp (f_X10_odds_87 (f_X10_odds_38 n) (i3 s0) (i3 nn) (i3 wh) (i3 x) (i3 ((2079 + x : Nat) : Int)) v N1) (fun r N => r = ooR R p X wh nn s0 ∧ Fo [62] [] M N) := by
      intro v hv
      rw [f_X10_odds_87]
      rw [show i3 (x : Int) + 1 = i3 ((x + 1 : Nat) : Int) from i3_sn x]
      simp (disch := omega) only [iL4158b, i3_add, e2, ck_ok, i3_tn, Int.toNat_natCast]
      rw [wp_m, wp_m]
      refine hk2 () _ ⟨(f1.l (by decide)).l (by decide), fun c hc s hs => ?_⟩
      rw [rL_e, rL_e, q62]
      have cc : c = 0 ∨ c = 1 ∨ c = 2 := by omega
      by_cases hsx : s = x
      · subst hsx
        rcases cc with rfl | rfl | rfl
        · rw [uL_n (by omega), uL_n (by omega), show 2079 * 0 + s = s by omega, uL_e, oo_00]
        · rw [uL_n (by omega), show 2079 * 1 + s = 2079 + s by omega, uL_e, hv]
        · rw [show 2079 * 2 + s = 4158 + s by omega, uL_e, oo_20]
      · rw [uL_n (by omega), uL_n (by omega), uL_n (by omega)]
        exact i1 c hc s (by omega)
    rw [d_state H1.1 (by omega), g_b_some, b_if]
    refine wp_if (fun hst => ?_) (fun hst => ?_)
    · rw [d_over H1.1 hx, g_b_some, b_if]
      refine wp_if (fun ho => ?_) (fun ho => ?_)
      · exact go 1 (by rw [oo_10, if_pos ⟨hst, ho⟩])
      · exact go 0 (by rw [oo_10, if_neg (fun h => ho h.2)])
    · exact go 0 (by rw [oo_10, if_neg (fun h => hst h.1)])
  · intro n _ N hI
    obtain ⟨f, i1⟩ := hI
    rw [f_X10_odds_38]
    simp (disch := omega) only [iL2079, i3_le]
    rw [if_pos (by omega)]
    exact wp_mono (d_o109 hX (fun s hs hst => by rw [f.e1 (by decide) (by decide)]; exact hr s hs hst) hs2 hw hnn FU 0 N (by omega) (by rw [FU_s]; omega) (H.mv f (by decide) (by decide)) Fo.rf i1) (fun r N2 hN => ⟨hN.1, f.tr hN.2⟩)
