/-! ===== the reference: all REFLEXES, LEARNING ===== -/
def xJ (R : tR) (p : Int) (X : Nat → Int) (M : gM) : Prop := M.1 0 72 = 1 → M.1 0 76 = 0 ∨ (M.1 0 76 = 1 ∧ rxI R p X M)
abbrev cRA : List Nat := cTb ++ [51, 56, 57, 58]
theorem rxI.mv {R : tR} {p : Int} {X : Nat → Int} {M M' : gM} {S J : List Nat} (h : rxI R p X M) (f : Fo S J M M') (hS : 56 ∉ S ∧ 57 ∉ S ∧ 58 ∉ S) : rxI R p X M' := ⟨fun s hs hst => by rw [f.e1 (by decide) hS.1]; exact h.1 s hs hst, fun s hs hst => by rw [f.e1 (by decide) hS.2.1, f.e1 (by decide) hS.2.2]; exact h.2 s hs hst⟩
theorem d_refAll {R : tR} {p : Int} {h L : Nat} {ls : Nat → Nat} {M : gM} (H : B2 R p h M) (hl : lI R p M) (hj : lnJ R p L ls M) (hx : xJ R p (rxX R p L ls) M) : wp (f_X10_reflexAll M) (fun _ N => Fo cRA jL M N ∧ D2 R p h N ∧ gOk R p N ∧ N.1 0 72 = 1 ∧ N.1 0 76 = 1 ∧ rxI R p (rxX R p L ls) N ∧ (M.1 0 72 = 1 → N.1 0 74 = M.1 0 74 ∧ N.1 0 75 = M.1 0 75) ∧ (M.1 0 72 = 0 → N.1 0 74 = 0 ∧ N.1 0 75 = 0)) := by
  rw [f_X10_reflexAll]
  refine wp_b _ (d_lay H hl) (fun _ N hN => ?_)
  obtain ⟨f1, H1, hg, h72, hor⟩ := hN
  have hjN : lnJ R p L ls N := hj.mv f1 (by decide) (by decide) (by decide)
  have case : N.1 0 76 = 0 ∨ (N.1 0 76 = 1 ∧ rxI R p (rxX R p L ls) N) := by
    rcases hor with ⟨-, e⟩ | ⟨-, -, -, e⟩
    · subst e; exact hx h72
    · exact Or.inl e
  have k1 : M.1 0 72 = 1 → N.1 0 74 = M.1 0 74 ∧ N.1 0 75 = M.1 0 75 := fun h1 => by
    rcases hor with ⟨-, e⟩ | ⟨e, -⟩
    · subst e; exact ⟨rfl, rfl⟩
    · rw [e] at h1; exact absurd h1 (by decide)
  have k2 : M.1 0 72 = 0 → N.1 0 74 = 0 ∧ N.1 0 75 = 0 := fun h0 => by
    rcases hor with ⟨e, -⟩ | ⟨-, e1, e2, e3⟩
    · rw [h0] at e; exact absurd e (by decide)
    · exact ⟨e1, e2⟩
  rcases case with h76 | ⟨h76, hrx⟩
  · rw [if_pos h76, wp_m]
    have f2 : Fo [] [76] N (sI N 0 76 1) := Fo.rf.o (by decide)
    have q76 : (sI N 0 76 1).1 0 76 = 1 := by rw [rI_e, up_e]
    generalize sI N 0 76 1 = N2 at f2 q76 ⊢
    have H2 := H1.mv f2 (by decide) (by decide)
    refine wp_mono (d_ra19 H2 (hjN.mv f2 (by decide) (by decide) (by decide))) (fun _ N3 hN => ?_)
    obtain ⟨f3, hrx⟩ := hN
    refine ⟨((f1.up (by decide) (by decide)).tr (f2.up (by decide) (by decide))).tr (f3.up (by decide) (by decide)), H2.mv f3 (by decide) (by decide), fun s hs hst => by rw [f3.e1 (by decide) (by decide), f2.e1 (by decide) (by decide)]; exact hg s hs hst, by rw [f3.e0 (by decide), f2.e0 (by decide)]; exact h72, by rw [f3.e0 (by decide)]; exact q76, hrx, fun h => ?_, fun h => ?_⟩
    · rw [f3.e0 (by decide), f3.e0 (by decide), f2.e0 (by decide), f2.e0 (by decide)]
      exact k1 h
    · rw [f3.e0 (by decide), f3.e0 (by decide), f2.e0 (by decide), f2.e0 (by decide)]
      exact k2 h
  · rw [h76, if_neg (by decide), wp_some]
    exact ⟨f1.up (by decide) (by decide), H1, hg, h72, h76, hrx, k1, k2⟩
theorem d_l51 {R : tR} {p : Int} {h L s0 d : Nat} {ls : Nat → Nat} {k17 : Int32 → Int32 → Int32 → gM → Option (Int32 × gM)} {Q : Int32 → gM → Prop} {M : gM} {x2 : Int32} (H : D2 R p h M) (hg : gOk R p M) (hj : lnJ R p L ls M) (hr : rxI R p (rxX R p L ls) M) (hs : stP R s0) (hd : fiX R p (rxX R p L ls) s0 = d) (hd2 : d < 2080)
    (hq : wp (if fdX R p L ls s0 d < 0 then (f_X10_learn_119 k17 (i3 s0) x2 (i3 (fdX R p L ls s0 d)) (0 : Int32) M) else (f_X10_learn_119 k17 (i3 s0) x2 (i3 (fdX R p L ls s0 d)) (1 : Int32) M)) Q) : ∀ (n k : Nat), k ≤ d → d < n + k →
    wp (f_X10_learn_51 k17 n (i3 s0) x2 (i3 (fdX R p L ls s0 k)) (i3 (ptX R p (rxX R p L ls) s0 (@ite _ (k < d) (Classical.propDecidable _) k (d - 1)))) (i3 d) (i3 k) M) Q := by
  have hR := H.1.1
  have hX := rx_XP hR hj.1
  intro n
  induction n with
  | zero => intro k h1 h2; omega
  | succ n ih =>
    intro k h1 h2
    rw [f_X10_learn_51]
    simp (disch := omega) only [i3_le]
    refine wp_if (fun hx => ?_) (fun hx => ?_)
    · have : k = d := by omega
      subst this
      have hb : -1 ≤ fdX R p L ls s0 k ∧ fdX R p L ls s0 k < 2079 := by
        rcases fd_x (R := R) (p := p) (L := L) (s0 := s0) (ls := ls) k with e | ⟨j, j1, j2, j3, -⟩
        · omega
        · have := st_lt (sf_st j3)
          omega
      simp (disch := omega) only [iL0, i3_lt]
      exact hq
    · have hk : k < d := by omega
      rw [if_pos hk]
      have hf := pt_fi hR hd k hk
      obtain ⟨hst, ho, -⟩ := fg_P hf (by omega)
      have hlt := st_lt hst
      -- one step on
      have on : ∀ v : Int, v = fdX R p L ls s0 (k + 1) → wp (f_X10_learn_80 (f_X10_learn_51 k17 n) (i3 s0) x2 (i3 v) (i3 (ptX R p (rxX R p L ls) s0 k)) (i3 d) (i3 k) M) Q := by
        intro v hv
        have := ih (k + 1) (by omega) (by omega)
        rw [f_X10_learn_80]
        rw [show i3 (k : Int) + 1 = i3 ((k + 1 : Nat) : Int) from i3_sn k]
        simp (disch := omega) only [iL1, i3_sub, i3_le]
        refine wp_if (fun hy => ?_) (fun hy => ?_)
        · rw [if_neg (by omega), show d - 1 = k by omega] at this
          rw [hv]
          exact this
        · obtain ⟨p1, p2⟩ := pt_s hR hd (show k + 1 < d by omega)
          rw [d_fatal H hX hr hst hf (by omega), g_b_some, d_driven H hX hr.1 hst p2, p1, g_b_some, hv]
          rw [if_pos (by omega)] at this
          exact this
      rw [d_safe hg hst, g_b_some, b_if]
      refine wp_if (fun hsf => ?_) (fun hsf => ?_)
      · obtain ⟨r, e, hrr⟩ := d_lAt hj hlt
        rw [e, g_b_some]
        rcases hrr with ⟨rfl, hno⟩ | ⟨j, rfl, j1, j2⟩
        · rw [if_neg (show ¬ (0 : Int32) ≤ i3 (-1) by decide)]
          exact on _ (by rw [fdX, if_pos ⟨hsf, hno⟩])
        · have := hj.1.1
          simp (disch := omega) only [iL0, i3_le]
          rw [if_pos (by omega)]
          exact on _ (by rw [fdX, if_neg (fun h => h.2 ⟨j, j1, j2⟩)])
      · exact on _ (by rw [fdX, if_neg (fun h => hsf h.1)])
abbrev cLJ : List Nat := cRA ++ [39, 40]
theorem d_l17 {R : tR} {p : Int} {h s0 L0 : Nat} {M0 : gM} (H0 : B2 R p h M0) (hs : stP R s0) : ∀ (n L : Nat) (ls : Nat → Nat) (M : gM), 41 < n + L → Fo cLJ (50 :: jL) M0 M → lI R p M → lnJ R p L ls M → xJ R p (rxX R p L ls) M → (M.1 0 72 = 1 → M0.1 0 72 = 1 → M.1 0 74 = M0.1 0 74 ∧ M.1 0 75 = M0.1 0 75) → (M.1 0 72 = 1 → M0.1 0 72 = 0 → M.1 0 74 = 0 ∧ M.1 0 75 = 0) → (M0.1 0 72 = 1 → M.1 0 72 = 1) →
    wp (f_X10_learn_17 n (i3 s0) (i3 L0) (b2i true) M) (fun r N => r = i3 (((lnR R p s0 (40 - L) L ls).1 : Int) - L0) ∧ Fo cLJ (50 :: jL) M0 N ∧ lI R p N ∧ lnJ R p (lnR R p s0 (40 - L) L ls).1 (lnR R p s0 (40 - L) L ls).2 N ∧ xJ R p (rxX R p (lnR R p s0 (40 - L) L ls).1 (lnR R p s0 (40 - L) L ls).2) N ∧ (N.1 0 72 = 1 → M0.1 0 72 = 1 → N.1 0 74 = M0.1 0 74 ∧ N.1 0 75 = M0.1 0 75) ∧ (N.1 0 72 = 1 → M0.1 0 72 = 0 → N.1 0 74 = 0 ∧ N.1 0 75 = 0)) := by
  intro n
  induction n with
  | zero =>
    intro L ls M h1 _ _ hj
    have := hj.1.1
    omega
  | succ n ih =>
    intro L ls M h1 f hl hj hx k1 k2 k3
    have hR := H0.1
    have hL40 := hj.1.1
    have H := H0.mv f (by decide) (by decide)
    rw [f_X10_learn_17, hj.2.1, if_neg (show ¬ b2i true = 0 by decide)]
    simp (disch := omega) only [iL40, i3_le]
    refine wp_if (fun hx2 => ?_) (fun hx2 => ?_)
    · have : L = 40 := by omega
      subst this
      rw [wp_some, i3_sub]
      exact ⟨rfl, f, hl, hj, hx, k1, k2⟩
    · refine wp_b _ (d_refAll H hl hj hx) (fun _ N hN => ?_)
      obtain ⟨f1, H1, hg, h72, h76, hrx, u1, u2⟩ := hN
      have hlt := st_lt hs
      have hjN : lnJ R p L ls N := hj.mv f1 (by decide) (by decide) (by decide)
      have fN : Fo cLJ (50 :: jL) M0 N := f.tr (f1.up (by decide) (by decide))
      have h72M : M.1 0 72 = 0 ∨ M.1 0 72 = 1 := hl.imp id (fun h => h.1)
      have v1 : N.1 0 72 = 1 → M0.1 0 72 = 1 → N.1 0 74 = M0.1 0 74 ∧ N.1 0 75 = M0.1 0 75 := fun _ g => by
        have := u1 (k3 g)
        rw [this.1, this.2]
        exact k1 (k3 g) g
      have v2 : N.1 0 72 = 1 → M0.1 0 72 = 0 → N.1 0 74 = 0 ∧ N.1 0 75 = 0 := fun _ g => by
        rcases h72M with e | e
        · exact u2 e
        · have := u1 e
          rw [this.1, this.2]
          exact k2 e g
      have hfi := fi_r (R := R) (p := p) (X := rxX R p L ls) (s := s0)
      obtain ⟨d, hd⟩ : ∃ d : Nat, fiX R p (rxX R p L ls) s0 = d := ⟨(fiX R p (rxX R p L ls) s0).toNat, by omega⟩
      rw [ck_ok (by omega) (by omega) (by omega), wp_v, tn_n (by omega), (hrx.2 s0 hlt hs).1, hd]
      obtain ⟨m, em⟩ : ∃ m, 40 - L = m + 1 := ⟨40 - L - 1, by omega⟩
      have e40 : 40 - (L + 1) = m := by omega
      have hfn : fdX R p L ls s0 d = fnX R p L ls s0 := by unfold fnX; rw [hd, Int.toNat_natCast]
      have tail : wp (if fdX R p L ls s0 d < 0 then (f_X10_learn_119 (f_X10_learn_17 n) (i3 s0) (i3 L0) (i3 (fdX R p L ls s0 d)) (0 : Int32) N) else (f_X10_learn_119 (f_X10_learn_17 n) (i3 s0) (i3 L0) (i3 (fdX R p L ls s0 d)) (1 : Int32) N)) (fun r N => r = i3 (((lnR R p s0 (40 - L) L ls).1 : Int) - L0) ∧ Fo cLJ (50 :: jL) M0 N ∧ lI R p N ∧ lnJ R p (lnR R p s0 (40 - L) L ls).1 (lnR R p s0 (40 - L) L ls).2 N ∧ xJ R p (rxX R p (lnR R p s0 (40 - L) L ls).1 (lnR R p s0 (40 - L) L ls).2) N ∧ (N.1 0 72 = 1 → M0.1 0 72 = 1 → N.1 0 74 = M0.1 0 74 ∧ N.1 0 75 = M0.1 0 75) ∧ (N.1 0 72 = 1 → M0.1 0 72 = 0 → N.1 0 74 = 0 ∧ N.1 0 75 = 0)) := by
        rw [hfn, em, lnR]
        rcases fn_x hR (p := p) (L := L) (s0 := s0) (ls := ls) with e | ⟨q, e, q1, q2, q3, q4⟩
        · rw [e, if_pos (by omega), if_pos (by omega), f_X10_learn_119, if_pos rfl]
          obtain ⟨n3, rfl⟩ : ∃ n3, n = n3 + 1 := ⟨n - 1, by omega⟩
          rw [f_X10_learn_17, if_pos rfl, wp_some, hjN.2.1, i3_sub]
          exact ⟨rfl, fN, Or.inr ⟨h72, H1.2, hg⟩, hjN, fun _ => Or.inr ⟨h76, hrx⟩, v1, v2⟩
        · have hqlt := st_lt q4
          rw [e, if_neg (by omega), if_neg (by omega), f_X10_learn_119, if_neg (show ¬ (1 : Int32) = 0 by decide), hjN.2.1, ck_ok (by omega) (by omega) (by omega), wp_m, tn_n (by omega), Int.toNat_natCast]
          have f2 : Fo [39] [] N (sI N 39 L (i3 q)) := Fo.rf.i (by decide) (by decide)
          have q39 : (sI N 39 L (i3 q)).1 39 = upd (N.1 39) L (i3 q) := rI_e
          generalize sI N 39 L (i3 q) = N2 at f2 q39 ⊢
          have H2 := H1.mv f2 (by decide) (by decide)
          have hg2 : gOk R p N2 := fun s hs hst => by rw [f2.e1 (by decide) (by decide)]; exact hg s hs hst
          have e50 : N2.1 0 50 = i3 L := by rw [f2.e0 (by decide)]; exact hjN.2.1
          rw [d_keep H2 hg2 q4, g_b_some, e50, ck_ok (by omega) (by omega) (by omega), wp_m, wp_m, wp_m, tn_n (by omega)]
          have p50 : (sI N2 40 L (i3 (keR R p q))).1 0 50 = i3 L := by rw [rI_n (by decide), e50]
          rw [p50, i3_sn]
          have f3 : Fo [40] [50, 76] N2 (sI (sI (sI N2 40 L (i3 (keR R p q))) 0 50 (i3 ((L + 1 : Nat) : Int))) 0 76 0) := ((Fo.rf.i (by decide) (by decide)).o (by decide)).o (by decide)
          have s50 : (sI (sI (sI N2 40 L (i3 (keR R p q))) 0 50 (i3 ((L + 1 : Nat) : Int))) 0 76 0).1 0 50 = i3 ((L + 1 : Nat) : Int) := by rw [rI_e, up_n (by decide), rI_e, up_e]
          have s76 : (sI (sI (sI N2 40 L (i3 (keR R p q))) 0 50 (i3 ((L + 1 : Nat) : Int))) 0 76 0).1 0 76 = 0 := by rw [rI_e, up_e]
          have s40 : (sI (sI (sI N2 40 L (i3 (keR R p q))) 0 50 (i3 ((L + 1 : Nat) : Int))) 0 76 0).1 40 = upd (N.1 40) L (i3 (keR R p q)) := by rw [rI_n (by decide), rI_n (by decide), rI_e, f2.e1 (by decide) (by decide)]
          generalize sI (sI (sI N2 40 L (i3 (keR R p q))) 0 50 (i3 ((L + 1 : Nat) : Int))) 0 76 0 = N3 at f3 s50 s76 s40 ⊢
          have f23 : Fo [39, 40] [50, 76] N N3 := (f2.up (by decide) (by decide)).tr (f3.up (by decide) (by decide))
          have hj3 : lnJ R p (L + 1) (lsU L ls q) N3 := by
            refine ⟨ln_up hj.1 (by omega) q1 q2 q3, s50, fun i hi => ?_⟩
            rw [f3.e1 (by decide) (by decide), q39, s40]
            by_cases hiL : i = L
            · rw [hiL, up_e, up_e, lsU_e]
              exact ⟨rfl, rfl⟩
            · rw [up_n hiL, up_n hiL, lsU_n hiL]
              exact hjN.2.2 i (by omega)
          have h723 : N3.1 0 72 = 1 := by rw [f23.e0 (by decide)]; exact h72
          have := ih (L + 1) (lsU L ls q) N3 (by omega) (fN.tr (f23.up (by decide) (by decide))) (Or.inr ⟨h723, (H1.2.mv f23 (by decide)), fun s hs hst => by rw [f23.e1 (by decide) (by decide)]; exact hg s hs hst⟩) hj3 (fun _ => Or.inl s76) (fun _ g => by rw [f23.e0 (by decide), f23.e0 (by decide)]; exact v1 h72 g) (fun _ g => by rw [f23.e0 (by decide), f23.e0 (by decide)]; exact v2 h72 g) (fun _ => h723)
          rw [e40] at this
          exact this
      have := d_l51 (k17 := f_X10_learn_17 n) (x2 := i3 L0) H1 hg hjN hrx hs hd (by omega) tail FU 0 (by omega) (by rw [FU_s]; omega)
      by_cases hd0 : 0 < d
      · rw [if_pos hd0] at this
        exact this
      · rw [if_neg hd0, show d - 1 = 0 by omega] at this
        exact this
/-! ===== DRILLS ===== -/
theorem u_i3 (u : UInt32) : u.toInt32 = i3 (u.toNat : Int) := by
  apply Int32.toBitVec_inj.1
  show u.toBitVec = BitVec.ofInt 32 (u.toNat : Int)
  apply BitVec.eq_of_toNat_eq
  simp
theorem ushr1 (x : Int32) : ∃ k : Nat, k < 2147483648 ∧ (x.toUInt32 >>> ((1 : Int32).toUInt32 &&& Int32.toUInt32 31)).toInt32 = i3 (k : Int) := by
  refine ⟨(x.toUInt32 >>> ((1 : Int32).toUInt32 &&& Int32.toUInt32 31)).toNat, ?_, u_i3 _⟩
  have e : ((1 : Int32).toUInt32 &&& Int32.toUInt32 31) = 1 := by decide
  rw [e, UInt32.toNat_shiftRight]
  have := x.toUInt32.toNat_lt
  have h2 : (1 : UInt32).toNat % 32 = 1 := by decide
  rw [h2, Nat.shiftRight_eq_div_pow]
  omega
def mxR (h w : Int32) : Int32 := (((h ^^^ w) * (1103515245 : Int32)) + (12345 : Int32)) ^^^ (((((h ^^^ w) * (1103515245 : Int32)) + (12345 : Int32)).toUInt32 >>> ((15 : Int32).toUInt32 &&& Int32.toUInt32 31)).toInt32)
noncomputable def hxR (sd w : Int32) : Nat := Classical.choose (ushr1 (mxR (mxR sd 3) w))
theorem hx_e (sd w : Int32) : hxR sd w < 2147483648 ∧ ((mxR (mxR sd 3) w).toUInt32 >>> ((1 : Int32).toUInt32 &&& Int32.toUInt32 31)).toInt32 = i3 (hxR sd w : Int) := Classical.choose_spec (ushr1 (mxR (mxR sd 3) w))
theorem k_lot {sd w : Int32} {n : Nat} {M : gM} (h1 : 1 ≤ n) (h2 : n < 1000) : f_X3_lot (i3 n) sd w M = some (i3 ((hxR sd w % n : Nat) : Int), M) := by
  obtain ⟨e1, e2⟩ := hx_e sd w
  rw [f_X3_lot, f_X3_stir, g_v, g_b_some, f_X3_stir, g_v, g_b_some]
  show g_v ((mxR (mxR sd 3) w).toUInt32 >>> ((1 : Int32).toUInt32 &&& Int32.toUInt32 31)).toInt32 _ = _
  rw [e2, g_v]
  simp (disch := omega) only [iL0, i3_le]
  rw [if_neg (by omega), nz_ok (i3_nz (by omega) (by omega)), i3_modn e1 (by omega)]
theorem d_lot {sd w : Int32} {n : Nat} {M : gM} (h1 : 1 ≤ n) (h2 : n < 1000) : f_X10_lot sd w (i3 n) M = some (i3 ((hxR sd w % n : Nat) : Int), M) := by
  obtain ⟨e1, e2⟩ := hx_e sd w
  rw [f_X10_lot, f_X10_mixed, g_v, g_b_some, f_X10_mixed, g_v, g_b_some]
  show g_nz (i3 (n : Int)) (some ((((mxR (mxR sd 3) w).toUInt32 >>> ((1 : Int32).toUInt32 &&& Int32.toUInt32 31)).toInt32) - ((mxR (mxR sd 3) w).toUInt32 >>> ((1 : Int32).toUInt32 &&& Int32.toUInt32 31)).toInt32 / i3 n * i3 n, M)) = _
  rw [e2, nz_ok (i3_nz (by omega) (by omega)), i3_modn e1 (by omega)]
/-- where a DRILL stands after b BEATS -/
noncomputable def dlX (R : tR) (p : Int) (X : Nat → Int) (sd : Int32) (s0 : Nat) : Nat → Int
  | 0 => s0
  | b + 1 => @ite _ (dlX R p X sd s0 b < 0 ∨ ovP R (dlX R p X sd s0 b).toNat) (Classical.propDecidable _) (dlX R p X sd s0 b) (drX R p X (dlX R p X sd s0 b).toNat (loR R p (dlX R p X sd s0 b).toNat + ((hxR sd (i3 b) % (hiR R p (dlX R p X sd s0 b).toNat - loR R p (dlX R p X sd s0 b).toNat + 1).toNat : Nat) : Int)))
theorem dl_x {R : tR} (hR : tOk R) {p : Int} {X : Nat → Int} {sd : Int32} {s0 : Nat} (hs : stP R s0) : ∀ b, dlX R p X sd s0 b = -2 ∨ ∃ q : Nat, dlX R p X sd s0 b = q ∧ stP R q := by
  intro b
  induction b with
  | zero => exact Or.inr ⟨s0, rfl, hs⟩
  | succ b ih =>
    rw [dlX]
    split
    · exact ih
    · rcases dr_q hR p X (dlX R p X sd s0 b).toNat (loR R p (dlX R p X sd s0 b).toNat + ((hxR sd (i3 b) % (hiR R p (dlX R p X sd s0 b).toNat - loR R p (dlX R p X sd s0 b).toNat + 1).toNat : Nat) : Int)) with e | ⟨q, e, -, e3⟩
      · exact Or.inl e
      · exact Or.inr ⟨q, e, e3⟩
theorem dl_end {R : tR} {p : Int} {X : Nat → Int} {sd : Int32} {s0 b : Nat} (h : dlX R p X sd s0 b < 0 ∨ ovP R (dlX R p X sd s0 b).toNat) : ∀ n, b ≤ n → dlX R p X sd s0 n = dlX R p X sd s0 b := by
  intro n hn
  induction n with
  | zero => rw [Nat.le_zero.1 hn]
  | succ n ih =>
    by_cases hb : b = n + 1
    · rw [hb]
    · have e := ih (by omega)
      rw [dlX, e, if_pos h]
theorem k_drill {R : tR} {p : Int} {t st L s0 nn : Nat} {ls : Nat → Nat} {sd : Int32} {M : gM} (hC : CB R p t st M) (hL : lnL R p L ls) (h49 : ∀ s : Nat, s < 2079 → M.1 49 s = i3 (@ite _ (lnP L ls s) (Classical.propDecidable _) (keR R p s + 1) 0)) (hs : stP R s0) (hn : nn ≤ 60) : wp (f_X3_drillEnd (i3 s0) sd (i3 nn) M) (fun r N => r = i3 (dlX R p (rxX R p L ls) sd s0 nn) ∧ CB R p t st N ∧ Fr cBt M N) := by
  have hR := hC.1.1
  have hX := rx_XP hR hL
  rw [f_X3_drillEnd]
  have key : ∀ (m b : Nat) (N : gM), b ≤ nn → nn < m + b → CB R p t st N → Fr cBt M N → wp (f_X3_drillEnd_6 m sd (i3 nn) (i3 (dlX R p (rxX R p L ls) sd s0 b)) (i3 b) N) (fun r N => r = i3 (dlX R p (rxX R p L ls) sd s0 nn) ∧ CB R p t st N ∧ Fr cBt M N) := by
    intro m
    induction m with
    | zero => intro b N h1 h2; omega
    | succ m ih =>
      intro b N h1 h2 hCN fN
      rw [f_X3_drillEnd_6]
      simp (disch := omega) only [i3_le]
      refine wp_if (fun hx => ?_) (fun hx => ?_)
      · have : b = nn := by omega
        subst this
        rw [wp_some]
        exact ⟨rfl, hCN, fN⟩
      · rcases dl_x hR (p := p) (X := rxX R p L ls) (sd := sd) hs b with e | ⟨q, e, hq⟩
        · rw [e, if_pos (show i3 (-2) < 0 by decide), wp_some, dl_end (b := b) (Or.inl (by omega)) nn h1, e]
          exact ⟨rfl, hCN, fN⟩
        · have hlt := st_lt hq
          have hlh := lh_r (p := p) (s := q) hR
          rw [e]
          simp (disch := omega) only [iL0, i3_lt]
          rw [if_neg (by omega), k_or hCN, k_over hCN hlt, g_b_some, b_if]
          refine wp_if (fun ho => ?_) (fun ho => ?_)
          · rw [wp_some, dl_end (b := b) (Or.inr (by rw [e, Int.toNat_natCast]; exact ho)) nn h1, e]
            exact ⟨rfl, hCN, fN⟩
          · refine wp_b _ (c_least hlt hCN) (fun r N1 hN => ?_)
            obtain ⟨rfl, hC1, f1⟩ := hN
            refine wp_b _ (c_great hlt hC1) (fun r N2 hN => ?_)
            obtain ⟨rfl, hC2, f2⟩ := hN
            obtain ⟨w, hw⟩ : ∃ w : Nat, (w : Int) = hiR R p q - loR R p q + 1 := ⟨(hiR R p q - loR R p q + 1).toNat, by omega⟩
            have hml : hxR sd (i3 b) % w < w := Nat.mod_lt _ (by omega)
            rw [i3_sub, iL1, i3_add, ← hw, k_lot (by omega) (by omega), g_b_some, i3_add, wp_v]
            refine wp_b _ (k_actIn hC2 hL (fun s hs => by rw [f2.e1 (by decide), f1.e1 (by decide), fN.e1 (by decide)]; exact h49 s hs) hlt) (fun r N3 hN => ?_)
            obtain ⟨rfl, hC3, f3⟩ := hN
            refine wp_b _ (k_behind hC3 hlt (hX _ hq) (by omega)) (fun r N4 hN => ?_)
            obtain ⟨rfl, hC4, f4⟩ := hN
            have en : dlX R p (rxX R p L ls) sd s0 (b + 1) = drX R p (rxX R p L ls) q (loR R p q + ((hxR sd (i3 b) % w : Nat) : Int)) := by
              rw [dlX, e, Int.toNat_natCast, if_neg (by rintro (h | h); omega; exact ho h), show (hiR R p q - loR R p q + 1).toNat = w by omega]
            rw [← en, show i3 (b : Int) + i3 1 = i3 ((b + 1 : Nat) : Int) from i3_sn b]
            exact ih (b + 1) N4 (by omega) (by omega) hC4 ((((fN.tr f1).tr f2).tr f3).tr f4)
  exact key FU 0 M (by omega) (by rw [FU_s]; omega) hC Fr.rf
noncomputable def deR (R : tR) (p : Int) (X : Nat → Int) (sd : Int32) (s0 nn : Nat) : Int := @ite _ (dlX R p X sd s0 nn = -2) (Classical.propDecidable _) 0 (@ite _ (ovP R (dlX R p X sd s0 nn).toNat) (Classical.propDecidable _) 1 2)
theorem d_drill {R : tR} {p : Int} {h s0 nn : Nat} {X : Nat → Int} {sd : Int32} {M : gM} (H : D2 R p h M) (hX : XP R p X) (hr : rfI R X M) (hs : stP R s0) (hn : nn ≤ 60) : f_X10_drilled (i3 s0) sd (i3 nn) M = some (i3 (deR R p X sd s0 nn), M) := by
  have hR := H.1.1
  rw [f_X10_drilled]
  have fin : ∀ q : Nat, dlX R p X sd s0 nn = q → stP R q → f_X10_drilled_75 (i3 q) M = some (i3 (deR R p X sd s0 nn), M) := by
    intro q e hq
    rw [f_X10_drilled_75, d_over H.1 (st_lt hq), g_b_some, b_if]
    unfold deR
    rw [e, if_neg (show ¬ (q : Int) = -2 by omega), Int.toNat_natCast]
    by_cases ho : ovP R q
    · rw [if_pos ho, if_pos ho]; rfl
    · rw [if_neg ho, if_neg ho]; rfl
  have key : ∀ (m b q : Nat), b ≤ nn → nn < m + b → dlX R p X sd s0 b = q → stP R q → f_X10_drilled_6 m sd (i3 nn) (i3 q) (i3 b) M = some (i3 (deR R p X sd s0 nn), M) := by
    intro m
    induction m with
    | zero => intro b q h1 h2; omega
    | succ m ih =>
      intro b q h1 h2 e hq
      have hlt := st_lt hq
      have hlh := lh_r (p := p) (s := q) hR
      rw [f_X10_drilled_6]
      simp (disch := omega) only [i3_le]
      by_cases hx : (nn : Int) ≤ b
      · have : b = nn := by omega
        subst this
        rw [if_pos hx]
        exact fin q e hq
      · rw [if_neg hx, d_over H.1 hlt, g_b_some, b_if]
        by_cases ho : ovP R q
        · rw [if_pos ho]
          exact fin q (by rw [dl_end (b := b) (Or.inr (by rw [e, Int.toNat_natCast]; exact ho)) nn h1, e]) hq
        · obtain ⟨w, hw⟩ : ∃ w : Nat, (w : Int) = hiR R p q - loR R p q + 1 := ⟨(hiR R p q - loR R p q + 1).toNat, by omega⟩
          have hml : hxR sd (i3 b) % w < w := Nat.mod_lt _ (by omega)
          rw [if_neg ho]
          simp (disch := omega) only [ck_ok, i3_tn, Int.toNat_natCast, d_lo H hq, d_hi H hq]
          rw [i3_sub, iL1, i3_add, ← hw, d_lot (by omega) (by omega), g_b_some, i3_add, d_driven H hX hr hq (by omega), g_b_some]
          have en : dlX R p X sd s0 (b + 1) = drX R p X q (loR R p q + ((hxR sd (i3 b) % w : Nat) : Int)) := by
            rw [dlX, e, Int.toNat_natCast, if_neg (by rintro (h | h); omega; exact ho h), show (hiR R p q - loR R p q + 1).toNat = w by omega]
          rw [← en]
          rcases dl_x hR (p := p) (X := X) (sd := sd) hs (b + 1) with e2 | ⟨u, e2, hu⟩
          · rw [e2, if_pos (show i3 (-2) = ((-2) : Int32) from rfl)]
            unfold deR
            rw [dl_end (b := b + 1) (Or.inl (by omega)) nn (by omega), if_pos e2]
            rfl
          · have hult := st_lt hu
            rw [e2]
            simp (disch := omega) only [i3_m2, i3_eq]
            rw [if_neg (by omega), i3_add]
            exact ih (b + 1) u (by omega) (by omega) e2 hu
  exact key FU 0 s0 (by omega) (by rw [FU_s]; omega) rfl hs
