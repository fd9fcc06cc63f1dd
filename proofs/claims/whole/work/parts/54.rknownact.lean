/-! ===== the reference's ACT of a KNOWN row ===== -/
theorem d_ka57 {R : tR} {p : Int} {h F e b s s0 : Nat} {fc : Nat → Int} {k36 : Int32 → Int32 → Int32 → Int32 → gM → Option (Int32 × gM)} {Q : Int32 → gM → Prop} {M : gM} {x2 : Int32} (H : D2 R p h M) (hF : fcJ fc F M) (he : e ≤ F) (hb : b < e) (hs : stP R s) (hd : duI R p fc s0 e 0 M) (hu : usR R p fc s0 e (e - b) s)
    (hk : ∀ (a q : Nat), kaR R p fc s0 e b s = a → nxR R p s a (fc b) = (q : Int) → wp (k36 x2 (i3 q) (i3 a) (i3 ((b + 1 : Nat) : Int)) M) Q) : ∀ (n c : Nat) (ac tt : Int), c ≤ rNa R → c < n → ((∃ d q : Nat, c ≤ d ∧ d < 6 ∧ caP R p s d ∧ okP R p (usR R p fc s0 e (e - (b + 1))) s d (fc b) ∧ (∀ u : Nat, c ≤ u → u < d → ¬ (caP R p s u ∧ okP R p (usR R p fc s0 e (e - (b + 1))) s u (fc b))) ∧ ac = d ∧ nxR R p s d (fc b) = (q : Int) ∧ tt = q) ∨ ∀ u : Nat, c ≤ u → ¬ (caP R p s u ∧ okP R p (usR R p fc s0 e (e - (b + 1))) s u (fc b))) →
    wp (f_X10_knownAct_57 k36 n x2 (i3 s) (i3 ac) (i3 b) (i3 tt) (i3 ((c : Int) - 1)) M) Q := by
  have hR := H.1.1
  have hna := hR.2.1
  have hF1 := hF.1
  have hs2 := st_lt hs
  intro n
  induction n with
  | zero => intro c ac tt h1 h2; omega
  | succ n ih =>
    intro c ac tt h1 h2 hI
    rw [f_X10_knownAct_57]
    simp (disch := omega) only [iL0, i3_lt]
    cases c with
    | zero =>
      rw [if_pos (by omega), i3_sn]
      rcases hI with ⟨d, q, g1, g2, g3, g4, g5, rfl, g7, rfl⟩ | hI
      · exact hk d q (leA_e g2 ⟨g3, g4⟩ (fun u hu => g5 u (Nat.zero_le _) hu)) g7
      · obtain ⟨a, v1, v2, v3, v4⟩ := ka_x hR hb hu
        exact absurd ⟨v3, v4⟩ (hI a (Nat.zero_le _))
    | succ c =>
      have ec : ((c + 1 : Nat) : Int) - 1 = c := by omega
      have e1 : (6 * (s : Int) + c).toNat = 6 * s + c := by omega
      have hfc := hF.2.2 b (by omega)
      have ecm : (c : Int) + -1 = (c : Int) - 1 := by omega
      rw [ec, if_neg (by omega)]
      simp (disch := omega) only [iL6, i3_mul, i3_add, ck_ok, i3_tn, e1, d_can H hs (show c < rNa R by omega), b2i_0, b2i_i0, b_ifn, Int.toNat_natCast, hfc.1]
      have keep : ¬ (caP R p s c ∧ okP R p (usR R p fc s0 e (e - (b + 1))) s c (fc b)) → wp (f_X10_knownAct_57 k36 n x2 (i3 s) (i3 ac) (i3 b) (i3 tt) (i3 ((c : Int) - 1)) M) Q := by
        intro hno
        refine ih c ac tt (by omega) (by omega) ?_
        rcases hI with ⟨d, q, g1, g2, g3, g4, g5, g6⟩ | hI
        · refine Or.inl ⟨d, q, by omega, g2, g3, g4, fun u hu1 hu2 => ?_, g6⟩
          by_cases huc : u = c
          · subst huc; exact hno
          · exact g5 u (by omega) hu2
        · refine Or.inr (fun u hu => ?_)
          by_cases huc : u = c
          · subst huc; exact hno
          · exact hI u (by omega)
      refine wp_if (fun hc => ?_) (fun hc => ?_)
      · rw [f_X10_knownAct_98, if_pos (show ((-2) : Int32) = -2 from rfl), i3_m1, i3_add, ecm]
        exact keep (fun h => hc h.1)
      · have hc : caP R p s c := Classical.not_not.1 hc
        rw [d_leads H hs hc hfc.2, g_b_some, f_X10_knownAct_98]
        rw [show i3 (c : Int) + -1 = i3 ((c : Int) - 1) by rw [i3_m1, i3_add, ecm]]
        rcases nx_q hR p s c (fc b) with hq | ⟨q, hq, hq2, hq3⟩
        · rw [hq, if_pos (show i3 (-2) = ((-2) : Int32) from rfl)]
          exact keep (fun h => ok_f hq h.2)
        · have e3 : (2079 * (b : Int) + 2079 + q).toNat = 2079 * b + 2079 + q := by omega
          have e60 : M.1 60 (2079 * b + 2079 + q) = b2i (b_ (usR R p fc s0 e (e - (b + 1)) q)) := by
            rw [show 2079 * b + 2079 + q = 2079 * (b + 1) + q by omega]
            exact hd.1 (b + 1) (Nat.zero_le _) (by omega) q hq2
          rw [hq]
          simp (disch := omega) only [i3_m2, i3_eq]
          rw [if_neg (by omega)]
          simp (disch := omega) only [iL2079, i3_mul, i3_add, ck_ok, i3_tn, e3, e60, b2i_0, b_ifn]
          refine wp_if (fun hy => ?_) (fun hy => ?_)
          · exact keep (fun h => hy ((ok_t hq).1 h.2))
          · have hy : usR R p fc s0 e (e - (b + 1)) q := Classical.not_not.1 hy
            exact ih c c q (by omega) (by omega) (Or.inl ⟨c, q, Nat.le_refl _, by omega, hc, (ok_t hq).2 hy, fun u h1 h2 => by omega, rfl, hq, rfl⟩)
theorem d_ka36 {R : tR} {p : Int} {h F e i s0 : Nat} {fc : Nat → Int} {M : gM} (H : D2 R p h M) (hF : fcJ fc F M) (he : e ≤ F) (hi : i < e) (h0 : stP R s0) (hd : duI R p fc s0 e 0 M) (hu : usR R p fc s0 e e s0) : ∀ (n b : Nat) (ac : Int32), b ≤ i + 1 → i + 1 < n + b → (b = i + 1 → ac = i3 (kaR R p fc s0 e i (paR R p fc s0 e i))) →
    wp (f_X10_knownAct_36 n (i3 i) (i3 (paR R p fc s0 e b)) ac (i3 b) M) (fun r N => r = i3 (kaR R p fc s0 e i (paR R p fc s0 e i)) ∧ N = M) := by
  have hR := H.1.1
  have hna := hR.2.1
  have hF1 := hF.1
  intro n
  induction n with
  | zero => intro b ac h1 h2; omega
  | succ n ih =>
    intro b ac h1 h2 hac
    rw [f_X10_knownAct_36]
    simp (disch := omega) only [i3_lt]
    refine wp_if (fun hx => ?_) (fun hx => ?_)
    · rw [wp_some]
      exact ⟨hac (by omega), rfl⟩
    · have hub := pa_us hR hu b (by omega)
      have hst := ky_st hR h0 _ _ (us_ky hub)
      rw [d_acts H.1, g_b_some, i3_m1, iL1, i3_sub, wp_v]
      refine d_ka57 H hF he (by omega) hst hd hub (fun a q ha hq => ?_) FU (rNa R) (-1) (paR R p fc s0 e b) (Nat.le_refl _) (by rw [FU_s]; omega) (Or.inr (fun u hu2 hq => by have := hq.1.1; omega))
      have hpa : paR R p fc s0 e (b + 1) = q := by
        rw [paR, ha, Int.toNat_natCast, hq, Int.toNat_natCast]
      have := ih (b + 1) (i3 a) (by omega) (by omega) (fun hbi => by
        have : b = i := by omega
        subst this
        rw [ha])
      rw [hpa] at this
      exact this
theorem ke_x {R : tR} {p : Int} {fc : Nat → Int} {F s0 : Nat} : keE R p fc F s0 = -2 ∨ ∃ e : Nat, e ≤ F ∧ keE R p fc F s0 = e ∧ ∃ q, kyR R p fc s0 e q ∧ ovP R q := by
  rcases leA_x (P := fun n => ∃ q, kyR R p fc s0 n q ∧ ovP R q) (n := F + 1) (-2) with ⟨e, h1, h2, h3, h4⟩ | ⟨h1, h2⟩
  · exact Or.inr ⟨e, by omega, h4, h2⟩
  · exact Or.inl h2
/-- the i-th ACT, or -1 -/
noncomputable def knA (R : tR) (p : Int) (fc : Nat → Int) (F s0 : Nat) (i : Int) : Int := @ite _ (0 ≤ i ∧ i < keE R p fc F s0) (Classical.propDecidable _) (kaR R p fc s0 (keE R p fc F s0).toNat i.toNat (paR R p fc s0 (keE R p fc F s0).toNat i.toNat)) (-1)
theorem k_plAct {R : tR} {p : Int} {fc : Nat → Int} {F s0 : Nat} {M : gM} (hF : F ≤ 24) (hP : plI R p fc F s0 M) {i : Int} (hi : -2147483648 ≤ i ∧ i < 2147483648) : f_X6_plannedAct (i3 i) M = some (i3 (knA R p fc F s0 i), M) := by
  obtain ⟨h3, h59⟩ := hP
  have hke : -2 ≤ keE R p fc F s0 ∧ keE R p fc F s0 ≤ 24 := by
    rcases ke_x (R := R) (p := p) (fc := fc) (F := F) (s0 := s0) with h | ⟨e, h1, h2, -⟩ <;> omega
  rw [f_X6_plannedAct, h3]
  simp (disch := omega) only [iL0, iL24, i3_lt, i3_le]
  unfold knA
  by_cases h1 : i < 0
  · rw [if_pos h1, if_neg (by omega)]
    rfl
  · rw [if_neg h1]
    by_cases h2 : keE R p fc F s0 ≤ i
    · rw [if_pos h2, if_neg (by omega)]
      rfl
    · obtain ⟨e, he⟩ : ∃ e : Nat, keE R p fc F s0 = e := ⟨(keE R p fc F s0).toNat, by omega⟩
      rw [if_neg h2, if_neg (by omega), if_pos (by omega), ck_ok (by omega) (by omega) (by omega), i3_tn (by omega) (by omega), h59 e he i.toNat (by omega), he, Int.toNat_natCast]
theorem d_kAct {R : tR} {p : Int} {h F s0 : Nat} {fc : Nat → Int} {M : gM} (H : D2 R p h M) (hF : fcJ fc F M) (h0 : stP R s0) {i : Int} (hi : -2147483648 ≤ i ∧ i < 2147483648) (hd : ∀ e : Nat, keE R p fc F s0 = e → duI R p fc s0 e 0 M) : wp (if i3 i < 0 then (some (((-1) : Int32), M)) else (if i3 i < i3 (keE R p fc F s0) then (f_X10_knownAct_36 FU (i3 i) (i3 s0) ((-1) : Int32) (0 : Int32) M) else (some (((-1) : Int32), M)))) (fun r N => r = i3 (knA R p fc F s0 i) ∧ N = M) := by
  have hR := H.1.1
  have hF1 := hF.1
  have hke : -2 ≤ keE R p fc F s0 ∧ keE R p fc F s0 ≤ 24 := by
    rcases ke_x (R := R) (p := p) (fc := fc) (F := F) (s0 := s0) with h | ⟨e, h1, h2, -⟩ <;> omega
  simp (disch := omega) only [iL0, i3_lt]
  unfold knA
  refine wp_if (fun h1 => ?_) (fun h1 => ?_)
  · rw [wp_some, if_neg (by omega)]
    exact ⟨rfl, rfl⟩
  · refine wp_if (fun h2 => ?_) (fun h2 => ?_)
    · rcases ke_x (R := R) (p := p) (fc := fc) (F := F) (s0 := s0) with g | ⟨e, g1, g2, g3⟩
      · omega
      · obtain ⟨j, rfl⟩ : ∃ j : Nat, i = j := ⟨i.toNat, by omega⟩
        rw [if_pos (by omega), g2, Int.toNat_natCast, Int.toNat_natCast]
        have hu := us_0 hR g3
        exact d_ka36 H hF g1 (by omega) h0 (hd e g2) hu FU 0 (-1) (by omega) (by rw [FU_s]; omega) (fun h => by omega)
    · rw [wp_some, if_neg (by omega)]
      exact ⟨rfl, rfl⟩
