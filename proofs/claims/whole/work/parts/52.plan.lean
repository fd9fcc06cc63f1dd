/-! ===== the class's plan ===== -/
/-- from where one is OVER in time, as far as it is known: from BEAT b on -/
def gdI (R : tR) (p : Int) (fc : Nat → Int) (s0 e b : Nat) (N : gM) : Prop := ∀ q : Nat, q < 2079 → (∀ j : Nat, b ≤ j → j < e → bt (N.1 61 q) j = b_ (usR R p fc s0 e (e - j) q)) ∧ ∀ j : Nat, j < b → bt (N.1 61 q) j = false
theorem k_good {R : tR} {p : Int} {t st F T s s0 e : Nat} {fc : Nat → Int} {M : gM} (hC : CB R p t st M) (hF : fcI fc F M) (hs : s < 2079) (he : e ≤ F) (hT : T < e) (h57 : M.1 57 3 = i3 e) (hG : ∀ q : Nat, q < 2079 → ∀ j : Nat, T + 1 ≤ j → j < e → bt (M.1 61 q) j = b_ (usR R p fc s0 e (e - j) q)) (hky : kyR R p fc s0 T s) : wp (f_X6_goodAct (i3 s) (i3 T) M) (fun r N => r = i3 (kaR R p fc s0 e T s) ∧ CB R p t st N ∧ Fr cBt M N) := by
  have hR := hC.1.1
  obtain ⟨hF1, hF2, hF3⟩ := hF
  rw [f_X6_goodAct]
  refine wp_b _ (c_mask hs hC) (fun m N1 hN => ?_)
  obtain ⟨hm, hC1, f1⟩ := hN
  have hfc := (hF3 T (by omega)).2
  have key : ∀ (n a : Nat) (N : gM), a ≤ 6 → 6 < n + a → CB R p t st N → Fr cBt M N → (∀ b : Nat, b < a → ¬ (caP R p s b ∧ okP R p (usR R p fc s0 e (e - (T + 1))) s b (fc T))) → wp (f_X6_goodAct_12 n (i3 s) (i3 T) m (i3 a) N) (fun r N => r = i3 (kaR R p fc s0 e T s) ∧ CB R p t st N ∧ Fr cBt M N) := by
    intro n
    induction n with
    | zero => intro a N h1 h2; omega
    | succ n ih =>
      intro a N h1 h2 g1 g2 hno
      have nx : ¬ (caP R p s a ∧ okP R p (usR R p fc s0 e (e - (T + 1))) s a (fc T)) → a < 6 → ∀ N2, CB R p t st N2 → Fr cBt M N2 → wp (f_X6_goodAct_12 n (i3 s) (i3 T) m (i3 ((a + 1 : Nat) : Int)) N2) (fun r N => r = i3 (kaR R p fc s0 e T s) ∧ CB R p t st N ∧ Fr cBt M N) := by
        intro hn ha N2 u1 u2
        refine ih (a + 1) N2 (by omega) (by omega) u1 u2 (fun b hb hq => ?_)
        by_cases hba : b = a
        · subst hba; exact hn hq
        · exact hno b (by omega) hq
      rw [f_X6_goodAct_12]
      simp (disch := omega) only [iL6, i3_le]
      refine wp_if (fun hx => ?_) (fun hx => ?_)
      · rw [wp_some]
        refine ⟨?_, g1, g2⟩
        unfold kaR
        rw [leA_d (fun b hb hq => hno b (by omega) hq)]
        rfl
      · simp (disch := omega) only [bt_i, hm a (by omega)]
        rw [b_if]
        refine wp_if (fun hc => ?_) (fun hc => ?_)
        · rw [ck_ok (by omega) (by omega) (by omega), tn_n (by omega), g2.e1 (by decide), (hF3 T (by omega)).1]
          refine wp_b _ (c_after hs hc.1 hfc g1) (fun r N2 hN => ?_)
          obtain ⟨rfl, u1, u2⟩ := hN
          have u3 := g2.tr u2
          rw [f_X6_goodAct_49]
          rw [show i3 (a : Int) + 1 = i3 ((a + 1 : Nat) : Int) from i3_sn a]
          have yes : okP R p (usR R p fc s0 e (e - (T + 1))) s a (fc T) → wp (some (i3 (a : Int), N2)) (fun r N => r = i3 (kaR R p fc s0 e T s) ∧ CB R p t st N ∧ Fr cBt M N) := by
            intro hok
            rw [wp_some]
            refine ⟨?_, u1, u3⟩
            unfold kaR
            rw [leA_e (by omega) ⟨hc, hok⟩ hno]
          rcases nx_q hR p s a (fc T) with hq | ⟨q, hq, hq2, hq3⟩
          · rw [hq, if_pos (show i3 (-2) < 0 by decide)]
            exact nx (fun h => ok_f hq h.2) (by omega) N2 u1 u3
          · have hkq : kyR R p fc s0 (T + 1) q := ⟨s, a, hky, hc, hq⟩
            rw [hq]
            simp (disch := omega) only [iL0, i3_lt]
            rw [if_neg (by omega), u3.e1 (by decide), h57]
            simp (disch := omega) only [iL1, i3_add, i3_eq]
            refine wp_if (fun hx2 => ?_) (fun hx2 => ?_)
            · have eT : e - (T + 1) = 0 := by omega
              have ee : e = T + 1 := by omega
              rw [k_or u1, k_over u1 hq2, g_b_some, b_if]
              refine wp_if (fun ho => ?_) (fun ho => ?_)
              · refine yes ((ok_t hq).2 ?_)
                rw [eT]
                exact ⟨by rw [ee]; exact hkq, ho⟩
              · refine nx (fun h => ?_) (by omega) N2 u1 u3
                have := (ok_t hq).1 h.2
                rw [eT] at this
                exact ho this.2
            · have hbit : bt (M.1 61 q) (T + 1) = b_ (usR R p fc s0 e (e - (T + 1)) q) := hG q hq2 (T + 1) (Nat.le_refl _) (by omega)
              have hb2 := bt_i (m := M.1 61 q) (a := T + 1) (by omega)
              rw [ck_ok (by omega) (by omega) (by omega), tn_n (by omega), u3.e1 (by decide)]
              have hb3 : ((M.1 61 q >>> (i3 ((T : Int) + 1) &&& 31) &&& i3 1) = i3 1) = (bt (M.1 61 q) (T + 1) = true) := hb2
              simp only [hb3, hbit]
              rw [b_if]
              refine wp_if (fun hu => ?_) (fun hu => ?_)
              · exact yes ((ok_t hq).2 hu)
              · exact nx (fun h => hu ((ok_t hq).1 h.2)) (by omega) N2 u1 u3
        · rw [f_X6_goodAct_49, if_pos (show ((-1) : Int32) < 0 by decide)]
          rw [show i3 (a : Int) + 1 = i3 ((a + 1 : Nat) : Int) from i3_sn a]
          exact nx (fun h => hc h.1) (by omega) N g1 g2
  exact key FU 0 N1 (by omega) (by rw [FU_s]; omega) hC1 f1 (fun b hb => by omega)
abbrev cKn : List Nat := cBt ++ [57, 59, 60, 61]
/-- the plan as it is kept -/
def plI (R : tR) (p : Int) (fc : Nat → Int) (F s0 : Nat) (N : gM) : Prop := N.1 57 3 = i3 (keE R p fc F s0) ∧ ∀ e : Nat, keE R p fc F s0 = e → ∀ b : Nat, b < e → N.1 59 b = i3 (kaR R p fc s0 e b (paR R p fc s0 e b))
theorem k_p173 {R : tR} {p : Int} {t st F s0 e : Nat} {fc : Nat → Int} {M0 : gM} (hF : fcI fc F M0) (he : e ≤ F) (hu : usR R p fc s0 e e s0) (h0 : stP R s0) : ∀ (n b : Nat) (M : gM), b ≤ e → e < n + b → CB R p t st M → Fr (cBt ++ [59]) M0 M → M0.1 57 3 = i3 e → gdI R p fc s0 e 0 M0 → (∀ j : Nat, j < b → M.1 59 j = i3 (kaR R p fc s0 e j (paR R p fc s0 e j))) →
    wp (f_X6_plan_173 n (i3 (paR R p fc s0 e b)) (i3 b) M) (fun _ N => CB R p t st N ∧ Fr (cBt ++ [59]) M0 N ∧ ∀ j : Nat, j < e → N.1 59 j = i3 (kaR R p fc s0 e j (paR R p fc s0 e j))) := by
  intro n
  induction n with
  | zero => intro b M h1 h2; omega
  | succ n ih =>
    intro b M h1 h2 hC fr h57 hG hj
    have hR := hC.1.1
    have hF1 := hF.1
    rw [f_X6_plan_173, fr.e1 (by decide), h57]
    have hub := pa_us hR hu b h1
    have hst := ky_st hR h0 _ _ (us_ky hub)
    have hlt := st_lt hst
    simp (disch := omega) only [iL24, iL0, i3_le, i3_lt]
    refine wp_if (fun hx => ?_) (fun hx => ?_)
    · have : b = e := by omega
      subst this
      rw [wp_some]
      exact ⟨hC, fr, hj⟩
    · rw [if_neg (by omega), if_neg (by omega)]
      have hky : kyR R p fc s0 b (paR R p fc s0 e b) := by
        have := us_ky hub
        rw [show e - (e - b) = b by omega] at this
        exact this
      have hF2 : fcI fc F M := ⟨hF.1, by rw [fr.e1 (by decide)]; exact hF.2.1, fun j hj => by rw [fr.e1 (by decide)]; exact hF.2.2 j hj⟩
      refine wp_b _ (k_good hC hF2 hlt he (by omega) (by rw [fr.e1 (by decide), h57]) (fun q hq j h1 h2 => by rw [fr.e1 (by decide)]; exact (hG q hq).1 j (Nat.zero_le _) h2) hky) (fun r N hN => ?_)
      obtain ⟨rfl, g1, g2⟩ := hN
      obtain ⟨a, v1, v2, v3, v4⟩ := ka_x hR (by omega) hub
      rw [v2]
      rw [ck_ok (by omega) (by omega) (by omega), wp_m, tn_n (by omega)]
      have fQ : Fr (cBt ++ [59]) M0 (sI N 59 b (i3 a)) := (fr.tr (g2.up (by decide))).i (by decide)
      have hCQ : CB R p t st (sI N 59 b (i3 a)) := g1.mv (S := [59]) (Fr.rf.i (by decide)) (by decide)
      have q59 : (sI N 59 b (i3 a)).1 59 = upd (M.1 59) b (i3 a) := by rw [rI_e, g2.e1 (by decide)]
      generalize sI N 59 b (i3 a) = N2 at fQ hCQ q59 ⊢
      simp (disch := omega) only [iL0, i3_le]
      rw [if_pos (by omega), ck_ok (by omega) (by omega) (by omega), fQ.e1 (by decide), (hF.2.2 b (by omega)).1]
      refine wp_b _ (c_after hlt v3.1 (hF.2.2 b (by omega)).2 hCQ) (fun r N3 hN => ?_)
      obtain ⟨rfl, u1, u2⟩ := hN
      have hpa : nxR R p (paR R p fc s0 e b) a (fc b) = (paR R p fc s0 e (b + 1) : Nat) := by
        rw [paR, v2, Int.toNat_natCast, Int.toNat_of_nonneg v4.1]
      rw [hpa, i3_sn]
      refine ih (b + 1) N3 (by omega) (by omega) u1 (fQ.tr (u2.up (by decide))) h57 hG (fun j hj2 => ?_)
      rw [u2.e1 (by decide), q59]
      by_cases hjb : j = b
      · subst hjb
        rw [up_e, v2]
      · rw [up_n hjb]
        exact hj j (by omega)
theorem k_p114 {R : tR} {p : Int} {t st F s0 e b : Nat} {fc : Nat → Int} {k108 : Int32 → Int32 → gM → Option (Unit × gM)} {Q : Unit → gM → Prop} {M : gM} {x1 : Int32} (hC : CB R p t st M) (hF : fcI fc F M) (he : e ≤ F) (hb : b < e) (h0 : stP R s0) (h57 : M.1 57 3 = i3 e) (hh : ∀ q : Nat, q < 2079 → bt (M.1 60 q) b = b_ (kyR R p fc s0 b q)) (hG : gdI R p fc s0 e (b + 1) M)
    (hk : ∀ N, CB R p t st N → Fr (cBt ++ [61]) M N → gdI R p fc s0 e b N → wp (k108 x1 (i3 ((b : Int) - 1)) N) Q) :
    wp (f_X6_plan_114 k108 FU x1 (i3 b) (i3 ((0 : Nat) : Int)) M) Q := by
  have hR := hC.1.1
  have hF1 := hF.1
  refine wp_lp (F := fun n x (_ : Unit) M => f_X6_plan_114 k108 n x1 (i3 b) (i3 x) M)
    (I := fun x _ N => CB R p t st N ∧ Fr (cBt ++ [61]) M N ∧ (∀ q : Nat, q < 2079 → ∀ j : Nat, j < 31 → j ≠ b → bt (N.1 61 q) j = bt (M.1 61 q) j) ∧ (∀ q : Nat, q < x → bt (N.1 61 q) b = b_ (usR R p fc s0 e (e - b) q)) ∧ ∀ q : Nat, x ≤ q → N.1 61 q = M.1 61 q) 2079 ?_ ?_ FU 0 () M (by omega) (by rw [FU_s]; omega) ⟨hC, Fr.rf, fun q _ j _ _ => rfl, fun q hq => by omega, fun _ _ => rfl⟩
  · intro n x _ N hx hI hk2
    obtain ⟨i1, fr, i2, i4, i5⟩ := hI
    have hF2 : fcI fc F N := ⟨hF.1, by rw [fr.e1 (by decide)]; exact hF.2.1, fun j hj => by rw [fr.e1 (by decide)]; exact hF.2.2 j hj⟩
    have hbit : bt (N.1 60 x) b = b_ (kyR R p fc s0 b x) := by rw [fr.e1 (by decide)]; exact hh x hx
    have old : bt (M.1 61 x) b = false := (hG x hx).2 b (by omega)
    rw [f_X6_plan_114]
    rw [show i3 (x : Int) + 1 = i3 ((x + 1 : Nat) : Int) from i3_sn x]
    simp (disch := omega) only [iL2079, i3_le, ck_ok, i3_tn, Int.toNat_natCast, bt_i, hbit]
    rw [if_neg (by omega), b_if]
    have skip : ¬ usR R p fc s0 e (e - b) x → ∀ N2, CB R p t st N2 → Fr cBt N N2 → wp (f_X6_plan_114 k108 n x1 (i3 b) (i3 ((x + 1 : Nat) : Int)) N2) Q := by
      intro hno N2 g1 g2
      refine hk2 () N2 ⟨g1, fr.tr (g2.up (by decide)), fun q hq j hj hjb => by rw [g2.e1 (by decide)]; exact i2 q hq j hj hjb, fun q hq => ?_, fun q hq => by rw [g2.e1 (by decide)]; exact i5 q (by omega)⟩
      rw [g2.e1 (by decide)]
      by_cases hqx : q = x
      · subst hqx
        rw [i5 q (Nat.le_refl _), old, b_f hno]
      · exact i4 q (by omega)
    refine wp_if (fun hy => ?_) (fun hy => ?_)
    · refine wp_b _ (k_good i1 hF2 hx he hb (by rw [fr.e1 (by decide), h57]) (fun q hq j h1 h2 => by rw [i2 q hq j (by omega) (by omega)]; exact (hG q hq).1 j h1 h2) hy) (fun r N2 hN => ?_)
      obtain ⟨rfl, g1, g2⟩ := hN
      by_cases hu : usR R p fc s0 e (e - b) x
      · obtain ⟨a, v1, v2, v3, v4⟩ := ka_x hR hb hu
        rw [v2]
        simp (disch := omega) only [i3_m1, i3_eq]
        rw [if_neg (by omega), wp_m]
        refine hk2 () _ ⟨g1.mv (S := [61]) (Fr.rf.i (by decide)) (by decide), (fr.tr (g2.up (by decide))).i (by decide), fun q hq j hj hjb => ?_, fun q hq => ?_, fun q hq => ?_⟩
        · rw [rI_e, g2.e1 (by decide)]
          by_cases hqx : q = x
          · subst hqx
            have ho := bt_or (m := N.1 61 q) (a := b) (b := j) (by omega) (by omega)
            rw [up_e]
            refine (show bt (N.1 61 q ||| (1 : Int32) <<< (i3 (b : Int) &&& 31)) j = _ from ho).trans ?_
            rw [i2 q hq j hj hjb]
            simp [Ne.symm hjb]
          · rw [up_n hqx]
            exact i2 q hq j hj hjb
        · rw [rI_e, g2.e1 (by decide)]
          by_cases hqx : q = x
          · subst hqx
            have ho := bt_or (m := N.1 61 q) (a := b) (b := b) (by omega) (by omega)
            rw [up_e]
            refine (show bt (N.1 61 q ||| (1 : Int32) <<< (i3 (b : Int) &&& 31)) b = _ from ho).trans ?_
            rw [b_t hu]
            simp
          · rw [up_n hqx]
            exact i4 q (by omega)
        · rw [rI_e, g2.e1 (by decide), up_n (by omega)]
          exact i5 q (by omega)
      · have : kaR R p fc s0 e b x = -1 := leA_d (fun a _ hq => hu ((us_b hb).2 ⟨hy, a, hq.1, hq.2⟩))
        rw [this, if_pos (show i3 (-1) = ((-1) : Int32) from rfl)]
        exact skip hu N2 g1 g2
    · exact skip (fun h => hy ((us_b hb).1 h).1) N i1 Fr.rf
  · intro n _ N hI
    obtain ⟨i1, fr, i2, i4, i5⟩ := hI
    rw [f_X6_plan_114]
    simp (disch := omega) only [iL2079, i3_le]
    rw [if_pos (by omega), i3_m1, i3_add]
    have e1 : (b : Int) + -1 = (b : Int) - 1 := by omega
    rw [e1]
    refine hk N i1 fr (fun q hq => ⟨fun j h1 h2 => ?_, fun j h1 => ?_⟩)
    · by_cases hjb : j = b
      · subst hjb
        exact i4 q hq
      · rw [i2 q hq j (by omega) hjb]
        exact (hG q hq).1 j (by omega) h2
    · rw [i2 q hq j (by omega) (by omega)]
      exact (hG q hq).2 j (by omega)
theorem k_p108 {R : tR} {p : Int} {t st F s0 e : Nat} {fc : Nat → Int} {M0 : gM} (hF : fcI fc F M0) (he : e ≤ F) (hu : usR R p fc s0 e e s0) (h0 : stP R s0) (h57 : M0.1 57 3 = i3 e) (hh : hdI R p fc s0 e M0) : ∀ (n b : Nat) (M : gM), b ≤ e → b < n → CB R p t st M → Fr (cBt ++ [61]) M0 M → gdI R p fc s0 e b M →
    wp (f_X6_plan_108 n (i3 s0) (i3 ((b : Int) - 1)) M) (fun _ N => CB R p t st N ∧ Fr (cBt ++ [59, 61]) M0 N ∧ ∀ j : Nat, j < e → N.1 59 j = i3 (kaR R p fc s0 e j (paR R p fc s0 e j))) := by
  intro n
  induction n with
  | zero => intro b M h1 h2; omega
  | succ n ih =>
    intro b M h1 h2 hC fr hG
    have hF1 := hF.1
    have hF2 : fcI fc F M := ⟨hF.1, by rw [fr.e1 (by decide)]; exact hF.2.1, fun j hj => by rw [fr.e1 (by decide)]; exact hF.2.2 j hj⟩
    rw [f_X6_plan_108]
    simp (disch := omega) only [iL0, i3_lt]
    cases b with
    | zero =>
      rw [if_pos (by omega)]
      refine wp_mono (k_p173 hF2 he hu h0 FU 0 M (by omega) (by rw [FU_s]; omega) hC Fr.rf (by rw [fr.e1 (by decide), h57]) hG (fun j hj => by omega)) (fun _ N hN => ⟨hN.1, (fr.up (by decide)).tr (hN.2.1.up (by decide)), hN.2.2⟩)
    | succ b =>
      rw [if_neg (by omega)]
      have eb : ((b + 1 : Nat) : Int) - 1 = b := by omega
      rw [eb]
      refine k_p114 hC hF2 he (by omega) h0 (by rw [fr.e1 (by decide), h57]) (fun q hq => by rw [fr.e1 (by decide)]; exact (hh q hq).1 b (by omega)) hG (fun N g1 g2 g3 => ?_)
      exact ih b N (by omega) (by omega) g1 (fr.tr g2) g3
theorem k_p63 {R : tR} {p : Int} {t st F s0 : Nat} {fc : Nat → Int} {M0 : gM} (hF : fcI fc F M0) (h0 : stP R s0) (h61 : ∀ (q j : Nat), q < 2079 → bt (M0.1 61 q) j = false) : ∀ (n T : Nat) (M : gM), T ≤ F → F + 1 < n + T → CB R p t st M → Fr (cBt ++ [57, 60]) M0 M → (∀ j, j ≠ 3 → M.1 57 j = M0.1 57 j) → hdI R p fc s0 T M →
    ((M.1 57 3 = i3 (-2) ∧ ∀ m : Nat, m ≤ T → ¬ ∃ q, kyR R p fc s0 m q ∧ ovP R q) ∨ (M.1 57 3 = i3 T ∧ keE R p fc F s0 = T ∧ ∃ q, kyR R p fc s0 T q ∧ ovP R q)) →
    wp (f_X6_plan_63 n (i3 s0) (i3 T) M) (fun _ N => CB R p t st N ∧ Fr cKn M0 N ∧ (∀ j, j ≠ 3 → N.1 57 j = M0.1 57 j) ∧ plI R p fc F s0 N) := by
  intro n
  induction n with
  | zero => intro T M h1 h2; omega
  | succ n ih =>
    intro T M h1 h2 hC fr h57 hh hcase
    have hR := hC.1.1
    have hF1 := hF.1
    have e57 : M.1 57 1 = i3 F := by rw [h57 1 (by decide)]; exact hF.2.1
    have hF2 : fcI fc F M := ⟨hF.1, e57, fun j hj => by rw [fr.e1 (by decide)]; exact hF.2.2 j hj⟩
    have hb61 : ∀ (q j : Nat), q < 2079 → bt (M.1 61 q) j = false := fun q j hq => by rw [fr.e1 (by decide)]; exact h61 q j hq
    -- what is done at the end
    have fin : ((M.1 57 3 = i3 (-2) ∧ T = F ∧ ∀ m : Nat, m ≤ T → ¬ ∃ q, kyR R p fc s0 m q ∧ ovP R q) ∨ (M.1 57 3 = i3 T ∧ keE R p fc F s0 = T ∧ ∃ q, kyR R p fc s0 T q ∧ ovP R q)) → wp (f_X6_plan_108 FU (i3 s0) (M.1 57 3 - 1) M) (fun _ N => CB R p t st N ∧ Fr cKn M0 N ∧ (∀ j, j ≠ 3 → N.1 57 j = M0.1 57 j) ∧ plI R p fc F s0 N) := by
      rintro (⟨g1, g2, g3⟩ | ⟨g1, g2, g3⟩)
      · have hke : keE R p fc F s0 = -2 := leA_d (fun m hm => g3 m (by omega))
        rw [g1, FU_s, f_X6_plan_108, if_pos (show i3 (-2) - 1 < 0 by decide), FU_s, f_X6_plan_173, g1, if_pos (show i3 (-2) ≤ 0 by decide), wp_some]
        refine ⟨hC, fr.up (by decide), h57, ?_, fun e he => ?_⟩
        · rw [g1, hke]
        · rw [hke] at he
          omega
      · have hu := us_0 hR g3
        rw [g1, iL1, i3_sub]
        refine wp_mono (k_p108 hF2 h1 hu h0 g1 hh FU T M (Nat.le_refl _) (by rw [FU_s]; omega) hC Fr.rf (fun q hq => ⟨fun j h1 h2 => by omega, fun j _ => hb61 q j hq⟩)) (fun _ N hN => ?_)
        obtain ⟨v1, v2, v3⟩ := hN
        refine ⟨v1, (fr.up (by decide)).tr (v2.up (by decide)), fun j hj => by rw [v2.e1 (by decide), h57 j hj], ?_, fun e he j hj => ?_⟩
        · rw [v2.e1 (by decide), g1, g2]
        · rw [g2] at he
          have : e = T := by omega
          subst this
          exact v3 j hj
    rw [f_X6_plan_63, e57]
    simp (disch := omega) only [i3_le]
    refine wp_if (fun hx => ?_) (fun hx => ?_)
    · rw [wp_v]
      refine fin ?_
      rcases hcase with h | h
      · exact Or.inl ⟨h.1, by omega, h.2⟩
      · exact Or.inr h
    · refine wp_if (fun hx2 => ?_) (fun hx2 => ?_)
      · have hno : ∀ m : Nat, m ≤ T → ¬ ∃ q, kyR R p fc s0 m q ∧ ovP R q := by
          rcases hcase with h | h
          · exact h.2
          · rw [h.1, i3_m2, i3_eq (by omega) (by omega) (by omega) (by omega)] at hx2
            omega
        refine wp_b _ (k_go hC hF2 (by omega) hh h0) (fun r N hN => ?_)
        obtain ⟨rfl, g1, g2, g3⟩ := hN
        rw [b_if, i3_sn]
        refine wp_if (fun hy => ?_) (fun hy => ?_)
        · rw [wp_m]
          have f3 : Fr [57] N (sI N 57 3 (i3 ((T + 1 : Nat) : Int))) := Fr.rf.i (by decide)
          refine ih (T + 1) _ (by omega) (by omega) (g1.mv f3 (by decide)) ((fr.tr (g2.up (by decide))).tr (f3.up (by decide))) (fun j hj => by rw [rI_e, up_n hj, g2.e1 (by decide), h57 j hj]) (fun q hq => by rw [f3.e1 (by decide)]; exact g3 q hq) (Or.inr ⟨by rw [rI_e, up_e], ?_, hy⟩)
          exact leA_e (by omega) hy (fun m hm => hno m (by omega))
        · refine ih (T + 1) N (by omega) (by omega) g1 (fr.tr (g2.up (by decide))) (fun j hj => by rw [g2.e1 (by decide), h57 j hj]) g3 (Or.inl ⟨by rw [g2.e1 (by decide), hx2]; rfl, fun m hm => ?_⟩)
          by_cases hmT : m = T + 1
          · subst hmT; exact hy
          · exact hno m (by omega)
      · rw [wp_v]
        refine fin ?_
        rcases hcase with h | h
        · exact absurd h.1 hx2
        · exact Or.inr h
def kI (R : tR) (p : Int) (fc : Nat → Int) (F : Nat) (M : gM) : Prop := M.1 57 4 = i3 (-1) ∨ ∃ s0 : Nat, stP R s0 ∧ M.1 57 4 = i3 s0 ∧ plI R p fc F s0 M
theorem k_plan {R : tR} {p : Int} {t st F s0 : Nat} {fc : Nat → Int} {M : gM} (hC : CB R p t st M) (hF : fcI fc F M) (h0 : stP R s0) (hk : kI R p fc F M) : wp (f_X6_plan (i3 s0) M) (fun _ N => CB R p t st N ∧ Fr cKn M N ∧ (∀ j, j ≠ 3 → j ≠ 4 → N.1 57 j = M.1 57 j) ∧ N.1 57 4 = i3 s0 ∧ plI R p fc F s0 N) := by
  have hR := hC.1.1
  have hs := st_lt h0
  rw [f_X6_plan]
  refine wp_if (fun hx => ?_) (fun hx => ?_)
  · rcases hk with hk | ⟨s1, g1, g2, g3⟩
    · rw [hk, i3_eq (by omega) (by omega) (by omega) (by omega)] at hx
      omega
    · have : s1 = s0 := by
        have := st_lt g1
        rw [g2, i3_eq (by omega) (by omega) (by omega) (by omega)] at hx
        omega
      subst this
      rw [wp_some]
      exact ⟨hC, Fr.rf, fun j _ _ => rfl, g2, g3⟩
  · rw [wp_m]
    have f1 : Fr [57] M (sI M 57 4 (i3 s0)) := Fr.rf.i (by decide)
    have e4 : (sI M 57 4 (i3 s0)).1 57 4 = i3 s0 := by rw [rI_e, up_e]
    have en : ∀ j, j ≠ 4 → (sI M 57 4 (i3 s0)).1 57 j = M.1 57 j := fun j hj => by rw [rI_e, up_n hj]
    have hC1 := hC.mv f1 (by decide)
    generalize sI M 57 4 (i3 s0) = M1 at f1 e4 en hC1 ⊢
    have go : ∀ v : Int, ((v = -2 ∧ ¬ ovP R s0) ∨ (v = 0 ∧ ovP R s0)) → wp (f_X6_plan_35 (i3 s0) (i3 v) M1) (fun _ N => CB R p t st N ∧ Fr cKn M N ∧ (∀ j, j ≠ 3 → j ≠ 4 → N.1 57 j = M.1 57 j) ∧ N.1 57 4 = i3 s0 ∧ plI R p fc F s0 N) := by
      intro v hv
      rw [f_X6_plan_35, wp_m]
      refine wp_b _ (k_fill (c := 60) (n0 := 2079) (v := 0) (by omega) (by omega)) (fun _ N2 hN => ?_)
      obtain ⟨g1, g2⟩ := hN
      refine wp_b _ (k_fill (c := 61) (n0 := 2079) (v := 0) (by omega) (by omega)) (fun _ N3 hN => ?_)
      obtain ⟨g3, g4⟩ := hN
      rw [ck_ok (by omega) (by omega) (by omega), wp_m, tn_n (by omega)]
      have f2 : Fr [57, 60, 61] M1 (sI N3 60 s0 1) := (((Fr.rf.i (by decide)).tr (g1.up (by decide))).tr (g3.up (by decide))).i (by decide)
      have q57 : (sI N3 60 s0 1).1 57 = upd (M1.1 57) 3 (i3 v) := by rw [rI_n (by decide), g3.e1 (by decide), g1.e1 (by decide), rI_e]
      have q60 : ∀ q : Nat, q < 2079 → (sI N3 60 s0 1).1 60 q = if q = s0 then 1 else 0 := fun q hq => by
        rw [rI_e, g3.e1 (by decide), up_x]
        by_cases h : q = s0
        · rw [if_pos h, if_pos h]
        · rw [if_neg h, if_neg h, g2 q hq]
      have q61 : ∀ q : Nat, q < 2079 → (sI N3 60 s0 1).1 61 q = 0 := fun q hq => by rw [rI_n (by decide), g4 q hq]
      have hC2 : CB R p t st (sI N3 60 s0 1) := hC1.mv f2 (by decide)
      generalize sI N3 60 s0 1 = N4 at f2 q57 q60 q61 hC2 ⊢
      have hF4 : fcI fc F N4 := ⟨hF.1, by rw [q57, up_n (by decide), en 1 (by decide)]; exact hF.2.1, fun b hb => by rw [f2.e1 (by decide), f1.e1 (by decide)]; exact hF.2.2 b hb⟩
      refine wp_mono (k_p63 hF4 h0 (fun q j hq => by rw [q61 q hq]; exact b_0 j) FU 0 N4 (by omega) (by have := hF.1; rw [FU_s]; omega) hC2 Fr.rf (fun j _ => rfl) (fun q hq => ⟨fun j hj => ?_, fun j h1 h2 => ?_⟩) ?_) (fun _ N5 hN => ?_)
      · have : j = 0 := by omega
        subst this
        rw [q60 q hq]
        by_cases h : q = s0
        · rw [if_pos h, b_t (p := kyR R p fc s0 0 q) h]; rfl
        · rw [if_neg h, b_f (p := kyR R p fc s0 0 q) h]; rfl
      · rw [q60 q hq]
        split
        · have : ∀ i, i < 32 → i ≠ 0 → bt 1 i = false := by decide
          exact this j (by omega) (by omega)
        · exact b_0 j
      · rw [q57, up_e]
        rcases hv with ⟨h, ho⟩ | ⟨h, ho⟩
        · refine Or.inl ⟨by rw [h], fun m hm => ?_⟩
          have : m = 0 := by omega
          subst this
          rintro ⟨q, h1, h2⟩
          rw [show q = s0 from h1] at h2
          exact ho h2
        · exact Or.inr ⟨by rw [h]; rfl, leA_e (by omega) ⟨s0, rfl, ho⟩ (fun b hb => by omega), s0, rfl, ho⟩
      · obtain ⟨u1, u2, u3, u4⟩ := hN
        refine ⟨u1, (f1.up (by decide)).tr ((f2.up (by decide)).tr u2), fun j h3 h4 => ?_, ?_, u4⟩
        · rw [u3 j h3, q57, up_n h3, en j h4]
        · rw [u3 4 (by decide), q57, up_n (by decide), e4]
    rw [k_or hC1, k_over hC1 hs, g_b_some, b_if]
    refine wp_if (fun ho => ?_) (fun ho => ?_)
    · exact go 0 (Or.inr ⟨rfl, ho⟩)
    · rw [i3_m2]
      exact go (-2) (Or.inl ⟨rfl, ho⟩)
