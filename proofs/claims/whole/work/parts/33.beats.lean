/-! ===== the least number below n that has a property ===== -/
noncomputable def leA (P : Nat → Prop) (n : Nat) (d : Int) : Int := @dite _ (∃ a, a < n ∧ P a ∧ ∀ b, b < a → ¬ P b) (Classical.propDecidable _) (fun h => (Classical.choose h : Nat)) (fun _ => d)
theorem leA_e {P : Nat → Prop} {n a : Nat} {d : Int} (h : a < n) (h1 : P a) (h2 : ∀ b, b < a → ¬ P b) : leA P n d = a := by
  have hx : ∃ a, a < n ∧ P a ∧ ∀ b, b < a → ¬ P b := ⟨a, h, h1, h2⟩
  unfold leA
  rw [dif_pos hx]
  obtain ⟨c1, c2, c3⟩ := Classical.choose_spec hx
  congr 1
  rcases Nat.lt_trichotomy (Classical.choose hx) a with g | g | g
  · exact absurd c2 (h2 _ g)
  · exact g
  · exact absurd h1 (c3 _ g)
theorem leA_d {P : Nat → Prop} {n : Nat} {d : Int} (h : ∀ a, a < n → ¬ P a) : leA P n d = d := by
  unfold leA
  rw [dif_neg]
  rintro ⟨a, h1, h2, -⟩
  exact h a h1 h2
theorem leA_x {P : Nat → Prop} {n : Nat} (d : Int) : (∃ a, a < n ∧ P a ∧ (∀ b, b < a → ¬ P b) ∧ leA P n d = a) ∨ ((∀ a, a < n → ¬ P a) ∧ leA P n d = d) := by
  by_cases h : ∃ a, a < n ∧ P a
  · have : ∀ k, (∃ a, a ≤ k ∧ a < n ∧ P a) → ∃ a, a < n ∧ P a ∧ ∀ b, b < a → ¬ P b := by
      intro k
      induction k with
      | zero =>
        rintro ⟨a, h1, h2, h3⟩
        exact ⟨a, h2, h3, fun b hb => by omega⟩
      | succ k ih =>
        rintro ⟨a, h1, h2, h3⟩
        by_cases g : ∃ a, a ≤ k ∧ a < n ∧ P a
        · exact ih g
        · refine ⟨a, h2, h3, fun b hb hp => g ⟨b, by omega, by omega, hp⟩⟩
    obtain ⟨a, h1, h2⟩ := h
    obtain ⟨a, g1, g2, g3⟩ := this a ⟨a, Nat.le_refl _, h1, h2⟩
    exact Or.inl ⟨a, g1, g2, g3, leA_e g1 g2 g3⟩
  · have h : ∀ a, a < n → ¬ P a := fun a h1 h2 => h ⟨a, h1, h2⟩
    exact Or.inr ⟨h, leA_d h⟩
/-! ===== the class's Beats ===== -/
def BS (R : tR) (p : Int) (t : Nat) (M : gM) : Prop := tOk R ∧ (1 ≤ p ∧ p ≤ 4) ∧ (t = 3 ∨ t = 12) ∧ M.2.2 27 0 = t ∧ M.1 27 1 = i3 p ∧ Rp1 M t R
theorem BS.mv {R : tR} {p : Int} {t : Nat} {M M' : gM} {S : List Nat} (h : BS R p t M) (f : Fr S M M') (hS : ∀ k ∈ S, k = 0 ∨ 21 ≤ k ∧ k ≠ 27) : BS R p t M' := by
  obtain ⟨h1, h2, h3, h4, h5, h6⟩ := h
  have hn : ∀ k, 1 ≤ k → (k ≤ 20 ∨ k = 27) → k ∉ S := fun k hk hk2 hs => by
    have := hS k hs
    omega
  refine ⟨h1, h2, h3, ?_, ?_, h6.mv (fun k hk1 hk2 => f.e1 (hn k (by omega) (by omega)))⟩
  · rw [f.e3 (hn 27 (by omega) (by omega)), h4]
  · rw [f.e1 (hn 27 (by omega) (by omega)), h5]
def At30 (M : gM) (s : Nat) (pu g p : Int) : Prop := M.1 30 0 = i3 (gAt s) ∧ M.1 30 1 = i3 (gLe s) ∧ M.1 30 2 = i3 (gSw s) ∧ M.1 30 3 = i3 pu ∧ M.1 30 4 = i3 g ∧ M.1 30 5 = i3 p
theorem up_x {f : Nat → Int32} {j q : Nat} {x : Int32} : upd f j x q = if q = j then x else f q := rfl
theorem c_stand {s : Nat} (hs : s < 2079) {p : Int} {M : gM} : wp (f_X2_standAt (i3 s) (i3 p) M) (fun _ N => Fr [30] M N ∧ At30 N s 0 0 p) := by
  rw [f_X2_standAt, e_at (by omega), e_le (by omega), e_sw (by omega)]
  simp (disch := omega) only [i3_lit, ck_ok, wp_some, wp_m, wp_v, g_b_some, i3_tn]
  refine ⟨?_, ?_⟩
  · exact (((((Fr.rf.i (by decide)).i (by decide)).i (by decide)).i (by decide)).i (by decide)).i (by decide)
  · unfold At30
    simp only [rI_e, up_x]
    simp
theorem At30.mv {M M' : gM} {s : Nat} {pu g p : Int} {S : List Nat} (h : At30 M s pu g p) (f : Fr S M M') (hS : 30 ∉ S) : At30 M' s pu g p := by
  unfold At30
  rw [f.e1 hS]
  exact h
theorem c_cond {M N : gM} {t : Nat} {c : Int32} {φ : V6 Bool} (h : Cond1 M t c φ) (e : N.1 (t + 1) = M.1 (t + 1)) {s : Nat} {pu g p : Int} (ha : At30 N s pu g p) : wp (f_X2_holds (t + 1) c N) (fun r N' => r = atS φ s pu g p ∧ Fr [28, 29] N N') := by
  obtain ⟨a0, a1, a2, a3, a4, a5⟩ := ha
  have := h N e
  rw [a0, a1, a2, a3, a4, a5] at this
  exact this
/-- the ACTS that CAN be done, one by one -/
theorem c_acts {R : tR} {p : Int} {t s : Nat} (hs : s < 2079) : ∀ (n a : Nat) (m : Int32) (M : gM), BS R p t M → a ≤ rNa R → rNa R < n + a → (∃ pu, At30 M s pu 0 p) → (∀ b, b < 6 → bt m b = b_ (b < a ∧ caP R p s b)) →
    wp (f_X0_survey_163 n (i3 s) m (i3 a) M) (fun _ N => Fr [28, 29, 30, 32] M N ∧ (∀ q, q ≠ s → N.1 32 q = M.1 32 q) ∧ ∀ b, b < 6 → bt (N.1 32 s) b = b_ (caP R p s b)) := by
  intro n
  induction n with
  | zero => intro a m M _ h1 h2; omega
  | succ n ih =>
    intro a m M hB ha hn hat hm
    obtain ⟨hR, hp, ht, ht2, ht3, hr⟩ := id hB
    have hna := hR.2.1
    have h5 : M.1 t 5 = i3 (rNa R) := hr.1.2.2.2.1
    rw [f_X0_survey_163, ht2, or_ok ht, h5]
    simp (disch := omega) only [i3_lt, i3_le, i3_eq, ck_ok, or_ok ht, wp_some, wp_m, wp_v, g_b_some, i3_tn, Int.toNat_natCast, c_over hR hr hs, b_if]
    refine wp_if (fun hx => ?_) (fun hx => ?_)
    · rw [wp_m, wp_some]
      refine ⟨Fr.rf.i (by decide), fun q hq => ?_, fun b hb => ?_⟩
      · rw [rI_e, up_n hq]
      · rw [rI_e, up_e, hm b hb]
        exact b_e ⟨fun h => h.2, fun h => ⟨by have := h.1; omega, h⟩⟩
    · refine wp_if (fun ho => ?_) (fun ho => ?_)
      · rw [wp_m, wp_some]
        refine ⟨Fr.rf.i (by decide), fun q hq => ?_, fun b hb => ?_⟩
        · rw [rI_e, up_n hq]
        · rw [rI_e, up_e, hm b hb]
          exact b_e ⟨fun h => h.2, fun h => absurd ho h.2.1⟩
      · have ha2 : a < rNa R := by omega
        obtain ⟨c1, c2, c3⟩ := hr.2.1 a ha2
        rw [ht2, or_ok ht]
        simp (disch := omega) only [i3_lit, ck_ok, i3_tn, wp_some, wp_m, wp_v, g_b_some, Int.toNat_natCast, c1]
        have f1 : Fr [30] M (sI M 30 (3 : Int).toNat (i3 (rPu R a))) := Fr.rf.i (by decide)
        have hB1 := hB.mv f1 (by decide)
        have hat1 : At30 (sI M 30 (3 : Int).toNat (i3 (rPu R a))) s (rPu R a) 0 p := by
          obtain ⟨pu, a0, a1, a2, a3, a4, a5⟩ := hat
          unfold At30
          simp only [rI_e, up_x]
          simp [a0, a1, a2, a4, a5]
        generalize sI M 30 (3 : Int).toNat (i3 (rPu R a)) = M1 at f1 hB1 hat1 ⊢
        rw [hB1.2.2.2.1]
        simp (disch := omega) only [or_ok ht, ck_ok]
        have e5 : M1.1 (t + 5) = M.1 (t + 5) := f1.e1 (by simp; omega)
        rw [e5]
        refine wp_b _ (c_cond c3 (f1.e1 (by simp; omega)) hat1) (fun r M2 hq => ?_)
        obtain ⟨hq1, f2⟩ := hq
        have hB2 := hB1.mv f2 (by decide)
        have hat2 := hat1.mv f2 (by decide)
        have f3 : Fr [28, 29, 30, 32] M M2 := (f1.up (by decide)).tr (f2.up (by decide))
        have k32 : M2.1 32 = M.1 32 := by rw [f2.e1 (by decide), f1.e1 (by decide)]
        have hc : caP R p s a ↔ atS (rCA R a) s (rPu R a) 0 p = true := ⟨fun h => h.2.2, fun h => ⟨ha2, ho, h⟩⟩
        have fin : ∀ m2 : Int32, (∀ b, b < 6 → bt m2 b = b_ (b < a + 1 ∧ caP R p s b)) → wp (f_X0_survey_163 n (i3 s) m2 (i3 a + i3 1) M2) (fun _ N => Fr [28, 29, 30, 32] M N ∧ (∀ q, q ≠ s → N.1 32 q = M.1 32 q) ∧ ∀ b, b < 6 → bt (N.1 32 s) b = b_ (caP R p s b)) := by
          intro m2 hm2
          rw [i3_add]
          refine wp_mono (ih (a + 1) m2 M2 hB2 (by omega) (by omega) ⟨_, hat2⟩ hm2) (fun _ N hN => ?_)
          obtain ⟨g1, g2, g3⟩ := hN
          exact ⟨f3.tr g1, fun q hq => by rw [g2 q hq, k32], g3⟩
        refine wp_if (fun hx2 => ?_) (fun hx2 => ?_)
        · apply fin
          intro b hb
          have := bt_or (m := m) (a := a) (b := b) (by omega) (by omega)
          rw [i3_lit 1, i3_lit 31] at this
          rw [this, hm b hb]
          by_cases hab : a = b
          · subst hab
            have : b_ (a < a + 1 ∧ caP R p s a) = true := b_t ⟨by omega, hc.2 (by rw [← hq1]; exact hx2)⟩
            rw [this]
            simp
          · simp only [hab, decide_false, Bool.or_false]
            exact b_e ⟨fun h => ⟨by omega, h.2⟩, fun h => ⟨by omega, h.2⟩⟩
        · apply fin
          intro b hb
          rw [hm b hb]
          refine b_e ⟨fun h => ⟨by omega, h.2⟩, fun h => ⟨?_, h.2⟩⟩
          by_cases hab : b = a
          · subst hab
            exact absurd (hq1.trans (hc.1 h.2)) hx2
          · omega

/-- the gusts, row by row, and behind them the ACTS -/
theorem c_gusts {R : tR} {p : Int} {t s : Nat} (hs : s < 2079) : ∀ (n k : Nat) (M : gM), BS R p t M → k ≤ rNg R → rNg R < n + k → At30 M s 0 0 p → M.1 33 s = i3 (ghR R p s k).1 → M.1 34 s = i3 (ghR R p s k).2 →
    wp (f_X0_survey_65 n (i3 s) (i3 (gAt s)) (i3 ((5 * k : Nat) : Int)) M) (fun _ N => Fr [28, 29, 30, 32, 33, 34] M N ∧ (∀ q, q ≠ s → N.1 32 q = M.1 32 q ∧ N.1 33 q = M.1 33 q ∧ N.1 34 q = M.1 34 q) ∧ (∀ b, b < 6 → bt (N.1 32 s) b = b_ (caP R p s b)) ∧ N.1 33 s = i3 (loR R p s) ∧ N.1 34 s = i3 (hiR R p s)) := by
  intro n
  induction n with
  | zero => intro k M _ h1 h2; omega
  | succ n ih =>
    intro k M hB hk hn hat h33 h34
    obtain ⟨hR, hp, ht, ht2, ht3, hr⟩ := id hB
    have hna := hR.2.1
    have h6 : M.1 t 6 = i3 (rNg R) := hr.1.2.2.2.2.1
    have hg := gx s hs
    rw [f_X0_survey_65, ht2, or_ok ht, h6]
    simp (disch := omega) only [i3_lit, i3_neg, i3_add, i3_sub, i3_mul, i3_lt, i3_le, i3_eq]
    refine wp_if (fun hx => ?_) (fun hx => ?_)
    · have hk2 : k = rNg R := by omega
      refine wp_mono (c_acts hs FU 0 (i3 0) M hB (by omega) (by rw [FU_s]; omega) ⟨_, hat⟩ (fun b hb => ?_)) (fun _ N hN => ?_)
      · rw [b_f (fun h => by omega)]
        exact b_0 b
      · obtain ⟨f, g1, g2⟩ := hN
        refine ⟨f.up (by decide), fun q hq => ⟨g1 q hq, by rw [f.e1 (by decide)], by rw [f.e1 (by decide)]⟩, g2, ?_, ?_⟩
        · rw [f.e1 (by decide), h33, hk2]; rfl
        · rw [f.e1 (by decide), h34, hk2]; rfl
    · have hk2 : k < rNg R := by omega
      obtain ⟨c1, c2, c3, c4, c5⟩ := hr.2.2.1 k hk2
      have hgu := hR.2.2.2.1 k hk2
      have e1 : ((5 * k : Nat) : Int).toNat = 5 * k := by omega
      have e2 : (((5 * k : Nat) : Int) + 1).toNat = 5 * k + 1 := by omega
      have e3 : (((5 * k : Nat) : Int) + 2).toNat = 5 * k + 2 := by omega
      have e4 : (((5 * k : Nat) : Int) + 3).toNat = 5 * k + 3 := by omega
      have e5 : (((5 * k : Nat) : Int) + 4).toNat = 5 * k + 4 := by omega
      have e6 : ((5 * k : Nat) : Int) + 5 = ((5 * (k + 1) : Nat) : Int) := by omega
      simp (disch := omega) only [or_ok ht, ck_ok, i3_tn, e1, e2, e5, e6, c1, c2, i3_lt, i3_le, i3_eq]
      have skip : ¬ guP R p s k → ∀ M2, Fr [28, 29] M M2 → wp (f_X0_survey_65 n (i3 s) (i3 (gAt s)) (i3 ((5 * (k + 1) : Nat) : Int)) M2) (fun _ N => Fr [28, 29, 30, 32, 33, 34] M N ∧ (∀ q, q ≠ s → N.1 32 q = M.1 32 q ∧ N.1 33 q = M.1 33 q ∧ N.1 34 q = M.1 34 q) ∧ (∀ b, b < 6 → bt (N.1 32 s) b = b_ (caP R p s b)) ∧ N.1 33 s = i3 (loR R p s) ∧ N.1 34 s = i3 (hiR R p s)) := by
        intro hno M2 f2
        have eg : ghR R p s (k + 1) = ghR R p s k := by rw [ghR, if_neg hno]
        refine wp_mono (ih (k + 1) M2 (hB.mv f2 (by decide)) (by omega) (by omega) (hat.mv f2 (by decide)) ?_ ?_) (fun _ N hN => ?_)
        · rw [f2.e1 (by decide), h33, eg]
        · rw [f2.e1 (by decide), h34, eg]
        · obtain ⟨f, g1, g2⟩ := hN
          refine ⟨(f2.up (by decide)).tr f, fun q hq => ?_, g2⟩
          have := g1 q hq
          rw [f2.e1 (by decide), f2.e1 (by decide), f2.e1 (by decide)] at this
          exact this
      refine wp_if (fun hx2 => ?_) (fun hx2 => ?_)
      · exact skip (fun h => by have := h.1; omega) M Fr.rf
      · refine wp_if (fun hx3 => ?_) (fun hx3 => ?_)
        · exact skip (fun h => by have := h.2.1; omega) M Fr.rf
        · refine wp_b _ (c_cond c5 rfl hat) (fun r M2 hq => ?_)
          obtain ⟨hq1, f2⟩ := hq
          have e6 : M2.1 (t + 6) = M.1 (t + 6) := f2.e1 (by simp; omega)
          refine wp_if (fun hx4 => ?_) (fun hx4 => ?_)
          · have hyes : guP R p s k := ⟨by omega, by omega, by rw [← hq1]; exact hx4⟩
            have eg : ghR R p s (k + 1) = (rGu R k).2.2 := by rw [ghR, if_pos hyes]
            have en : t + 6 ≠ 33 := by omega
            simp (disch := omega) only [ck_ok, i3_tn, wp_some, wp_m, wp_v, g_b_some, rI_n, e3, e4, e6, c3, c4, Int.toNat_natCast]
            have f3 : Fr [28, 29, 33, 34] M (sI (sI M2 33 s (i3 (rGu R k).2.2.1)) 34 s (i3 (rGu R k).2.2.2)) := ((f2.up (by decide)).i (by decide)).i (by decide)
            refine wp_mono (ih (k + 1) _ (hB.mv f3 (by decide)) (by omega) (by omega) (hat.mv f3 (by decide)) ?_ ?_) (fun _ N hN => ?_)
            · rw [rI_n (by decide), rI_e, up_e, eg]
            · rw [rI_e, up_e, eg]
            · obtain ⟨f, g1, g2⟩ := hN
              refine ⟨(f3.up (by decide)).tr f, fun q hq => ?_, g2⟩
              have := g1 q hq
              rw [rI_n (by decide), rI_n (by decide), rI_n (by decide), rI_e, rI_e, rI_n (by decide), up_n hq, up_n hq, f2.e1 (by decide), f2.e1 (by decide), f2.e1 (by decide)] at this
              exact this
          · exact skip (fun h => hx4 (by rw [hq1]; exact h.2.2)) M2 f2
/-- what is known of the STATES that were looked at -/
noncomputable def dvR (R : tR) (p : Int) (s : Nat) : Nat → Int
  | 0 => leA (caP R p s) 6 (-2)
  | j + 1 => @ite _ (caP R p s (rRa R (rNr R - 1 - j)) ∧ atS (rCR R (rNr R - 1 - j)) s 0 0 p = true) (Classical.propDecidable _) (rRa R (rNr R - 1 - j) : Nat) (dvR R p s j)
noncomputable def drR (R : tR) (p : Int) (s : Nat) : Int := dvR R p s (rNr R)
def sG (R : tR) (p : Int) (M : gM) (s : Nat) : Prop := (∀ b, b < 6 → bt (M.1 32 s) b = b_ (caP R p s b)) ∧ M.1 33 s = i3 (loR R p s) ∧ M.1 34 s = i3 (hiR R p s) ∧ (M.1 35 s = i3 (-3) ∨ M.1 35 s = i3 (drR R p s))
def sV (R : tR) (p : Int) (st : Nat) (M : gM) : Prop := ∀ s, s < 2079 → ∃ e : Nat, e ≤ st ∧ M.1 31 s = i3 e ∧ (e = st → sG R p M s)
def aV (R : tR) (p : Int) (st : Nat) (M : gM) : Prop := ∀ i, i < 87318 → ∃ G, G < 2 ^ 64 ∧ M.2.1 36 i = lN G ∧ G / 2 ^ 48 ≤ st ∧ (G / 2 ^ 48 = st → ∀ s a j : Nat, s < 2079 → a < rNa R → j < 4 → i / 7 = s * 6 + a → cE G j = 0 ∨ (cE G j : Int) = nxR R p s a (4 * (i % 7 : Nat) + j - 12) + 3)
/-- the class's Beats stand for a text and a POLE -/
def CB (R : tR) (p : Int) (t st : Nat) (M : gM) : Prop := BS R p t M ∧ (1 ≤ st ∧ st < 65536) ∧ M.1 27 2 = i3 st ∧ sV R p st M ∧ aV R p st M
abbrev cBt : List Nat := [28, 29, 30, 31, 32, 33, 34, 35, 36]
theorem CB.mv {R : tR} {p : Int} {t st : Nat} {M M' : gM} {S : List Nat} (h : CB R p t st M) (f : Fr S M M') (hS : ∀ k ∈ S, k = 0 ∨ (21 ≤ k ∧ k ≤ 26) ∨ (28 ≤ k ∧ k ≤ 30) ∨ 37 ≤ k) : CB R p t st M' := by
  obtain ⟨h1, h2, h3, h4, h5⟩ := h
  have hn : ∀ k, (k = 27 ∨ (31 ≤ k ∧ k ≤ 36)) → k ∉ S := fun k hk hs => by
    have := hS k hs
    omega
  refine ⟨h1.mv f (fun k hk => by have := hS k hk; omega), h2, ?_, fun s hs => ?_, fun i hi => ?_⟩
  · rw [f.e1 (hn 27 (by omega)), h3]
  · obtain ⟨e, g1, g2, g3⟩ := h4 s hs
    refine ⟨e, g1, by rw [f.e1 (hn 31 (by omega)), g2], fun he => ?_⟩
    have := g3 he
    unfold sG
    rw [f.e1 (hn 32 (by omega)), f.e1 (hn 33 (by omega)), f.e1 (hn 34 (by omega)), f.e1 (hn 35 (by omega))]
    exact this
  · obtain ⟨G, g1, g2, g3⟩ := h5 i hi
    exact ⟨G, g1, by rw [f.e2 (hn 36 (by omega)), g2], g3⟩
theorem c_survey {R : tR} {p : Int} {t st s : Nat} (hs : s < 2079) {M : gM} (h : CB R p t st M) : wp (f_X0_survey (i3 s) M) (fun _ N => CB R p t st N ∧ Fr cBt M N ∧ N.1 31 s = i3 st ∧ sG R p N s) := by
  obtain ⟨hB, hst, h3, h4, h5⟩ := id h
  rw [f_X0_survey]
  simp (disch := omega) only [ck_ok, i3_tn, Int.toNat_natCast, h3]
  obtain ⟨e, g1, g2, g3⟩ := h4 s hs
  refine wp_if (fun hx => ?_) (fun hx => ?_)
  · rw [wp_some]
    have : e = st := by
      rw [g2, i3_eq (by omega) (by omega) (by omega) (by omega)] at hx
      omega
    exact ⟨h, Fr.rf, hx, g3 this⟩
  · simp only [wp_m]
    have f1 : Fr cBt M (sI (sI M 31 s (i3 st)) 35 s (-3)) := (Fr.rf.i (by decide)).i (by decide)
    have e31 : (sI (sI M 31 s (i3 st)) 35 s (-3)).1 31 = upd (M.1 31) s (i3 st) := by rw [rI_n (by decide), rI_e]
    have e32 : (sI (sI M 31 s (i3 st)) 35 s (-3)).1 32 = M.1 32 := by rw [rI_n (by decide), rI_n (by decide)]
    have e33 : (sI (sI M 31 s (i3 st)) 35 s (-3)).1 33 = M.1 33 := by rw [rI_n (by decide), rI_n (by decide)]
    have e34 : (sI (sI M 31 s (i3 st)) 35 s (-3)).1 34 = M.1 34 := by rw [rI_n (by decide), rI_n (by decide)]
    have e35 : (sI (sI M 31 s (i3 st)) 35 s (-3)).1 35 = upd (M.1 35) s (-3) := by rw [rI_e, rI_n (by decide)]
    have eL : (sI (sI M 31 s (i3 st)) 35 s (-3)).2.1 = M.2.1 := rfl
    have hB1 := hB.mv f1 (by decide)
    generalize sI (sI M 31 s (i3 st)) 35 s (-3) = M1 at f1 e31 e32 e33 e34 e35 eL hB1 ⊢
    rw [hB1.2.2.2.2.1]
    refine wp_b _ (c_stand hs) (fun _ M2 hq => ?_)
    obtain ⟨f2, hat⟩ := hq
    have hB2 := hB1.mv f2 (by decide)
    rw [c_at (by omega), g_b_some]
    simp (disch := omega) only [ck_ok, i3_tn, Int.toNat_natCast, wp_m]
    have f3 : Fr [33, 34] M2 (sI (sI M2 33 s 0) 34 s 0) := (Fr.rf.i (by decide)).i (by decide)
    have k33 : (sI (sI M2 33 s 0) 34 s 0).1 33 = upd (M.1 33) s 0 := by rw [rI_n (by decide), rI_e, f2.e1 (by decide), e33]
    have k34 : (sI (sI M2 33 s 0) 34 s 0).1 34 = upd (M.1 34) s 0 := by rw [rI_e, rI_n (by decide), f2.e1 (by decide), e34]
    generalize sI (sI M2 33 s 0) 34 s 0 = M3 at f3 k33 k34 ⊢
    have := c_gusts (R := R) (p := p) (t := t) hs FU 0 M3 (hB2.mv f3 (by decide)) (by omega) (by have := hB.1.2.1; rw [FU_s]; omega) (hat.mv f3 (by decide)) (by rw [k33, up_e]; rfl) (by rw [k34, up_e]; rfl)
    refine wp_mono this (fun _ N hN => ?_)
    obtain ⟨f4, n1, n2, n3, n4⟩ := hN
    have fB : Fr cBt M N := ((f1.tr (f2.up (by decide))).tr (f3.up (by decide))).tr (f4.up (by decide))
    have j31 : N.1 31 = upd (M.1 31) s (i3 st) := by rw [f4.e1 (by decide), f3.e1 (by decide), f2.e1 (by decide), e31]
    have j35 : N.1 35 = upd (M.1 35) s (-3) := by rw [f4.e1 (by decide), f3.e1 (by decide), f2.e1 (by decide), e35]
    have j32 : ∀ q, q ≠ s → N.1 32 q = M.1 32 q := fun q hq => by rw [(n1 q hq).1, f3.e1 (by decide), f2.e1 (by decide), e32]
    have j33 : ∀ q, q ≠ s → N.1 33 q = M.1 33 q := fun q hq => by rw [(n1 q hq).2.1, k33, up_n hq]
    have j34 : ∀ q, q ≠ s → N.1 34 q = M.1 34 q := fun q hq => by rw [(n1 q hq).2.2, k34, up_n hq]
    have j36 : N.2.1 36 = M.2.1 36 := by rw [f4.e2 (by decide), f3.e2 (by decide), f2.e2 (by decide), eL]
    have hg : sG R p N s := ⟨n2, n3, n4, Or.inl (by rw [j35, up_e]; rfl)⟩
    have hs31 : N.1 31 s = i3 st := by rw [j31, up_e]
    refine ⟨⟨hB.mv fB (by decide), hst, by rw [fB.e1 (by decide), h3], fun q hq => ?_, fun i hi => ?_⟩, fB, hs31, hg⟩
    · by_cases hqs : q = s
      · subst hqs
        exact ⟨st, Nat.le_refl _, hs31, fun _ => hg⟩
      · obtain ⟨e, g1, g2, g3⟩ := h4 q hq
        refine ⟨e, g1, by rw [j31, up_n hqs, g2], fun he => ?_⟩
        have := g3 he
        unfold sG
        rw [j32 q hqs, j33 q hqs, j34 q hqs, j35, up_n hqs]
        exact this
    · rw [j36]
      exact h5 i hi
theorem c_allows {R : tR} {p : Int} {t st s a : Nat} (hs : s < 2079) (ha : a < 6) {M : gM} (h : CB R p t st M) : wp (f_X0_allows (i3 s) (i3 a) M) (fun r N => r = b_ (caP R p s a) ∧ CB R p t st N ∧ Fr cBt M N) := by
  rw [f_X0_allows]
  simp (disch := omega) only [i3_lit, i3_neg, i3_add, i3_sub, i3_mul, i3_lt, i3_le, i3_eq]
  rw [if_neg (by omega), if_pos (by omega)]
  refine wp_b _ (c_survey hs h) (fun _ N hN => ?_)
  obtain ⟨h1, h2, h3, h4⟩ := hN
  simp (disch := omega) only [ck_ok, i3_tn, Int.toNat_natCast]
  have := bt_i (m := N.1 32 s) (a := a) (by omega)
  rw [i3_lit 1, i3_lit 31] at this
  refine wp_if (fun hx => ?_) (fun hx => ?_)
  · rw [wp_some]
    rw [this, h4.1 a ha] at hx
    exact ⟨hx.symm, h1, h2⟩
  · rw [wp_some]
    rw [this, h4.1 a ha] at hx
    exact ⟨by cases hb : b_ (caP R p s a) <;> simp_all, h1, h2⟩
theorem c_mask {R : tR} {p : Int} {t st s : Nat} (hs : s < 2079) {M : gM} (h : CB R p t st M) : wp (f_X0_mask (i3 s) M) (fun r N => (∀ b, b < 6 → bt r b = b_ (caP R p s b)) ∧ CB R p t st N ∧ Fr cBt M N) := by
  rw [f_X0_mask]
  simp (disch := omega) only [i3_lit, i3_neg, i3_add, i3_sub, i3_mul, i3_lt, i3_le, i3_eq]
  rw [if_neg (by omega), if_pos (by omega)]
  refine wp_b _ (c_survey hs h) (fun _ N hN => ?_)
  obtain ⟨h1, h2, h3, h4⟩ := hN
  simp (disch := omega) only [ck_ok, i3_tn, Int.toNat_natCast, wp_some]
  exact ⟨h4.1, h1, h2⟩
theorem c_least {R : tR} {p : Int} {t st s : Nat} (hs : s < 2079) {M : gM} (h : CB R p t st M) : wp (f_X0_least (i3 s) M) (fun r N => r = i3 (loR R p s) ∧ CB R p t st N ∧ Fr cBt M N) := by
  rw [f_X0_least]
  simp (disch := omega) only [i3_lit, i3_neg, i3_add, i3_sub, i3_mul, i3_lt, i3_le, i3_eq]
  rw [if_neg (by omega), if_pos (by omega)]
  refine wp_b _ (c_survey hs h) (fun _ N hN => ?_)
  obtain ⟨h1, h2, h3, h4⟩ := hN
  simp (disch := omega) only [ck_ok, i3_tn, Int.toNat_natCast, wp_some]
  exact ⟨h4.2.1, h1, h2⟩
theorem c_great {R : tR} {p : Int} {t st s : Nat} (hs : s < 2079) {M : gM} (h : CB R p t st M) : wp (f_X0_greatest (i3 s) M) (fun r N => r = i3 (hiR R p s) ∧ CB R p t st N ∧ Fr cBt M N) := by
  rw [f_X0_greatest]
  simp (disch := omega) only [i3_lit, i3_neg, i3_add, i3_sub, i3_mul, i3_lt, i3_le, i3_eq]
  rw [if_neg (by omega), if_pos (by omega)]
  refine wp_b _ (c_survey hs h) (fun _ N hN => ?_)
  obtain ⟨h1, h2, h3, h4⟩ := hN
  simp (disch := omega) only [ck_ok, i3_tn, Int.toNat_natCast, wp_some]
  exact ⟨h4.2.2.1, h1, h2⟩
