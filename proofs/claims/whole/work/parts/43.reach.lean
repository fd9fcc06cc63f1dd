/-! ===== REACH and LEAD ===== -/
def lrR (R : tR) (p : Int) : Nat → Nat → Prop
  | 0, s => stP R s ∧ ovP R s
  | n + 1, s => lrR R p n s ∨ (stP R s ∧ ∃ a, caP R p s a ∧ gdP R p (lrR R p n) 0 s a)
theorem lr_st {R : tR} {p : Int} : ∀ n s, lrR R p n s → stP R s := by
  intro n
  induction n with
  | zero => intro s h; exact h.1
  | succ n ih => intro s h; exact h.elim (ih s) (fun h => h.1)
theorem lr_le {R : tR} {p : Int} {m n s : Nat} (h : m ≤ n) (hx : lrR R p m s) : lrR R p n s := by
  induction n with
  | zero => rw [← Nat.le_zero.1 h]; exact hx
  | succ n ih =>
    by_cases hm : m = n + 1
    · rw [← hm]; exact hx
    · exact Or.inl (ih (by omega))
theorem lr_fix {R : tR} {p : Int} {n : Nat} (h : ∀ s, lrR R p (n + 1) s → lrR R p n s) : ∀ s, lrR R p (n + 2) s → lrR R p (n + 1) s := fun s hs => hs.elim id (fun ⟨h1, a, h2, h3⟩ => Or.inr ⟨h1, a, h2, gd_m h h3⟩)
theorem lr_all {R : tR} {p : Int} {n : Nat} (h : ∀ s, lrR R p (n + 1) s → lrR R p n s) : ∀ m s, lrR R p m s → lrR R p n s := by
  have up : ∀ j, ∀ s, lrR R p (n + j + 1) s → lrR R p (n + j) s := by
    intro j
    induction j with
    | zero => exact h
    | succ j ihj => exact lr_fix ihj
  have all : ∀ j s, lrR R p (n + j) s → lrR R p n s := by
    intro j
    induction j with
    | zero => exact fun s hs => hs
    | succ j ihj => exact fun s hs => ihj s (up j s hs)
  exact fun m s hs => all m s (lr_le (by omega) hs)
theorem lr_top {R : tR} {p : Int} {m s : Nat} (h : lrR R p m s) : lrR R p 2079 s := by
  apply Classical.byContradiction
  intro hn
  exact ch_st (X := fun n s => ¬ lrR R p n s) (N := 2079) (fun n s h1 h2 => h1 (Or.inl h2)) (fun n hf s hs h1 h2 => h1 (h2.elim id (fun ⟨g1, a, g2, g3⟩ => Or.inr ⟨g1, a, g2, gd_m (fun t ht => Classical.byContradiction (fun hc => hf t (st_lt (lr_st _ _ ht)) hc ht)) g3⟩))) s (st_lt (lr_st _ _ h)) hn m h
noncomputable def reR (R : tR) (p : Int) (s : Nat) : Int := leA (fun n => lrR R p n s) 2080 (-2)
noncomputable def lqR (R : tR) (p : Int) (n s : Nat) : Int := @ite _ (n = 0) (Classical.propDecidable _) (-2) (leA (fun a => caP R p s a ∧ gdP R p (lrR R p (n - 1)) 0 s a) 6 (-2))
noncomputable def ldR (R : tR) (p : Int) (s : Nat) : Int := @ite _ (reR R p s < 1) (Classical.propDecidable _) (-2) (lqR R p (reR R p s).toNat s)
theorem re_e {R : tR} {p : Int} {n s : Nat} (h1 : lrR R p n s) (h2 : n = 0 ∨ ¬ lrR R p (n - 1) s) : reR R p s = n := by
  have hn : n < 2080 := by
    apply Classical.byContradiction
    intro h
    exact (h2.resolve_left (by omega)) (lr_le (by omega) (lr_top h1))
  exact leA_e hn h1 (fun b hb hl => (h2.resolve_left (by omega)) (lr_le (by omega) hl))
theorem re_n {R : tR} {p : Int} {s : Nat} (h : ∀ m, ¬ lrR R p m s) : reR R p s = -2 := leA_d (fun n _ => h n)
theorem re_x {R : tR} {p : Int} {s : Nat} : (reR R p s = -2 ∧ ∀ m, ¬ lrR R p m s) ∨ ∃ n : Nat, n < 2080 ∧ reR R p s = n ∧ lrR R p n s ∧ (n = 0 ∨ ¬ lrR R p (n - 1) s) := by
  rcases leA_x (P := fun n => lrR R p n s) (n := 2080) (-2) with ⟨n, h1, h2, h3, h4⟩ | ⟨h1, h2⟩
  · refine Or.inr ⟨n, h1, h4, h2, ?_⟩
    by_cases hn : n = 0
    · exact Or.inl hn
    · exact Or.inr (h3 _ (by omega))
  · exact Or.inl ⟨h2, fun m hm => h1 2079 (by omega) (lr_top hm)⟩
/-- a STATE at the beginning of round r, and within it -/
def hB (R : tR) (p : Int) (r : Nat) (N : gM) (s : Nat) : Prop := (∃ n : Nat, n ≤ r ∧ lrR R p n s ∧ (n = 0 ∨ ¬ lrR R p (n - 1) s) ∧ N.1 40 s = i3 (-(n : Int)) ∧ N.1 41 s = i3 (lqR R p n s)) ∨ (¬ lrR R p r s ∧ N.1 40 s = i3 (-1048576) ∧ N.1 41 s = i3 (-2))
def hS (R : tR) (p : Int) (r : Nat) (N : gM) (s : Nat) : Prop := (∃ n : Nat, n ≤ r + 1 ∧ lrR R p n s ∧ (n = 0 ∨ ¬ lrR R p (n - 1) s) ∧ N.1 40 s = i3 (-(n : Int)) ∧ N.1 41 s = i3 (lqR R p n s)) ∨ (¬ lrR R p r s ∧ N.1 40 s = i3 (-1048576) ∧ N.1 41 s = i3 (-2))
theorem hS.mv {R : tR} {p : Int} {r s : Nat} {N N' : gM} (h : hS R p r N s) (e1 : N'.1 40 s = N.1 40 s) (e2 : N'.1 41 s = N.1 41 s) : hS R p r N' s := by
  unfold hS
  rw [e1, e2]
  exact h
theorem hS.fl {R : tR} {p : Int} {r s : Nat} {N : gM} (hr : r ≤ 5000) (h : hS R p r N s) : i3 (-(r : Int)) ≤ N.1 40 s ↔ lrR R p r s := by
  rcases h with ⟨n, h1, h2, h3, h4, -⟩ | ⟨h1, h2, -⟩
  · rw [h4]
    simp (disch := omega) only [i3_le]
    constructor
    · intro h
      exact lr_le (by omega) h2
    · intro h
      by_cases hn : n = r + 1
      · subst hn
        exact absurd h (h3.resolve_left (by omega))
      · omega
  · rw [h2]
    simp (disch := omega) only [i3_le]
    exact ⟨fun h => by omega, fun h => absurd h h1⟩
theorem le_from0 {P : Nat → Prop} : leA (fun b => (0 : Int) ≤ b ∧ P b) 6 (-1) = leA P 6 (-1) := leA_c (fun b _ => ⟨fun h => h.2, fun hp => ⟨by omega, hp⟩⟩)
theorem nx_P {R : tR} (hR : tOk R) {p : Int} {P Q : Nat → Prop} {k : Int} {s : Nat} {d : Int} (h : ∀ t : Nat, t < 2079 → stP R t → (P t ↔ Q t)) : leA (fun b => caP R p s b ∧ gdP R p P k s b) 6 d = leA (fun b => caP R p s b ∧ gdP R p Q k s b) 6 d := leA_c (fun b _ => ⟨fun hq => ⟨hq.1, (gd_c2 hR h).1 hq.2⟩, fun hq => ⟨hq.1, (gd_c2 hR h).2 hq.2⟩⟩)
theorem k_rround {R : tR} {p : Int} {t st r n0 : Nat} (hr : r ≤ 2080) {M : gM} (hC : CB R p t st M) (hBs : ∀ s : Nat, s < 2079 → stP R s → hB R p r M s) (hL : LsI M n0 (fun s => opP R s ∧ ¬ lrR R p r s)) :
    wp (f_X5_reachRound (i3 ((r + 1 : Nat) : Int)) (i3 n0) M) (fun y N => ∃ n1 : Nat, y = i3 n1 ∧ n1 ≤ n0 ∧ CB R p t st N ∧ Fr (cBt ++ [40, 41, 46]) M N ∧ (∀ s : Nat, s < 2079 → stP R s → hB R p (r + 1) N s) ∧ LsI N n1 (fun s => opP R s ∧ ¬ lrR R p (r + 1) s) ∧ (n1 = n0 → ∀ s, lrR R p (r + 1) s → lrR R p r s)) := by
  have hR := hC.1.1
  obtain ⟨hL1, hL2, hL3⟩ := hL
  rw [f_X5_reachRound]
  refine wp_lp (F := fun n x (c : Nat) M => f_X5_reachRound_5 n (i3 ((r + 1 : Nat) : Int)) (i3 n0) (i3 c) (i3 x) M)
    (I := fun x c N => c ≤ x ∧ CB R p t st N ∧ Fr (cBt ++ [40, 41, 46]) M N ∧ (∀ s : Nat, s < 2079 → stP R s → hS R p r N s) ∧ (∀ i : Nat, i < c → ∃ s : Nat, s < 2079 ∧ N.1 46 i = i3 s ∧ opP R s ∧ ¬ lrR R p (r + 1) s) ∧ (∀ i, x ≤ i → N.1 46 i = M.1 46 i) ∧ (∀ i : Nat, i < x → ∀ s : Nat, s < 2079 → M.1 46 i = i3 s → (lrR R p (r + 1) s → N.1 40 s = i3 (-((r + 1 : Nat) : Int)) ∧ N.1 41 s = i3 (lqR R p (r + 1) s)) ∧ (¬ lrR R p (r + 1) s → N.1 40 s = i3 (-1048576) ∧ N.1 41 s = i3 (-2) ∧ ∃ j, j < c ∧ N.1 46 j = i3 s)) ∧ (c = x → ∀ i : Nat, i < x → ∀ s : Nat, s < 2079 → M.1 46 i = i3 s → ¬ lrR R p (r + 1) s)) n0 ?_ ?_ FU 0 0 M (by omega) (by rw [FU_s]; omega) ⟨by omega, hC, Fr.rf, fun s hs hst => ?_, fun i hi => by omega, fun i _ => rfl, fun i hi => by omega, fun _ i hi => by omega⟩
  · intro n x c N hx hI hk
    obtain ⟨i1, i2, i3', i4, i5, i6, i7, i8⟩ := hI
    obtain ⟨s, hs, es, ho, hw⟩ := hL2 x hx
    have e46 : N.1 46 x = i3 s := by rw [i6 x (by omega), es]
    have hst : stP R s := ho.1
    rw [f_X5_reachRound_5]
    simp only [i3_sn]
    simp (disch := omega) only [i3_lit, i3_le, i3_sub, i3_neg, ck_ok, wp_v, i3_tn, Int.toNat_natCast, e46]
    rw [if_neg (by omega)]
    have er : (1 : Int) - ((r + 1 : Nat) : Int) = -(r : Int) := by omega
    rw [er]
    refine wp_b _ (k_fg (fr := 0) (kk := 0) (P := fun q => i3 (-(r : Int)) ≤ N.1 40 q) hs (by omega) (by omega) (by omega) i2 (fun q hq => Iff.rfl)) (fun y N2 hN => ?_)
    obtain ⟨rfl, hC2, f2⟩ := hN
    rw [le_from0, nx_P hR (fun q hq hq2 => (i4 q hq hq2).fl (by omega))]
    have fN : Fr (cBt ++ [40, 41, 46]) M N2 := i3'.tr (f2.up (by decide))
    have k40 : N2.1 40 = N.1 40 := f2.e1 (by decide)
    have k41 : N2.1 41 = N.1 41 := f2.e1 (by decide)
    have k46 : N2.1 46 = N.1 46 := f2.e1 (by decide)
    have same : ∀ q : Nat, q < 2079 → M.1 46 x = i3 q → q = s := fun q hq eq => by
      rw [es, i3_eq (by omega) (by omega) (by omega) (by omega)] at eq
      omega
    rcases leA_x (P := fun b => caP R p s b ∧ gdP R p (lrR R p r) 0 s b) (n := 6) (-1) with ⟨a, h1, h2, h3, h4⟩ | ⟨h1, h2⟩
    · have hw1 : lrR R p (r + 1) s := Or.inr ⟨hst, a, h2⟩
      have hlq : lqR R p (r + 1) s = a := by
        unfold lqR
        rw [if_neg (by omega)]
        exact leA_e h1 h2 h3
      rw [h4]
      simp (disch := omega) only [i3_eq]
      rw [if_neg (by omega)]
      simp (disch := omega) only [ck_ok, wp_m, i3_tn, Int.toNat_natCast]
      have q40 : (sI (sI N2 40 s (i3 (-((r + 1 : Nat) : Int)))) 41 s (i3 a)).1 40 = upd (N.1 40) s (i3 (-((r + 1 : Nat) : Int))) := by rw [rI_n (by decide), rI_e, k40]
      have q41 : (sI (sI N2 40 s (i3 (-((r + 1 : Nat) : Int)))) 41 s (i3 a)).1 41 = upd (N.1 41) s (i3 a) := by rw [rI_e, rI_n (by decide), k41]
      have q46 : (sI (sI N2 40 s (i3 (-((r + 1 : Nat) : Int)))) 41 s (i3 a)).1 46 = N.1 46 := by rw [rI_n (by decide), rI_n (by decide), k46]
      have fQ : Fr (cBt ++ [40, 41, 46]) M (sI (sI N2 40 s (i3 (-((r + 1 : Nat) : Int)))) 41 s (i3 a)) := (fN.i (by decide)).i (by decide)
      have hCQ : CB R p t st (sI (sI N2 40 s (i3 (-((r + 1 : Nat) : Int)))) 41 s (i3 a)) := hC2.mv (S := [40, 41]) ((Fr.rf.i (by decide)).i (by decide)) (by decide)
      generalize sI (sI N2 40 s (i3 (-((r + 1 : Nat) : Int)))) 41 s (i3 a) = N4 at q40 q41 q46 fQ hCQ ⊢
      refine hk c N4 ⟨by omega, hCQ, fQ, fun q hq hq2 => ?_, fun i hi => ?_, fun i hi => ?_, fun i hi q hq eq => ?_, fun hcx => by omega⟩
      · by_cases hqs : q = s
        · subst hqs
          exact Or.inl ⟨r + 1, Nat.le_refl _, hw1, Or.inr hw, by rw [q40, up_e], by rw [q41, up_e, hlq]⟩
        · exact (i4 q hq hq2).mv (by rw [q40, up_n hqs]) (by rw [q41, up_n hqs])
      · rw [q46]
        exact i5 i hi
      · rw [q46]
        exact i6 i (by omega)
      · by_cases hqs : q = s
        · subst hqs
          exact ⟨fun _ => ⟨by rw [q40, up_e], by rw [q41, up_e, hlq]⟩, fun h => absurd hw1 h⟩
        · rw [q40, q41, q46, up_n hqs, up_n hqs]
          by_cases hix : i = x
          · subst hix
            exact absurd (same q hq eq) hqs
          · exact i7 i (by omega) q hq eq
    · have hw1 : ¬ lrR R p (r + 1) s := by
        rintro (h | ⟨-, a, h3, h4⟩)
        · exact hw h
        · exact h1 a (ca_6 hR h3) ⟨h3, h4⟩
      rw [h2, if_pos (show i3 (-1) = i3 (-1) from rfl)]
      simp (disch := omega) only [ck_ok, wp_m, i3_tn, Int.toNat_natCast]
      have q40 : (sI N2 46 c (i3 s)).1 40 = N.1 40 := by rw [rI_n (by decide), k40]
      have q41 : (sI N2 46 c (i3 s)).1 41 = N.1 41 := by rw [rI_n (by decide), k41]
      have q46 : (sI N2 46 c (i3 s)).1 46 = upd (N.1 46) c (i3 s) := by rw [rI_e, k46]
      have fQ : Fr (cBt ++ [40, 41, 46]) M (sI N2 46 c (i3 s)) := fN.i (by decide)
      have hCQ : CB R p t st (sI N2 46 c (i3 s)) := hC2.mv (S := [46]) (Fr.rf.i (by decide)) (by decide)
      generalize sI N2 46 c (i3 s) = N4 at q40 q41 q46 fQ hCQ ⊢
      have hs40 : N.1 40 s = i3 (-1048576) ∧ N.1 41 s = i3 (-2) := by
        rcases i4 s hs hst with ⟨n, g1, g2, g3, g4, -⟩ | g
        · exact absurd (lr_le (by omega) g2) hw1
        · exact g.2
      refine hk (c + 1) N4 ⟨by omega, hCQ, fQ, fun q hq hq2 => ?_, fun i hi => ?_, fun i hi => ?_, fun i hi q hq eq => ?_, fun hcx i hi q hq eq => ?_⟩
      · exact (i4 q hq hq2).mv (by rw [q40]) (by rw [q41])
      · by_cases hic : i = c
        · subst hic
          exact ⟨s, hs, by rw [q46, up_e], ho, hw1⟩
        · obtain ⟨q, g1, g2, g3⟩ := i5 i (by omega)
          exact ⟨q, g1, by rw [q46, up_n hic, g2], g3⟩
      · rw [q46, up_n (by omega)]
        exact i6 i (by omega)
      · rw [q40, q41, q46]
        by_cases hix : i = x
        · subst hix
          have := same q hq eq
          subst this
          exact ⟨fun h => absurd h hw1, fun _ => ⟨hs40.1, hs40.2, c, by omega, up_e⟩⟩
        · obtain ⟨g1, g2⟩ := i7 i (by omega) q hq eq
          refine ⟨g1, fun h => ?_⟩
          obtain ⟨u1, u2, j, u3, u4⟩ := g2 h
          exact ⟨u1, u2, j, by omega, by rw [up_n (by omega), u4]⟩
      · by_cases hix : i = x
        · subst hix
          rw [same q hq eq]
          exact hw1
        · exact i8 (by omega) i (by omega) q hq eq
  · intro n c N hI
    obtain ⟨i1, i2, i3', i4, i5, i6, i7, i8⟩ := hI
    rw [f_X5_reachRound_5]
    simp (disch := omega) only [i3_lt, i3_le, i3_eq]
    rw [if_pos (by omega), wp_some]
    have inL : ∀ s : Nat, s < 2079 → stP R s → ¬ lrR R p r s → ∃ i, i < n0 ∧ M.1 46 i = i3 s := fun s hs hst hl => hL3 s hs ⟨⟨hst, fun ho => hl (lr_le (Nat.zero_le _) ⟨hst, ho⟩)⟩, hl⟩
    refine ⟨c, rfl, i1, i2, i3', fun s hs hst => ?_, ⟨by omega, i5, fun s hs hp => ?_⟩, fun hc s hw => ?_⟩
    · rcases i4 s hs hst with ⟨n, h1, h2⟩ | ⟨h1, h2⟩
      · exact Or.inl ⟨n, h1, h2⟩
      · obtain ⟨i, g1, g2⟩ := inL s hs hst h1
        obtain ⟨u1, u2⟩ := i7 i g1 s hs g2
        by_cases hw : lrR R p (r + 1) s
        · exact Or.inl ⟨r + 1, Nat.le_refl _, hw, Or.inr h1, (u1 hw).1, (u1 hw).2⟩
        · exact Or.inr ⟨hw, h2⟩
    · obtain ⟨i, g1, g2⟩ := inL s hs hp.1.1 (fun h => hp.2 (Or.inl h))
      exact ((i7 i g1 s hs g2).2 hp.2).2.2
    · apply Classical.byContradiction
      intro hl
      obtain ⟨i, g1, g2⟩ := inL s (st_lt (lr_st _ _ hw)) (lr_st _ _ hw) hl
      exact i8 hc i g1 s (st_lt (lr_st _ _ hw)) g2 hw
  · exact (hBs s hs hst).elim (fun ⟨n, h1, h2⟩ => Or.inl ⟨n, by omega, h2⟩) Or.inr
noncomputable def ncR (R : tR) (p : Int) (s : Nat) : Int := @ite _ (reR R p s = -2) (Classical.propDecidable _) (-1048576) (-(reR R p s))
def nOk (R : tR) (p : Int) (N : gM) : Prop := ∀ s : Nat, s < 2079 → stP R s → N.1 40 s = i3 (ncR R p s) ∧ N.1 41 s = i3 (ldR R p s)
theorem k_rend {R : tR} {p : Int} {r : Nat} {N : gM} (h0 : ∀ m s, lrR R p m s → lrR R p r s) (h : ∀ s : Nat, s < 2079 → stP R s → hB R p r N s) : nOk R p N := by
  intro s hs hst
  unfold ncR ldR
  rcases h s hs hst with ⟨n, h1, h2, h3, h4, h5⟩ | ⟨h1, h2, h3⟩
  · have e := re_e h2 h3
    rw [e, if_neg (by omega), h4, h5]
    refine ⟨rfl, ?_⟩
    congr 1
    by_cases hn : n = 0
    · subst hn
      unfold lqR
      rw [if_pos rfl, if_pos (by omega)]
    · rw [if_neg (by omega)]
      rfl
  · have e := re_n (R := R) (p := p) (s := s) (fun m hm => h1 (h0 m s hm))
    rw [e, if_pos rfl, if_pos (by omega)]
    exact ⟨h2, h3⟩
theorem k_rrounds {R : tR} {p : Int} {t st : Nat} {M0 : gM} : ∀ (n r n0 : Nat) (mo : Bool) (M : gM), r ≤ 2080 → 2080 < n + r → CB R p t st M → Fr (cBt ++ [37, 40, 41, 46]) M0 M → (∀ s : Nat, s < 2079 → stP R s → hB R p r M s) → LsI M n0 (fun s => opP R s ∧ ¬ lrR R p r s) → (mo = false → ∀ m s, lrR R p m s → lrR R p r s) →
    wp (f_X5_findReaches_71 n (i3 n0) (b2i mo) (i3 ((r + 1 : Nat) : Int)) M) (fun _ N => CB R p t st N ∧ Fr (cBt ++ [37, 40, 41, 46]) M0 N ∧ nOk R p N ∧ N.1 37 = M.1 37) := by
  intro n
  induction n with
  | zero => intro r n0 mo M h1 h2; omega
  | succ n ih =>
    intro r n0 mo M h1 h2 hC f hBs hL hmo
    rw [f_X5_findReaches_71]
    simp only [i3_sn]
    simp (disch := omega) only [iL2080, i3_lt, i3_le, i3_eq]
    refine wp_if (fun hx => ?_) (fun hx => ?_)
    · have : r = 2080 := by omega
      subst this
      rw [wp_some]
      exact ⟨hC, f, k_rend (fun m s hs => lr_le (by omega) (lr_top hs)) hBs, rfl⟩
    · simp (disch := omega) only [b2i_0]
      refine wp_if (fun hx2 => ?_) (fun hx2 => ?_)
      · rw [wp_some]
        exact ⟨hC, f, k_rend (hmo hx2) hBs, rfl⟩
      · refine wp_b _ (k_rround (by omega) hC hBs hL) (fun y N hN => ?_)
        obtain ⟨n1, rfl, g1, g2, g3, g4, g5, g6⟩ := hN
        have hL1 := hL.1
        have f2 := f.tr (g3.up (by decide))
        simp (disch := omega) only [i3_lt, i3_le, i3_eq]
        refine wp_if (fun hx3 => ?_) (fun hx3 => ?_)
        · exact wp_mono (ih (r + 1) n1 false N (by omega) (by omega) g2 f2 g4 g5 (fun _ m s hs => Or.inl (lr_all (g6 (by omega)) m s hs))) (fun _ N2 hN => ⟨hN.1, hN.2.1, hN.2.2.1, by rw [hN.2.2.2, g3.e1 (by decide)]⟩)
        · exact wp_mono (ih (r + 1) n1 true N (by omega) (by omega) g2 f2 g4 g5 (fun h => by cases h)) (fun _ N2 hN => ⟨hN.1, hN.2.1, hN.2.2.1, by rw [hN.2.2.2, g3.e1 (by decide)]⟩)
theorem k_r15 {R : tR} {p : Int} {t st : Nat} {M : gM} (hC : CB R p t st M) :
    wp (f_X5_findReaches_15 FU (i3 ((0 : Nat) : Int)) M) (fun _ N => CB R p t st N ∧ Fr (cBt ++ [37, 40, 41, 46]) M N ∧ nOk R p N ∧ N.1 37 = M.1 37) := by
  refine wp_lp (F := fun n x (_ : Unit) M => f_X5_findReaches_15 n (i3 x) M)
    (I := fun x _ N => CB R p t st N ∧ Fr [40, 41] M N ∧ ∀ s : Nat, s < x → N.1 40 s = i3 (@ite _ (ovP R s) (Classical.propDecidable _) 0 (-1048576)) ∧ N.1 41 s = i3 (-2)) 2079 ?_ ?_ FU 0 () M (by omega) (by rw [FU_s]; omega) ⟨hC, Fr.rf, fun s hs => by omega⟩
  · intro n x _ N hx hI hk
    obtain ⟨i2, f, i4⟩ := hI
    rw [f_X5_findReaches_15, k_or i2, k_over i2 hx, g_b_some]
    simp only [i3_sn]
    simp (disch := omega) only [i3_lit, i3_neg, i3_add, i3_sub, i3_mul, i3_lt, i3_le, i3_eq, ck_ok, i3_tn, Int.toNat_natCast, wp_m]
    rw [if_neg (by omega)]
    simp (disch := omega) only [b_if]
    have fin : ∀ v : Int, v = @ite _ (ovP R x) (Classical.propDecidable _) 0 (-1048576) → wp (f_X5_findReaches_15 n (i3 ((x + 1 : Nat) : Int)) (sI (sI N 40 x (i3 v)) 41 x (i3 (-2)))) (fun _ N => CB R p t st N ∧ Fr (cBt ++ [37, 40, 41, 46]) M N ∧ nOk R p N ∧ N.1 37 = M.1 37) := by
      intro v hv
      refine hk () _ ⟨i2.mv (S := [40, 41]) ((Fr.rf.i (by decide)).i (by decide)) (by decide), (f.i (by decide)).i (by decide), fun s hs => ?_⟩
      rw [rI_n (by decide), rI_e, rI_e, rI_n (by decide)]
      by_cases hsx : s = x
      · subst hsx
        rw [up_e, up_e, hv]
        exact ⟨rfl, rfl⟩
      · rw [up_n hsx, up_n hsx]
        exact i4 s (by omega)
    refine wp_if (fun hx2 => ?_) (fun hx2 => ?_)
    · exact fin _ (by rw [if_pos hx2])
    · exact fin _ (by rw [if_neg hx2])
  · intro n _ N hI
    obtain ⟨i2, f, i4⟩ := hI
    rw [f_X5_findReaches_15]
    simp (disch := omega) only [iL2079, i3_lt, i3_le, i3_eq]
    rw [if_pos (by omega)]
    refine wp_b _ (k_list i2) (fun y N2 hN => ?_)
    obtain ⟨n0, rfl, hC2, f2, hL⟩ := hN
    refine wp_mono (k_rrounds (M0 := M) FU 0 n0 true N2 (by omega) (by rw [FU_s]; omega) hC2 ((f.up (by decide)).tr (f2.up (by decide))) (fun s hs hst => ?_) ⟨hL.1, fun i hi => ?_, fun s hs hp => hL.2.2 s hs hp.1⟩ (fun h => by cases h)) (fun _ N3 hN => ⟨hN.1, hN.2.1, hN.2.2.1, ?_⟩)
    · unfold hB
      rw [f2.e1 (by decide), f2.e1 (by decide), (i4 s hs).1, (i4 s hs).2]
      by_cases ho : ovP R s
      · refine Or.inl ⟨0, Nat.le_refl _, ⟨hst, ho⟩, Or.inl rfl, ?_, ?_⟩
        · rw [if_pos ho]; rfl
        · unfold lqR; rw [if_pos rfl]
      · exact Or.inr ⟨fun h => ho h.2, by rw [if_neg ho], rfl⟩
    · obtain ⟨s, g1, g2, g3⟩ := hL.2.1 i hi
      exact ⟨s, g1, g2, g3, fun h => g3.2 h.2⟩
    · rw [hN.2.2.2, f2.e1 (by decide), f.e1 (by decide)]
def rI (R : tR) (p : Int) (M : gM) : Prop := M.1 37 11 = 0 ∨ (M.1 37 11 = 1 ∧ nOk R p M)
theorem k_reaches {R : tR} {p : Int} {t st : Nat} {M : gM} (hC : CB R p t st M) (hF : rI R p M) :
    wp (f_X5_findReaches M) (fun _ N => CB R p t st N ∧ Fr (cBt ++ [37, 40, 41, 46]) M N ∧ nOk R p N ∧ N.1 37 11 = 1 ∧ ∀ j, j ≠ 11 → N.1 37 j = M.1 37 j) := by
  rw [f_X5_findReaches]
  rcases hF with h | ⟨h, hk⟩
  · rw [if_pos h, wp_m]
    have f1 : Fr [37] M (sI M 37 11 1) := Fr.rf.i (by decide)
    refine wp_mono (k_r15 (hC.mv f1 (by decide))) (fun _ N hN => ⟨hN.1, (f1.up (by decide)).tr hN.2.1, hN.2.2.1, ?_, fun j hj => ?_⟩)
    · rw [hN.2.2.2, rI_e, up_e]
    · rw [hN.2.2.2, rI_e, up_n hj]
  · rw [h, if_neg (by decide), wp_some]
    exact ⟨hC, Fr.rf, hk, h, fun j _ => rfl⟩
