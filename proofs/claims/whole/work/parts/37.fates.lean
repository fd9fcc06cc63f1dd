/-! ===== the class's FATES ===== -/
/-- a STATE at the beginning of round r -/
def fB (R : tR) (p : Int) (r : Nat) (N : gM) (s : Nat) : Prop := (¬ stP R s ∧ N.1 38 s = i3 (-1) ∧ N.1 39 s = i3 (-2)) ∨ (stP R s ∧ ovP R s ∧ N.1 38 s = i3 1048576 ∧ N.1 39 s = i3 (-2)) ∨ (¬ ovP R s ∧ wfR R p 0 r s ∧ N.1 38 s = i3 1048576 ∧ N.1 39 s = i3 (kqR R p r s)) ∨ (¬ ovP R s ∧ ∃ n : Nat, n < r ∧ wfR R p 0 n s ∧ ¬ wfR R p 0 (n + 1) s ∧ N.1 38 s = i3 n ∧ N.1 39 s = i3 (kqR R p n s))
/-- and within it -/
def fS (R : tR) (p : Int) (r : Nat) (N : gM) (s : Nat) : Prop := (¬ stP R s ∧ N.1 38 s = i3 (-1) ∧ N.1 39 s = i3 (-2)) ∨ (stP R s ∧ ovP R s ∧ N.1 38 s = i3 1048576 ∧ N.1 39 s = i3 (-2)) ∨ (¬ ovP R s ∧ wfR R p 0 r s ∧ N.1 38 s = i3 1048576 ∧ (N.1 39 s = i3 (kqR R p r s) ∨ wfR R p 0 (r + 1) s ∧ N.1 39 s = i3 (kqR R p (r + 1) s))) ∨ (¬ ovP R s ∧ ∃ n : Nat, n ≤ r ∧ wfR R p 0 n s ∧ ¬ wfR R p 0 (n + 1) s ∧ N.1 38 s = i3 n ∧ N.1 39 s = i3 (kqR R p n s))
theorem fB.S {R : tR} {p : Int} {r s : Nat} {N : gM} (h : fB R p r N s) : fS R p r N s := by
  rcases h with h | h | h | ⟨h, n, h1, h2⟩
  · exact Or.inl h
  · exact Or.inr (Or.inl h)
  · exact Or.inr (Or.inr (Or.inl ⟨h.1, h.2.1, h.2.2.1, Or.inl h.2.2.2⟩))
  · exact Or.inr (Or.inr (Or.inr ⟨h, n, by omega, h2⟩))
theorem fS.mv {R : tR} {p : Int} {r s : Nat} {N N' : gM} (h : fS R p r N s) (e1 : N'.1 38 s = N.1 38 s) (e2 : N'.1 39 s = N.1 39 s) : fS R p r N' s := by
  unfold fS
  rw [e1, e2]
  exact h
theorem wf_ov {R : tR} {p k : Int} {s : Nat} (h1 : stP R s) (h2 : ovP R s) : ∀ n, wfR R p k n s := by
  intro n
  cases n with
  | zero => exact h1
  | succ n => exact ⟨h1, Or.inl h2⟩
theorem fS.fl {R : tR} {p : Int} {r s : Nat} {N : gM} (hr : r ≤ 5000) (h : fS R p r N s) : i3 (r : Int) ≤ N.1 38 s ↔ wfR R p 0 r s := by
  rcases h with ⟨h1, h2, -⟩ | ⟨h1, h2, h3, -⟩ | ⟨h1, h2, h3, -⟩ | ⟨h1, n, h2, h3, h4, h5, -⟩
  · rw [h2]
    simp (disch := omega) only [i3_le]
    exact ⟨fun h => by omega, fun h => absurd (wf_st h) h1⟩
  · rw [h3]
    simp (disch := omega) only [i3_le]
    exact ⟨fun _ => wf_ov h1 h2 _, fun _ => by omega⟩
  · rw [h3]
    simp (disch := omega) only [i3_le]
    exact ⟨fun _ => h2, fun _ => by omega⟩
  · rw [h5]
    simp (disch := omega) only [i3_le]
    constructor
    · intro h
      have : n = r := by omega
      subst this
      exact h3
    · intro h
      by_cases hn : n = r
      · omega
      · exact absurd (wf_le (by omega) h) h4
theorem kq_r {R : tR} {p : Int} {n s : Nat} : -2 ≤ kqR R p n s ∧ kqR R p n s ≤ 5 := by
  unfold kqR
  rcases leA_x (P := fun a => caP R p s a ∧ (n = 0 ∨ gdP R p (wfR R p 0 (n - 1)) 0 s a)) (n := 6) (-2) with ⟨a, h1, -, -, h4⟩ | ⟨-, h⟩ <;> omega
/-- what the search from a lower bound on finds -/
theorem le_from {P : Nat → Prop} {f : Int} (h : ∀ b : Nat, P b → f ≤ b) : leA (fun b => f ≤ b ∧ P b) 6 (-1) = leA P 6 (-1) := leA_c (fun b _ => ⟨fun h => h.2, fun hp => ⟨h b hp, hp⟩⟩)
theorem kq_low {R : tR} {p : Int} {n m s b : Nat} (hn : m ≤ n + 1) (hc : caP R p s b) (hg : gdP R p (wfR R p 0 n) 0 s b) (hb : b < 6) : kqR R p m s ≤ b := by
  unfold kqR
  rcases leA_x (P := fun a => caP R p s a ∧ (m = 0 ∨ gdP R p (wfR R p 0 (m - 1)) 0 s a)) (n := 6) (-2) with ⟨a, h1, h2, h3, h4⟩ | ⟨h, h'⟩
  · rw [h4]
    by_cases hab : a ≤ b
    · omega
    · exact absurd ⟨hc, Or.inr (gd_m (fun t ht => wf_le (by omega) ht) hg)⟩ (h3 b (by omega))
  · omega
theorem ca_6 {R : tR} (hR : tOk R) {p : Int} {s a : Nat} (h : caP R p s a) : a < 6 := by
  have h1 := h.1
  have h2 := hR.2.1
  omega
/-- one round: which STATES are left -/
theorem k_fround {R : tR} {p : Int} {t st r n0 : Nat} (hr : r ≤ 2080) {M : gM} (hC : CB R p t st M) (hB : ∀ s : Nat, s < 2079 → fB R p r M s) (hL : LsI M n0 (fun s => opP R s ∧ wfR R p 0 r s)) :
    wp (f_X5_fateRound (i3 ((r + 1 : Nat) : Int)) (i3 n0) M) (fun y N => ∃ n1 : Nat, y = i3 n1 ∧ n1 ≤ n0 ∧ CB R p t st N ∧ Fr (cBt ++ [38, 39, 46]) M N ∧ (∀ s : Nat, s < 2079 → fB R p (r + 1) N s) ∧ LsI N n1 (fun s => opP R s ∧ wfR R p 0 (r + 1) s) ∧ (n1 = n0 → ∀ s, wfR R p 0 r s → wfR R p 0 (r + 1) s)) := by
  have hR := hC.1.1
  obtain ⟨hL1, hL2, hL3⟩ := hL
  rw [f_X5_fateRound]
  refine wp_lp (F := fun n x (c : Nat) M => f_X5_fateRound_5 n (i3 ((r + 1 : Nat) : Int)) (i3 n0) (i3 c) (i3 x) M)
    (I := fun x c N => c ≤ x ∧ CB R p t st N ∧ Fr (cBt ++ [38, 39, 46]) M N ∧ (∀ s : Nat, s < 2079 → fS R p r N s) ∧ (∀ i : Nat, i < c → ∃ s : Nat, s < 2079 ∧ N.1 46 i = i3 s ∧ opP R s ∧ wfR R p 0 (r + 1) s) ∧ (∀ i, x ≤ i → N.1 46 i = M.1 46 i) ∧ (∀ i : Nat, i < x → ∀ s : Nat, s < 2079 → M.1 46 i = i3 s → (wfR R p 0 (r + 1) s → N.1 39 s = i3 (kqR R p (r + 1) s) ∧ ∃ j, j < c ∧ N.1 46 j = i3 s) ∧ (¬ wfR R p 0 (r + 1) s → N.1 38 s = i3 r)) ∧ (c = x → ∀ i : Nat, i < x → ∀ s : Nat, s < 2079 → M.1 46 i = i3 s → wfR R p 0 (r + 1) s)) n0 ?_ ?_ FU 0 0 M (by omega) (by rw [FU_s]; omega) ⟨by omega, hC, Fr.rf, fun s hs => (hB s hs).S, fun i hi => by omega, fun i _ => rfl, fun i hi => by omega, fun _ i hi => by omega⟩
  · intro n x c N hx hI hk
    obtain ⟨i1, i2, i3', i4, i5, i6, i7, i8⟩ := hI
    obtain ⟨s, hs, es, ho, hw⟩ := hL2 x hx
    have e46 : N.1 46 x = i3 s := by rw [i6 x (by omega), es]
    have hst : stP R s := ho.1
    -- the STATE as it stands
    have h38 : N.1 39 s = i3 (kqR R p r s) ∨ wfR R p 0 (r + 1) s ∧ N.1 39 s = i3 (kqR R p (r + 1) s) := by
      rcases i4 s hs with h | h | h | ⟨-, n, h1, h2, h3, -, h5⟩
      · exact absurd hst h.1
      · exact absurd h.2.1 ho.2
      · exact h.2.2.2
      · by_cases hn : n = r
        · subst hn; exact Or.inl h5
        · exact absurd (wf_le (by omega) hw) h3
    obtain ⟨fr, e39, hfr, hlow⟩ : ∃ fr : Int, N.1 39 s = i3 fr ∧ (-2 ≤ fr ∧ fr ≤ 6) ∧ ∀ b : Nat, caP R p s b ∧ gdP R p (wfR R p 0 r) 0 s b → fr ≤ b := by
      rcases h38 with h | h
      · exact ⟨_, h, by have := kq_r (R := R) (p := p) (n := r) (s := s); omega, fun b hb => kq_low (by omega) hb.1 hb.2 (ca_6 hR hb.1)⟩
      · exact ⟨_, h.2, by have := kq_r (R := R) (p := p) (n := r + 1) (s := s); omega, fun b hb => kq_low (by omega) hb.1 hb.2 (ca_6 hR hb.1)⟩
    rw [f_X5_fateRound_5]
    simp only [i3_sn]
    simp (disch := omega) only [i3_lit, i3_neg, i3_add, i3_sub, i3_mul, i3_lt, i3_le, i3_eq]
    rw [if_neg (by omega), ck_ok (by omega) (by omega) (by omega), wp_v, i3_tn (by omega) (by omega), Int.toNat_natCast, e46, ck_ok (by omega) (by omega) (by omega), i3_tn (by omega) (by omega), Int.toNat_natCast, e39]
    have er : ((r + 1 : Nat) : Int) - 1 = (r : Int) := by omega
    rw [er]
    refine wp_b _ (k_fg hs (by omega) hfr (by omega) i2 (fun q hq => (i4 q hq).fl (by omega))) (fun y N2 hN => ?_)
    obtain ⟨rfl, hC2, f2⟩ := hN
    rw [le_from hlow]
    have fN : Fr (cBt ++ [38, 39, 46]) M N2 := i3'.tr (f2.up (by decide))
    have k38 : N2.1 38 = N.1 38 := f2.e1 (by decide)
    have k39 : N2.1 39 = N.1 39 := f2.e1 (by decide)
    have k46 : N2.1 46 = N.1 46 := f2.e1 (by decide)
    rcases leA_x (P := fun b => caP R p s b ∧ gdP R p (wfR R p 0 r) 0 s b) (n := 6) (-1) with ⟨a, h1, h2, h3, h4⟩ | ⟨h1, h2⟩
    · have hw1 : wfR R p 0 (r + 1) s := ⟨hst, Or.inr ⟨a, h2⟩⟩
      have hkq : kqR R p (r + 1) s = a := by
        unfold kqR
        exact leA_e h1 ⟨h2.1, Or.inr h2.2⟩ (fun b hb hq => h3 b hb ⟨hq.1, hq.2.elim (fun h => by omega) id⟩)
      rw [h4]
      simp (disch := omega) only [i3_lt, i3_le, i3_eq]
      rw [if_neg (by omega), ck_ok (by omega) (by omega) (by omega), wp_m, ck_ok (by omega) (by omega) (by omega), wp_m]
      simp (disch := omega) only [i3_tn, Int.toNat_natCast]
      have q38 : (sI (sI N2 39 s (i3 a)) 46 c (i3 s)).1 38 = N.1 38 := by rw [rI_n (by decide), rI_n (by decide), k38]
      have q39 : (sI (sI N2 39 s (i3 a)) 46 c (i3 s)).1 39 = upd (N.1 39) s (i3 a) := by rw [rI_n (by decide), rI_e, k39]
      have q46 : (sI (sI N2 39 s (i3 a)) 46 c (i3 s)).1 46 = upd (N.1 46) c (i3 s) := by rw [rI_e, rI_n (by decide), k46]
      have fQ : Fr (cBt ++ [38, 39, 46]) M (sI (sI N2 39 s (i3 a)) 46 c (i3 s)) := (fN.i (by decide)).i (by decide)
      have hCQ : CB R p t st (sI (sI N2 39 s (i3 a)) 46 c (i3 s)) := hC2.mv (S := [39, 46]) ((Fr.rf.i (by decide)).i (by decide)) (by decide)
      generalize sI (sI N2 39 s (i3 a)) 46 c (i3 s) = N4 at q38 q39 q46 fQ hCQ ⊢
      refine hk (c + 1) N4 ⟨by omega, hCQ, fQ, fun q hq => ?_, fun i hi => ?_, fun i hi => ?_, fun i hi q hq eq => ?_, fun hcx i hi q hq eq => ?_⟩
      · by_cases hqs : q = s
        · subst hqs
          rcases i4 q hs with h | h | h | ⟨-, n, h1, h2, h3, -, h5⟩
          · exact absurd hst h.1
          · exact absurd h.2.1 ho.2
          · exact Or.inr (Or.inr (Or.inl ⟨h.1, h.2.1, by rw [q38]; exact h.2.2.1, Or.inr ⟨hw1, by rw [q39, up_e, hkq]⟩⟩))
          · exact absurd (wf_le (by omega) hw1) h3
        · exact (i4 q hq).mv (by rw [q38]) (by rw [q39, up_n hqs])
      · by_cases hic : i = c
        · subst hic
          exact ⟨s, hs, by rw [q46, up_e], ho, hw1⟩
        · obtain ⟨q, g1, g2, g3⟩ := i5 i (by omega)
          exact ⟨q, g1, by rw [q46, up_n hic, g2], g3⟩
      · rw [q46, up_n (by omega)]
        exact i6 i (by omega)
      · by_cases hix : i = x
        · subst hix
          have : q = s := by
            rw [es, i3_eq (by omega) (by omega) (by omega) (by omega)] at eq
            omega
          subst this
          exact ⟨fun _ => ⟨by rw [q39, up_e, hkq], c, by omega, by rw [q46, up_e]⟩, fun h => absurd hw1 h⟩
        · obtain ⟨g1, g2⟩ := i7 i (by omega) q hq eq
          refine ⟨fun h => ?_, fun h => by rw [q38]; exact g2 h⟩
          obtain ⟨u1, j, u2, u3⟩ := g1 h
          refine ⟨?_, j, by omega, by rw [q46, up_n (by omega), u3]⟩
          by_cases hqs : q = s
          · subst hqs
            rw [q39, up_e, hkq]
          · rw [q39, up_n hqs, u1]
      · by_cases hix : i = x
        · subst hix
          have : q = s := by
            rw [es, i3_eq (by omega) (by omega) (by omega) (by omega)] at eq
            omega
          subst this
          exact hw1
        · exact i8 (by omega) i (by omega) q hq eq
    · have hw1 : ¬ wfR R p 0 (r + 1) s := by
        rintro ⟨-, h | ⟨a, h3, h4⟩⟩
        · exact ho.2 h
        · exact h1 a (ca_6 hR h3) ⟨h3, h4⟩
      rw [h2, if_pos rfl, ck_ok (by omega) (by omega) (by omega), wp_m]
      have q38 : (sI N2 38 s (i3 r)).1 38 = upd (N.1 38) s (i3 r) := by rw [rI_e, k38]
      have q39 : (sI N2 38 s (i3 r)).1 39 = N.1 39 := by rw [rI_n (by decide), k39]
      have q46 : (sI N2 38 s (i3 r)).1 46 = N.1 46 := by rw [rI_n (by decide), k46]
      have fQ : Fr (cBt ++ [38, 39, 46]) M (sI N2 38 s (i3 r)) := fN.i (by decide)
      have hCQ : CB R p t st (sI N2 38 s (i3 r)) := hC2.mv (S := [38]) (Fr.rf.i (by decide)) (by decide)
      generalize sI N2 38 s (i3 r) = N4 at q38 q39 q46 fQ hCQ ⊢
      refine hk c N4 ⟨by omega, hCQ, fQ, fun q hq => ?_, fun i hi => ?_, fun i hi => ?_, fun i hi q hq eq => ?_, fun hcx => by omega⟩
      · by_cases hqs : q = s
        · subst hqs
          refine Or.inr (Or.inr (Or.inr ⟨ho.2, r, Nat.le_refl _, hw, hw1, by rw [q38, up_e], ?_⟩))
          rw [q39]
          exact h38.elim id (fun h => absurd h.1 hw1)
        · exact (i4 q hq).mv (by rw [q38, up_n hqs]) (by rw [q39])
      · rw [q46]
        exact i5 i hi
      · rw [q46]
        exact i6 i (by omega)
      · by_cases hix : i = x
        · subst hix
          have : q = s := by
            rw [es, i3_eq (by omega) (by omega) (by omega) (by omega)] at eq
            omega
          subst this
          exact ⟨fun h => absurd h hw1, fun _ => by rw [q38, up_e]⟩
        · obtain ⟨g1, g2⟩ := i7 i (by omega) q hq eq
          refine ⟨fun h => by rw [q39, q46]; exact g1 h, fun h => ?_⟩
          by_cases hqs : q = s
          · subst hqs
            rw [q38, up_e]
          · rw [q38, up_n hqs]
            exact g2 h
  · intro n c N hI
    obtain ⟨i1, i2, i3', i4, i5, i6, i7, i8⟩ := hI
    rw [f_X5_fateRound_5]
    simp (disch := omega) only [i3_lt, i3_le, i3_eq]
    rw [if_pos (by omega), wp_some]
    refine ⟨c, rfl, i1, i2, i3', fun s hs => ?_, ⟨by omega, i5, fun s hs hp => ?_⟩, fun hc s hw => ?_⟩
    · rcases i4 s hs with h | h | h | ⟨h, n, h1, h2, h3, h4, h5⟩
      · exact Or.inl h
      · exact Or.inr (Or.inl h)
      · obtain ⟨i, g1, g2⟩ := hL3 s hs ⟨⟨wf_st h.2.1, h.1⟩, h.2.1⟩
        obtain ⟨u1, u2⟩ := i7 i g1 s hs g2
        by_cases hw : wfR R p 0 (r + 1) s
        · exact Or.inr (Or.inr (Or.inl ⟨h.1, hw, h.2.2.1, (u1 hw).1⟩))
        · exact Or.inr (Or.inr (Or.inr ⟨h.1, r, by omega, h.2.1, hw, u2 hw, h.2.2.2.elim id (fun h => absurd h.1 hw)⟩))
      · exact Or.inr (Or.inr (Or.inr ⟨h, n, by omega, h2, h3, h4, h5⟩))
    · obtain ⟨i, g1, g2⟩ := hL3 s hs ⟨hp.1, wf_d _ _ hp.2⟩
      exact ((i7 i g1 s hs g2).1 hp.2).2
    · by_cases ho : ovP R s
      · exact wf_ov (wf_st hw) ho _
      · obtain ⟨i, g1, g2⟩ := hL3 s (st_lt (wf_st hw)) ⟨⟨wf_st hw, ho⟩, hw⟩
        exact i8 hc i g1 s (st_lt (wf_st hw)) g2
/-- FATE as the class keeps it -/
noncomputable def fcR (R : tR) (p : Int) (s : Nat) : Int := @ite _ (stP R s) (Classical.propDecidable _) (@ite _ (sfR R p 0 s) (Classical.propDecidable _) 1048576 (faR R p s)) (-1)
def fOk (R : tR) (p : Int) (N : gM) : Prop := ∀ s : Nat, s < 2079 → N.1 38 s = i3 (fcR R p s) ∧ N.1 39 s = i3 (keR R p s)
theorem ca_ov {R : tR} {p : Int} {s a : Nat} (h : ovP R s) : ¬ caP R p s a := fun hc => hc.2.1 h
theorem ke_ov {R : tR} {p : Int} {s : Nat} (h : ovP R s) (hs : stP R s) : keR R p s = -2 := by
  have : faR R p s = -2 := leA_d (fun n _ hn => hn (wf_ov hs h _))
  unfold keR
  rw [if_pos this]
  exact leA_d (fun a _ hq => ca_ov h hq.1)
/-- of what is no STATE nothing is asked -/
def keO (R : tR) (p : Int) (N : gM) : Prop := ∀ s : Nat, s < 2079 → N.1 38 s = i3 (fcR R p s) ∧ (stP R s → N.1 39 s = i3 (keR R p s))
theorem k_fend {R : tR} {p : Int} {r : Nat} {N : gM} (h0 : ∀ s, wfR R p 0 r s → sfR R p 0 s) (h : ∀ s : Nat, s < 2079 → fB R p (r + 1) N s) : keO R p N := by
  intro s hs
  rcases h s hs with h | h | h | ⟨h, n, h1, h2, h3, h4, h5⟩
  · refine ⟨?_, fun h1 => absurd h1 h.1⟩
    unfold fcR
    rw [if_neg h.1]
    exact h.2.1
  · refine ⟨?_, fun _ => ?_⟩
    · unfold fcR
      rw [if_pos h.1, if_pos (show sfR R p 0 s from fun n => wf_ov h.1 h.2.1 n)]
      exact h.2.2.1
    · rw [ke_ov h.2.1 h.1]
      exact h.2.2.2
  · have hsf := h0 s (wf_d _ _ h.2.1)
    have hst : stP R s := hsf 0
    have hfa : faR R p s = -2 := leA_d (fun n _ hn => hn (hsf _))
    refine ⟨?_, fun _ => ?_⟩
    · unfold fcR
      rw [if_pos hst, if_pos hsf]
      exact h.2.2.1
    · rw [h.2.2.2]
      unfold keR kqR
      rw [if_pos hfa]
      congr 1
      refine leA_c (fun a _ => ⟨fun hq => ⟨hq.1, hq.2.elim (fun h => by omega) (gd_m h0)⟩, fun hq => ⟨hq.1, Or.inr (gd_m (fun t ht => ht _) hq.2)⟩⟩)
  · have hn : ¬ sfR R p 0 s := fun hq => h3 (hq _)
    have hfa := fa_e h2 h3
    refine ⟨?_, fun _ => ?_⟩
    · unfold fcR
      rw [if_pos (wf_st h2), if_neg hn, hfa]
      exact h4
    · unfold keR
      rw [if_neg (by omega), hfa]
      exact h5
theorem k_frounds {R : tR} {p : Int} {t st : Nat} {M0 : gM} : ∀ (n r n0 : Nat) (mo : Bool) (M : gM), r ≤ 2080 → 2080 < n + r → CB R p t st M → Fr (cBt ++ [37, 38, 39, 46]) M0 M → (∀ s : Nat, s < 2079 → fB R p r M s) → LsI M n0 (fun s => opP R s ∧ wfR R p 0 r s) → (mo = false → 1 ≤ r ∧ ∀ s, wfR R p 0 (r - 1) s → sfR R p 0 s) →
    wp (f_X5_findFates_111 n (i3 n0) (b2i mo) (i3 ((r + 1 : Nat) : Int)) M) (fun _ N => CB R p t st N ∧ Fr (cBt ++ [37, 38, 39, 46]) M0 N ∧ keO R p N ∧ N.1 37 = M.1 37) := by
  intro n
  induction n with
  | zero => intro r n0 mo M h1 h2; omega
  | succ n ih =>
    intro r n0 mo M h1 h2 hC f hB hL hmo
    rw [f_X5_findFates_111]
    simp only [i3_sn]
    simp (disch := omega) only [iL2080, i3_lt, i3_le, i3_eq]
    refine wp_if (fun hx => ?_) (fun hx => ?_)
    · have : r = 2080 := by omega
      subst this
      rw [wp_some]
      exact ⟨hC, f, k_fend (r := 2079) (fun s hs => sf_of hs) hB, rfl⟩
    · simp (disch := omega) only [b2i_0]
      refine wp_if (fun hx2 => ?_) (fun hx2 => ?_)
      · obtain ⟨g1, g2⟩ := hmo hx2
        obtain ⟨r', rfl⟩ : ∃ r', r = r' + 1 := ⟨r - 1, by omega⟩
        rw [wp_some]
        exact ⟨hC, f, k_fend g2 hB, rfl⟩
      · refine wp_b _ (k_fround (by omega) hC hB hL) (fun y N hN => ?_)
        obtain ⟨n1, rfl, g1, g2, g3, g4, g5, g6⟩ := hN
        have hL1 := hL.1
        have f2 := f.tr (g3.up (by decide))
        simp (disch := omega) only [i3_lt, i3_le, i3_eq]
        refine wp_if (fun hx3 => ?_) (fun hx3 => ?_)
        · refine wp_mono (ih (r + 1) n1 false N (by omega) (by omega) g2 f2 g4 g5 (fun _ => ⟨by omega, ?_⟩)) (fun _ N2 hN => ⟨hN.1, hN.2.1, hN.2.2.1, by rw [hN.2.2.2, g3.e1 (by decide)]⟩)
          have hfix := g6 (by omega)
          have up : ∀ j, ∀ s, wfR R p 0 (r + j) s → wfR R p 0 (r + j + 1) s := by
            intro j
            induction j with
            | zero => exact hfix
            | succ j ihj => exact fun s hs => wf_fix _ (fun s _ => ihj s) s (st_lt (wf_st hs)) hs
          intro s hs
          have all : ∀ j, wfR R p 0 (r + j) s := by
            intro j
            induction j with
            | zero => exact hs
            | succ j ihj => exact up j s ihj
          exact fun m => wf_le (by omega) (all m)
        · exact wp_mono (ih (r + 1) n1 true N (by omega) (by omega) g2 f2 g4 g5 (fun h => by cases h)) (fun _ N2 hN => ⟨hN.1, hN.2.1, hN.2.2.1, by rw [hN.2.2.2, g3.e1 (by decide)]⟩)
