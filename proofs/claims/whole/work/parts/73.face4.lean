/-! ===== calls that change what is kept ===== -/
theorem k_drop {R : tR} {p : Int} {L : Nat} {ls : Nat → Nat} {M : gM} (hl : lnI R p L ls M) : wp (f_X3_dropLearned M) (fun r N => r = i3 (L : Int) ∧ Fr [47, 49] M N ∧ (∀ j, j ≠ 2 → j ≠ 4 → N.1 47 j = M.1 47 j) ∧ N.1 47 2 = i3 0 ∧ N.1 47 4 = i3 (-1) ∧ ∀ s : Nat, s < 2079 → N.1 49 s = i3 0) := by
  obtain ⟨⟨l1, l2, l3⟩, h2, h48, h49⟩ := hl
  rw [f_X3_dropLearned, h2, wp_v]
  refine wp_lp (F := fun n (x : Nat) (_ : Unit) M => f_X3_dropLearned_7 n (i3 (L : Int)) (i3 (x : Int)) M) (fun x _ N => Fr [49] M N ∧ ∀ s : Nat, s < 2079 → (¬ ∃ i, x ≤ i ∧ i < L ∧ ls i = s) → N.1 49 s = i3 0) L ?_ ?_ FU 0 () M (by omega) (by rw [FU_s]; omega) ⟨Fr.rf, fun s hs hn => by rw [h49 s hs, if_neg (fun ⟨i, h3, h4⟩ => hn ⟨i, by omega, h3, h4⟩)]⟩
  · intro n x c N hx hI hn
    obtain ⟨f, hI⟩ := hI
    show wp (f_X3_dropLearned_7 (n + 1) (i3 (L : Int)) (i3 (x : Int)) N) _
    have hq := st_lt (sf_st (l2 x hx).1)
    rw [f_X3_dropLearned_7, f.e1 (by decide), h2, show (40 : Int32) = i3 40 from rfl]
    simp (disch := omega) only [i3_le]
    rw [if_neg (by omega), if_neg (by omega), ck_ok (by omega) (by omega) (by omega), tn_n (by omega), f.e1 (by decide), h48 x hx, ck_ok (by omega) (by omega) (by omega), tn_n (by omega), wp_m, i3_s1]
    refine hn () _ ⟨f.i (by decide), fun s hs hns => ?_⟩
    rw [rI_e]
    by_cases e : s = ls x
    · subst e
      rw [up_e]
      rfl
    · rw [up_n e]
      refine hI s hs (fun ⟨i, h3, h4, h5⟩ => ?_)
      by_cases ei : i = x
      · subst ei
        exact e h5.symm
      · exact hns ⟨i, by omega, h4, h5⟩
  · intro n c N hI
    obtain ⟨f, hI⟩ := hI
    show wp (f_X3_dropLearned_7 (n + 1) (i3 (L : Int)) (i3 (L : Int)) N) _
    rw [f_X3_dropLearned_7, f.e1 (by decide), h2]
    simp (disch := omega) only [i3_le]
    rw [if_pos (by omega), wp_m, wp_m, wp_some]
    refine ⟨rfl, ((f.up (by decide)).i (by decide)).i (by decide), fun j j1 j2 => ?_, ?_, ?_, fun s hs => ?_⟩
    · rw [rI_e, up_n j2, rI_e, up_n j1, f.e1 (by decide)]
    · rw [rI_e, up_n (by decide), rI_e, up_e]
      rfl
    · rw [rI_e, up_e]
      rfl
    · rw [rI_n (by decide), rI_n (by decide)]
      exact hI s hs (fun ⟨i, h3, h4, _⟩ => by omega)
theorem ln_0 {R : tR} {p : Int} {ls : Nat → Nat} {N : gM} (h2 : N.1 47 2 = i3 0) (h : ∀ s : Nat, s < 2079 → N.1 49 s = i3 0) : lnI R p 0 ls N := ⟨⟨by omega, fun i hi => by omega, fun i j hi => by omega⟩, h2, fun i hi => by omega, fun s hs => by rw [h s hs, if_neg (fun ⟨i, h3, _⟩ => by omega)]⟩
abbrev cSe : List Nat := [0, 27, 37, 47, 49, 57, 66]
theorem k_set9 {R R' : tR} {p p' : Int} {t t' st L : Nat} {ls : Nat → Nat} {M : gM} (hC : CB R p t st M) (hst : st + 1 < 65536) (hR : tOk R') (hp : 1 ≤ p' ∧ p' ≤ 4) (ht : t' = 3 ∨ t' = 12) (hr : Rp1 (sI M 0 3 (i3 p')) t' R') (h4 : M.2.2 0 4 = t') (hl : lnI R p L ls M) : wp (f_X9_settle (i3 p') M) (fun _ N => CB R' p' t' (st + 1) N ∧ Fr cSe M N ∧ N.2.2 0 = M.2.2 0 ∧ (∀ j, j ≠ 3 → N.1 0 j = M.1 0 j) ∧ N.1 0 3 = i3 p' ∧ (N.1 37 10 = 0 ∧ N.1 37 11 = 0 ∧ N.1 37 12 = i3 (-1) ∧ N.1 37 13 = M.1 37 13) ∧ (∀ ls' : Nat → Nat, lnI R' p' 0 ls' N) ∧ N.1 47 4 = i3 (-1) ∧ N.1 57 4 = i3 (-1) ∧ (∀ j, j ≠ 4 → N.1 57 j = M.1 57 j) ∧ N.1 66 0 = i3 (-1)) := by
  rw [f_X9_settle, wp_m, rI_2, h4, or_ok ht]
  have f0 : Fr [0] M (sI M 0 3 (i3 p')) := Fr.rf.i (by decide)
  refine wp_b _ (k_settle (hC.mv f0 (by decide)) hst hR hp ht hr) (fun _ N1 hN1 => ?_)
  obtain ⟨c1, f1⟩ := hN1
  rw [f_X5_dropPole, g_m, g_m, g_m, g_b_some]
  have f2 : Fr [37] N1 (sI (sI (sI N1 37 10 0) 37 11 0) 37 12 (-1)) := ((Fr.rf.i (by decide)).i (by decide)).i (by decide)
  have hl2 : lnI R p L ls (sI (sI (sI N1 37 10 0) 37 11 0) 37 12 (-1)) := hl.c (by rw [f2.e1 (by decide), f1.e1 (by decide), f0.e1 (by decide)]) (by rw [f2.e1 (by decide), f1.e1 (by decide), f0.e1 (by decide)]) (by rw [f2.e1 (by decide), f1.e1 (by decide), f0.e1 (by decide)])
  refine wp_b _ (k_drop hl2) (fun _ N3 hN3 => ?_)
  obtain ⟨-, f3, g5, g6, g7, g8⟩ := hN3
  rw [f_X6_dropPlan, g_m, g_b_some, f_X8_leave, g_m, g_b_some, wp_some]
  have f4 : Fr [57, 66] N3 (sI (sI N3 57 4 (-1)) 66 0 (-1)) := (Fr.rf.i (by decide)).i (by decide)
  refine ⟨((c1.mv f2 (by decide)).mv f3 (by decide)).mv f4 (by decide), ((((f0.up (by decide)).tr (f1.up (by decide))).tr (f2.up (by decide))).tr (f3.up (by decide))).tr (f4.up (by decide)), ?_, fun j hj => ?_, ?_, ?_, fun ls' => ln_0 ?_ (fun s hs => ?_), ?_, ?_, fun j hj => ?_, ?_⟩
  · rw [f4.e3 (by decide), f3.e3 (by decide), f2.e3 (by decide), f1.e3 (by decide), rI_2]
  · rw [f4.e1 (by decide), f3.e1 (by decide), f2.e1 (by decide), f1.e1 (by decide), rI_e, up_n hj]
  · rw [f4.e1 (by decide), f3.e1 (by decide), f2.e1 (by decide), f1.e1 (by decide), rI_e, up_e]
  · rw [f4.e1 (by decide), f3.e1 (by decide), rI_e, rI_e, rI_e]
    refine ⟨?_, ?_, ?_, ?_⟩
    · rw [up_n (by decide), up_n (by decide), up_e]
    · rw [up_n (by decide), up_e]
    · rw [up_e]; rfl
    · rw [up_n (by decide), up_n (by decide), up_n (by decide), f1.e1 (by decide), f0.e1 (by decide)]
  · rw [f4.e1 (by decide), g6]
  · rw [f4.e1 (by decide), g8 s hs]
  · rw [f4.e1 (by decide), g7]
  · rw [rI_n (by decide), rI_e, up_e]; rfl
  · rw [rI_n (by decide), rI_e, up_n hj, f3.e1 (by decide), f2.e1 (by decide), f1.e1 (by decide), f0.e1 (by decide)]
  · rw [rI_e, up_e]; rfl
section
variable {S : eT'} {t st mt : Nat} {M N : gM}
def uPo (S : eT') (p : Int) : eT' := ((eR S, p), S.2.1, (0, eLs S), (-1, eWs S, eWa S, eWg S), S.2.2.2.2)
theorem ok_Po (h : sOk S) {p : Int} (hp : 1 ≤ p ∧ p ≤ 4) : sOk (uPo S p) := by
  obtain ⟨o1, o2, o3, o4, o5, o6, o7, o8⟩ := h
  exact ⟨o1, hp, o3, ⟨Nat.zero_le _, fun i hi => absurd hi (Nat.not_lt_zero _), fun i j hi => absurd hi (Nat.not_lt_zero _)⟩, ⟨Int.le_refl _, (by show (-1 : Int) ≤ 200; decide), fun i hi => (by have hi : (i : Int) < -1 := hi; omega), fun hi => (by have hi : (0 : Int) ≤ -1 := hi; omega)⟩, o6, o7, o8⟩
def uPz (S : eT') (z : Int) : eT' := if 1 ≤ z ∧ z ≤ 4 then uPo S z else S
theorem K_pole (h : CI S t st mt M) (hst : st + 1 < 65536) {z : Int} (hz : -2147483648 ≤ z ∧ z < 2147483648) : wp (f_X9_pole (i3 z) M) (fun r N => r = b_ (1 ≤ z ∧ z ≤ 4) ∧ ∃ st2, st2 ≤ st + 1 ∧ CI (uPz S z) t st2 mt N) := by
  rw [f_X9_pole]
  unfold uPz
  simp (disch := omega) only [iL1, iL4, i3_lt, i3_le]
  refine wp_if (fun h1 => ?_) (fun h1 => ?_)
  · rw [wp_some, if_neg (by omega), b_f (by omega)]
    exact ⟨rfl, st, by omega, h⟩
  · refine wp_if (fun h2 => ?_) (fun h2 => ?_)
    · have hp : 1 ≤ z ∧ z ≤ 4 := ⟨by omega, h2⟩
      obtain ⟨⟨a1, a2, a3, a4, a5⟩, ⟨b1, b2, b3, b4⟩, ⟨c1, c2⟩, ⟨d1, d2, d3⟩, ⟨w1, w2, w3, w4⟩⟩ := id h
      have f0 : Fr [0] M (sI M 0 3 (i3 z)) := Fr.rf.i (by decide)
      have hr : Rp1 (sI M 0 3 (i3 z)) t (eR S) := (a2.mv f0 (by decide)).1.2.2.2.2.2
      refine wp_b _ (k_set9 a2 hst a1.1 hp a2.1.2.2.1 hr a3 c1) (fun _ N hN => ?_)
      obtain ⟨g1, f, g2, g3, g4, ⟨g5, g6, g7, g8⟩, g9, g10, g11, g12, g13⟩ := hN
      rw [wp_some, if_pos hp, b_t hp]
      refine ⟨rfl, st + 1, by omega, ⟨ok_Po a1 hp, g1, by rw [g2, a3], by rw [g2, a4], g4⟩, ⟨Or.inl g5, Or.inl g6, Or.inl g7, b4.c g8 (f.e1 (by decide))⟩, ⟨g9 _, Or.inl g10⟩, ⟨d1.c (g12 1 (by decide)) (f.e1 (by decide)), Or.inl g11, d3.c (g12 12 (by decide)) (f.e1 (by decide))⟩, ⟨⟨g13, fun i hi => ?_, fun i hi => ?_⟩, w2.c (f.e1 (by decide)), w3.c (g3 1 (by decide)) (f.e1 (by decide)), by rw [g3 2 (by decide)]; exact w4⟩⟩
      · have hi : (i : Int) ≤ -1 := hi
        omega
      · have hi : (i : Int) < -1 := hi
        omega
    · rw [wp_some, if_neg (by omega), b_f (by omega)]
      exact ⟨rfl, st, by omega, h⟩
def uBk (S : eT') (n : Int) : eT' := if 0 ≤ n ∧ n ≤ eTp S then (S.1, S.2.1, S.2.2.1, S.2.2.2.1, S.2.2.2.2.1, (eTp S - n.toNat, eTb S), eFp S) else S
def aBk (S : eT') (n : Int) : Int := if 0 ≤ n ∧ n ≤ eTp S then (eTp S : Int) - n else -1
theorem K_back (h : CI S t st mt M) {z : Int} (hz : -2147483648 ≤ z ∧ z < 2147483648) : wp (f_X9_back (i3 z) M) (fun r N => r = i3 (aBk S z) ∧ CI (uBk S z) t st mt N) := by
  have hT := h.1.1.2.2.2.2.2.2.1.1
  rw [f_X9_back, h.2.2.2.2.2.2.1.1]
  unfold uBk aBk
  simp (disch := omega) only [iL0, i3_lt, i3_le]
  refine wp_if (fun h1 => ?_) (fun h1 => ?_)
  · rw [wp_some, if_neg (by omega), if_neg (by omega)]
    exact ⟨rfl, h⟩
  · refine wp_if (fun h2 => ?_) (fun h2 => ?_)
    · have hp : 0 ≤ z ∧ z ≤ eTp S := ⟨by omega, h2⟩
      rw [wp_m, wp_some, if_pos hp, if_pos hp, rI_e, up_e, i3_sub]
      have f : Fr [0] M (sI M 0 1 (i3 ((eTp S : Int) - z))) := Fr.rf.i (by decide)
      obtain ⟨⟨a1, a2, a3, a4, a5⟩, q2, q3, q4, ⟨w1, w2, w3, w4⟩⟩ := id h
      obtain ⟨o1, o2, o3, o4, o5, o6, o7, o8⟩ := a1
      refine ⟨rfl, ⟨⟨o1, o2, o3, o4, o5, o6, ⟨Nat.le_trans (Nat.sub_le _ _) o7.1, fun i hi => o7.2 i (Nat.lt_of_lt_of_le hi (Nat.sub_le _ _))⟩, o8⟩, a2.mv f (by decide), a3, a4, by rw [rI_e, up_n (by decide)]; exact a5⟩, g2_f q2 f (by decide), g3_f q3 f (by decide), g4_f q4 f (by decide), ⟨w1.c (f.e1 (by decide)) (f.e1 (by decide)) (f.e1 (by decide)) (f.e1 (by decide)), w2.c (f.e1 (by decide)), ⟨?_, fun i hi => ?_⟩, by rw [rI_e, up_n (by decide)]; exact w4⟩⟩
      · rw [rI_e, up_e]
        show i3 _ = i3 ((eTp S - z.toNat : Nat) : Int)
        rw [show (eTp S : Int) - z = ((eTp S - z.toNat : Nat) : Int) by omega]
      · rw [rI_n (by decide)]
        exact w3.2 i (Nat.lt_of_lt_of_le hi (Nat.sub_le _ _))
    · rw [wp_some, if_neg (by omega), if_neg (by omega)]
      exact ⟨rfl, h⟩
theorem K_place (h : CI S t st mt M) : wp (f_X9_place M) (fun r N => r = i3 (eFp S) ∧ CI S t st mt N) := by
  rw [f_X9_place, wp_some]
  exact ⟨h.2.2.2.2.2.2.2, h⟩
def uFc (S : eT') (g : Int) : eT' := if (-12 ≤ g ∧ g ≤ 12) ∧ eF S < 24 then (S.1, (fun b => if b = eF S then g else eFc S b, eF S + 1), S.2.2) else S
def aFc (S : eT') (g : Int) : Int := if (-12 ≤ g ∧ g ≤ 12) ∧ eF S < 24 then (eF S : Int) + 1 else -1
theorem K_forecast (h : CI S t st mt M) {g : Int} (hg : -2147483648 ≤ g ∧ g < 2147483648) : wp (f_X9_forecast (i3 g) M) (fun r N => r = i3 (aFc S g) ∧ CI (uFc S g) t st mt N) := by
  have hF := h.2.2.2.1.1
  rw [f_X9_forecast, k_isF hg, g_b_some, b_if]
  unfold uFc aFc
  refine wp_if (fun h1 => ?_) (fun h1 => ?_)
  · rw [f_X6_addForecast, hF.2.1]
    have hF1 := hF.1
    by_cases h2 : eF S < 24
    · rw [if_pos (show i3 (eF S : Int) < (24 : Int32) by rw [iL24, i3_lt (by omega) (by omega) (by omega) (by omega)]; omega), ck_ok (by omega) (by omega) (by omega), tn_n (by omega), g_m, g_m, g_m, g_b_some, wp_some, if_pos ⟨h1, h2⟩, if_pos ⟨h1, h2⟩]
      have f : Fr [57, 58] M (sI (sI (sI M 58 (eF S) (i3 g)) 57 1 ((sI M 58 (eF S) (i3 g)).1 57 1 + 1)) 57 4 (-1)) := ((Fr.rf.i (by decide)).i (by decide)).i (by decide)
      obtain ⟨⟨a1, a2, a3, a4, a5⟩, q2, q3, ⟨d1, d2, d3⟩, q5⟩ := id h
      obtain ⟨o1, o2, o3, o4, o5, o6, o7, o8⟩ := a1
      have hfc : ∀ b : Nat, b < eF S + 1 → -12 ≤ (if b = eF S then g else eFc S b) ∧ (if b = eF S then g else eFc S b) ≤ 12 := by
        intro b hb
        by_cases e : b = eF S
        · rw [if_pos e]; exact h1
        · rw [if_neg e]; exact o3.2 b (by omega)
      have e1 : (sI (sI (sI M 58 (eF S) (i3 g)) 57 1 ((sI M 58 (eF S) (i3 g)).1 57 1 + 1)) 57 4 (-1)).1 57 1 = i3 ((eF S + 1 : Nat) : Int) := by
        rw [rI_e, up_n (by decide), rI_e, up_e, rI_n (by decide), hF.2.1, i3_s1]
        rfl
      refine ⟨by rw [e1]; rfl, ⟨⟨o1, o2, ⟨h2, hfc⟩, o4, o5, o6, o7, o8⟩, a2.mv f (by decide), a3, a4, a5⟩, g2_f q2 f (by decide), g3_f q3 f (by decide), ⟨⟨h2, e1, fun b hb => ⟨?_, hfc b hb⟩⟩, Or.inl (by rw [rI_e, up_e]; rfl), d3.c (by rw [rI_e, up_n (by decide), rI_e, up_n (by decide), rI_n (by decide)]) (f.e1 (by decide))⟩, g5_f q5 f (by decide)⟩
      rw [rI_n (by decide), rI_n (by decide), rI_e]
      show upd _ _ _ b = i3 (if b = eF S then g else eFc S b)
      by_cases e : b = eF S
      · rw [if_pos e, e, up_e]
      · rw [if_neg e, up_n e, (hF.2.2 b (by have hb : b < eF S + 1 := hb; omega)).1]
    · rw [if_neg (show ¬ i3 (eF S : Int) < (24 : Int32) by rw [iL24, i3_lt (by omega) (by omega) (by omega) (by omega)]; omega), g_b_some, wp_some, if_neg (fun g => h2 g.2), if_neg (fun g => h2 g.2)]
      exact ⟨rfl, h⟩
  · rw [wp_some, if_neg (fun g => h1 g.1), if_neg (fun g => h1 g.1)]
    exact ⟨rfl, h⟩
def uCl (S : eT') : eT' := (S.1, (eFc S, 0), S.2.2)
theorem K_clear (h : CI S t st mt M) : wp (f_X9_clear M) (fun _ N => CI (uCl S) t st mt N) := by
  rw [f_X9_clear, f_X6_dropForecasts, g_m, g_m, g_b_some, wp_some]
  have f : Fr [57] M (sI (sI M 57 1 0) 57 4 (-1)) := (Fr.rf.i (by decide)).i (by decide)
  obtain ⟨⟨a1, a2, a3, a4, a5⟩, q2, q3, ⟨d1, d2, d3⟩, q5⟩ := id h
  obtain ⟨o1, o2, o3, o4, o5, o6, o7, o8⟩ := a1
  exact ⟨⟨⟨o1, o2, ⟨Nat.zero_le _, fun b hb => absurd hb (Nat.not_lt_zero _)⟩, o4, o5, o6, o7, o8⟩, a2.mv f (by decide), a3, a4, a5⟩, g2_f q2 f (by decide), g3_f q3 f (by decide), ⟨⟨Nat.zero_le _, by rw [rI_e, up_n (by decide), rI_e, up_e]; rfl, fun b hb => absurd hb (Nat.not_lt_zero _)⟩, Or.inl (by rw [rI_e, up_e]; rfl), d3.c (by rw [rI_e, up_n (by decide), rI_e, up_n (by decide)]) (f.e1 (by decide))⟩, g5_f q5 f (by decide)⟩
def uFo (S : eT') : eT' := (S.1, S.2.1, (0, eLs S), S.2.2.2)
theorem ok_Fo (h : sOk S) : sOk (uFo S) := by
  obtain ⟨o1, o2, o3, o4, o5, o6, o7, o8⟩ := h
  exact ⟨o1, o2, o3, ⟨Nat.zero_le _, fun i hi => absurd hi (Nat.not_lt_zero _), fun i j hi => absurd hi (Nat.not_lt_zero _)⟩, o5, o6, o7, o8⟩
theorem K_forget (h : CI S t st mt M) : wp (f_X9_forget M) (fun r N => r = i3 (eL S) ∧ CI (uFo S) t st mt N) := by
  rw [f_X9_forget]
  obtain ⟨⟨a1, a2, a3, a4, a5⟩, q2, ⟨c1, c2⟩, q4, q5⟩ := id h
  refine wp_b _ (k_drop c1) (fun r N hN => ?_)
  obtain ⟨rfl, f, g5, g6, g7, g8⟩ := hN
  rw [wp_some]
  exact ⟨rfl, ⟨ok_Fo a1, a2.mv f (by decide), by rw [f.e3 (by decide), a3], by rw [f.e3 (by decide), a4], by rw [f.e1 (by decide)]; exact a5⟩, g2_f q2 f (by decide), ⟨ln_0 g6 g8, Or.inl g7⟩, g4_f q4 f (by decide), g5_f q5 f (by decide)⟩
end
