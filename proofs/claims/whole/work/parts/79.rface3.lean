/-! ===== the reference's calls that change what is kept ===== -/
section
variable {S : eT'} {h : Nat} {M N : gM}
theorem R_forecast (H : DI S h M) {g : Int} (hg : -2147483648 ≤ g ∧ g < 2147483648) : wp (f_X10_forecast (i3 g) M) (fun r N => r = i3 (aFc S g) ∧ DI (uFc S g) h N) := by
  obtain ⟨⟨a1, a2⟩, b, c, d, e, w⟩ := id H
  have hF := e.1
  rw [f_X10_forecast, e.2.1]
  unfold uFc aFc
  refine wp_if (fun h0 => ?_) (fun h0 => ?_)
  · have h0 := i3_c (by omega) (c := 24) (by omega) h0
    rw [wp_some, if_neg (by omega), if_neg (by omega)]
    exact ⟨rfl, H⟩
  have h0 : eF S < 24 := by
    have : ¬ eF S = 24 := fun e => h0 (by rw [e]; rfl)
    omega
  refine wp_if (fun h1 => ?_) (fun h1 => ?_)
  · rw [show ((-12) : Int32) = i3 (-12) from rfl, i3_lt (by omega) (by omega) (by omega) (by omega)] at h1
    rw [wp_some, if_neg (by omega), if_neg (by omega)]
    exact ⟨rfl, H⟩
  rw [show ((-12) : Int32) = i3 (-12) from rfl, i3_lt (by omega) (by omega) (by omega) (by omega)] at h1
  refine wp_if (fun h2 => ?_) (fun h2 => ?_)
  · rw [iL12, i3_le (by omega) (by omega) (by omega) (by omega)] at h2
    have hp : (-12 ≤ g ∧ g ≤ 12) ∧ eF S < 24 := ⟨⟨by omega, h2⟩, h0⟩
    rw [ck_ok (by omega) (by omega) (by omega), tn_n (by omega), wp_m, wp_m, wp_some, if_pos hp, if_pos hp]
    have f : Fo [38] [48] M (sI (sI M 38 (eF S) (i3 g)) 0 48 ((sI M 38 (eF S) (i3 g)).1 0 48 + 1)) := (Fo.rf.i (by decide) (by decide)).o (by decide)
    have e1 : (sI (sI M 38 (eF S) (i3 g)) 0 48 ((sI M 38 (eF S) (i3 g)).1 0 48 + 1)).1 0 48 = i3 ((eF S + 1 : Nat) : Int) := by
      rw [rI_e, up_e, rI_n (by decide), e.2.1, i3_s1]
      rfl
    obtain ⟨o1, o2, o3, o4, o5, o6, o7, o8⟩ := a1
    have hfc : ∀ b : Nat, b < eF S + 1 → -12 ≤ (if b = eF S then g else eFc S b) ∧ (if b = eF S then g else eFc S b) ≤ 12 := by
      intro b hb
      by_cases e : b = eF S
      · rw [if_pos e]; exact hp.1
      · rw [if_neg e]; exact o3.2 b (by omega)
    refine ⟨by rw [e1]; rfl, ⟨⟨o1, o2, ⟨h0, hfc⟩, o4, o5, o6, o7, o8⟩, a2.mv f (by decide) (by decide)⟩, h2_f b f (by decide) (by decide), h3_f c f (by decide) (by decide), h4_f d f (by decide) (by decide), ⟨h0, e1, fun b hb => ⟨?_, hfc b hb⟩⟩, h6_f w f (by decide) (by decide)⟩
    rw [rI_n (by decide), rI_e]
    show upd _ _ _ b = i3 (if b = eF S then g else eFc S b)
    by_cases eb : b = eF S
    · rw [if_pos eb, eb, up_e]
    · rw [if_neg eb, up_n eb, (e.2.2 b (by have hb : b < eF S + 1 := hb; omega)).1]
  · rw [iL12, i3_le (by omega) (by omega) (by omega) (by omega)] at h2
    rw [wp_some, if_neg (by omega), if_neg (by omega)]
    exact ⟨rfl, H⟩
theorem R_clear (H : DI S h M) : wp (f_X10_clear M) (fun _ N => DI (uCl S) h N) := by
  obtain ⟨⟨a1, a2⟩, b, c, d, e, w⟩ := id H
  obtain ⟨o1, o2, o3, o4, o5, o6, o7, o8⟩ := a1
  rw [f_X10_clear, wp_m, wp_some]
  have f : Fo [] [48] M (sI M 0 48 0) := Fo.rf.o (by decide)
  exact ⟨⟨⟨o1, o2, ⟨Nat.zero_le _, fun b hb => absurd hb (Nat.not_lt_zero _)⟩, o4, o5, o6, o7, o8⟩, a2.mv f (by decide) (by decide)⟩, h2_f b f (by decide) (by decide), h3_f c f (by decide) (by decide), h4_f d f (by decide) (by decide), ⟨Nat.zero_le _, by rw [rI_e, up_e]; rfl, fun b hb => absurd hb (Nat.not_lt_zero _)⟩, h6_f w f (by decide) (by decide)⟩
theorem R_forget (H : DI S h M) : wp (f_X10_forget M) (fun r N => r = i3 (eL S) ∧ DI (uFo S) h N) := by
  obtain ⟨⟨a1, a2⟩, b, c, d, e, w⟩ := id H
  rw [f_X10_forget, wp_v, wp_m, wp_m, wp_some, d.1.2.1]
  have f : Fo [] [50, 76] M (sI (sI M 0 50 0) 0 76 0) := (Fo.rf.o (by decide)).o (by decide)
  exact ⟨rfl, ⟨ok_Fo a1, a2.mv f (by decide) (by decide)⟩, h2_f b f (by decide) (by decide), h3_f c f (by decide) (by decide), ⟨⟨(ok_Fo a1).2.2.2.1, by rw [rI_e, up_n (by decide), rI_e, up_e]; rfl, fun i hi => absurd hi (Nat.not_lt_zero _)⟩, fun _ => Or.inl (by rw [rI_e, up_e])⟩, e.mv f (by decide) (by decide), h6_f w f (by decide) (by decide)⟩
theorem R_place (H : DI S h M) : wp (f_X10_place M) (fun r N => r = i3 (eFp S) ∧ DI S h N) := by
  rw [f_X10_place, wp_some]
  exact ⟨H.2.2.2.2.2.2.2.2, H⟩
theorem R_back (H : DI S h M) {z : Int} (hz : -2147483648 ≤ z ∧ z < 2147483648) : wp (f_X10_back (i3 z) M) (fun r N => r = i3 (aBk S z) ∧ DI (uBk S z) h N) := by
  obtain ⟨⟨a1, a2⟩, b, c, d, e, ⟨w1, w2, w3, w4⟩⟩ := id H
  have hT := a1.2.2.2.2.2.2.1.1
  rw [f_X10_back, w3.1]
  unfold uBk aBk
  refine wp_if (fun h1 => ?_) (fun h1 => ?_)
  · rw [iL0, i3_lt (by omega) (by omega) (by omega) (by omega)] at h1
    rw [wp_some, if_neg (by omega), if_neg (by omega)]
    exact ⟨rfl, H⟩
  rw [iL0, i3_lt (by omega) (by omega) (by omega) (by omega)] at h1
  refine wp_if (fun h2 => ?_) (fun h2 => ?_)
  · rw [i3_le (by omega) (by omega) (by omega) (by omega)] at h2
    have hp : 0 ≤ z ∧ z ≤ eTp S := ⟨by omega, h2⟩
    rw [wp_m, wp_some, if_pos hp, if_pos hp, rI_e, up_e, i3_sub]
    have f : Fo [] [1] M (sI M 0 1 (i3 ((eTp S : Int) - z))) := Fo.rf.o (by decide)
    obtain ⟨o1, o2, o3, o4, o5, o6, o7, o8⟩ := a1
    have w6 : wkJ S (sI M 0 1 (i3 ((eTp S : Int) - z))) ∧ slJ S (sI M 0 1 (i3 ((eTp S : Int) - z))) := by
      unfold wkJ slJ
      rw [f.e0 (by decide), f.e0 (by decide), f.e1 (by decide) (by decide), f.e1 (by decide) (by decide), f.e1 (by decide) (by decide), f.e1 (by decide) (by decide)]
      exact ⟨w1, w2⟩
    refine ⟨rfl, ⟨⟨o1, o2, o3, o4, o5, o6, ⟨Nat.le_trans (Nat.sub_le _ _) o7.1, fun i hi => o7.2 i (Nat.lt_of_lt_of_le hi (Nat.sub_le _ _))⟩, o8⟩, a2.mv f (by decide) (by decide)⟩, h2_f b f (by decide) (by decide), h3_f c f (by decide) (by decide), h4_f d f (by decide) (by decide), e.mv f (by decide) (by decide), ⟨w6.1, w6.2, ⟨?_, fun i hi => ?_⟩, by rw [f.e0 (by decide)]; exact w4⟩⟩
    · rw [rI_e, up_e]
      show i3 _ = i3 ((eTp S - z.toNat : Nat) : Int)
      rw [show (eTp S : Int) - z = ((eTp S - z.toNat : Nat) : Int) by omega]
    · rw [rI_n (by decide)]
      exact w3.2 i (Nat.lt_of_lt_of_le hi (Nat.sub_le _ _))
  · rw [i3_le (by omega) (by omega) (by omega) (by omega)] at h2
    rw [wp_some, if_neg (by omega), if_neg (by omega)]
    exact ⟨rfl, H⟩
theorem R_pole (H : DI S h M) {z : Int} (hz : -2147483648 ≤ z ∧ z < 2147483648) : wp (f_X10_pole (i3 z) M) (fun r N => r = b_ (1 ≤ z ∧ z ≤ 4) ∧ DI (uPz S z) h N) := by
  rw [f_X10_pole]
  unfold uPz
  refine wp_if (fun h1 => ?_) (fun h1 => ?_)
  · rw [iL1, i3_lt (by omega) (by omega) (by omega) (by omega)] at h1
    rw [wp_some, if_neg (by omega), b_f (by omega)]
    exact ⟨rfl, H⟩
  rw [iL1, i3_lt (by omega) (by omega) (by omega) (by omega)] at h1
  refine wp_if (fun h2 => ?_) (fun h2 => ?_)
  · rw [iL4, i3_le (by omega) (by omega) (by omega) (by omega)] at h2
    have hp : 1 ≤ z ∧ z ≤ 4 := ⟨by omega, h2⟩
    obtain ⟨⟨a1, a2⟩, b, c, d, e, ⟨w1, w2, w3, w4⟩⟩ := id H
    rw [wp_m, wp_v, f_X10_afresh, g_m, g_m, g_m, g_m, g_m, g_b_some, rI_e (k := 0) (j := 47), up_n (by decide), zo_ok (c.elim Or.inl (fun g => Or.inr g.1)), wp_m, wp_some, if_pos hp, b_t hp]
    have f : Fo [] [50, 53, 54, 72, 73] (sI M 0 47 (i3 z)) (sI (sI (sI (sI (sI (sI (sI M 0 47 (i3 z)) 0 50 0) 0 53 0) 0 54 0) 0 72 0) 0 73 0) 0 73 (M.1 0 73)) := (((((Fo.rf.o (by decide)).o (by decide)).o (by decide)).o (by decide)).o (by decide)).o (by decide)
    have f0 : Fo [] [47] M (sI M 0 47 (i3 z)) := Fo.rf.o (by decide)
    generalize eN : sI (sI (sI (sI (sI (sI (sI M 0 47 (i3 z)) 0 50 0) 0 53 0) 0 54 0) 0 72 0) 0 73 0) 0 73 (M.1 0 73) = N at f ⊢
    have e72 : N.1 0 72 = 0 := by rw [← eN, rI_e, up_n (by decide), rI_e, up_n (by decide), rI_e, up_e]
    have e73 : N.1 0 73 = M.1 0 73 := by rw [← eN, rI_e, up_e]
    have e53 : N.1 0 53 = 0 := by rw [← eN, rI_e, up_n (by decide), rI_e, up_n (by decide), rI_e, up_n (by decide), rI_e, up_n (by decide), rI_e, up_e]
    have e50 : N.1 0 50 = 0 := by rw [← eN, rI_e, up_n (by decide), rI_e, up_n (by decide), rI_e, up_n (by decide), rI_e, up_n (by decide), rI_e, up_n (by decide), rI_e, up_e]
    have n1 : ¬ N.1 0 72 = 1 := by rw [e72]; decide
    have g1 : ∀ k, k ≠ 0 → N.1 k = M.1 k := fun k hk => by rw [f.e1 hk (List.not_mem_nil), f0.e1 hk (List.not_mem_nil)]
    have hO := ok_Po a1 hp
    refine ⟨rfl, ⟨hO, (a2.pole hp).mv f (by decide) (by decide)⟩, ⟨Or.inl e72, fun g => absurd g n1, fun g => absurd g n1⟩, ?_, ⟨⟨hO.2.2.2.1, by rw [e50]; rfl, fun i hi => absurd hi (Nat.not_lt_zero _)⟩, fun g => absurd g n1⟩, (e.mv f0 (by decide) (by decide)).mv f (by decide) (by decide), ⟨⟨Or.inl ⟨e53, ?_⟩, fun i hi => ?_, fun i hi => ?_⟩, ?_, ?_, by rw [f.e0 (by decide), f0.e0 (by decide)]; exact w4⟩⟩
    · unfold xK xOk
      rw [e73, g1 54 (by decide)]
      exact c
    · show (-1 : Int) < 0
      decide
    · have hi : (i : Int) ≤ -1 := hi
      omega
    · have hi : (i : Int) < -1 := hi
      omega
    · unfold slJ
      rw [g1 44 (by decide)]
      exact w2
    · unfold tpJ
      rw [g1 1 (by decide), f.e0 (by decide), f0.e0 (by decide)]
      exact w3
  · rw [iL4, i3_le (by omega) (by omega) (by omega) (by omega)] at h2
    rw [wp_some, if_neg (by omega), b_f (by omega)]
    exact ⟨rfl, H⟩
end
