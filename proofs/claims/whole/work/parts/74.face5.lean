/-! ===== the walk, the slots, the counts: the class ===== -/
section
variable {S : eT'} {t st mt : Nat} {M N : gM}
def uSd (S : eT') (z : Int) : eT' := (S.1, S.2.1, S.2.2.1, (0, fun _ => z, eWa S, eWg S), S.2.2.2.2)
noncomputable def uSz (S : eT') (z : Int) : eT' := @ite _ (stP (eR S) z) (Classical.propDecidable _) (uSd S z) S
theorem ok_Sd (h : sOk S) {z : Int} (hz : stP (eR S) z) : sOk (uSd S z) := by
  obtain ⟨o1, o2, o3, o4, o5, o6, o7, o8⟩ := h
  obtain ⟨s, e, -⟩ := st_n hz
  exact ⟨o1, o2, o3, o4, ⟨(by show (-1 : Int) ≤ 0; decide), (by show (0 : Int) ≤ 200; decide), fun i hi => (by have hi : (i : Int) < 0 := hi; omega), fun _ => Or.inr ⟨s, e, (by rw [← e]; exact hz)⟩⟩, o6, o7, o8⟩
theorem K_stand (h : CI S t st mt M) {z : Int} (hz : -2147483648 ≤ z ∧ z < 2147483648) : wp (f_X9_stand (i3 z) M) (fun r N => r = b_ (stP (eR S) z) ∧ CI (uSz S z) t st mt N) := by
  rw [f_X9_stand, h.or, h.has hz, g_b_some, b_if]
  unfold uSz
  refine wp_if (fun hx => ?_) (fun hx => ?_)
  · rw [f_X8_begin, g_m, iL0, ck_ok (by omega) (by omega) (by omega), g_m, g_b_some, wp_some, if_pos hx, b_t hx]
    have f : Fr [66, 67] M (sI (sI M 66 0 (i3 0)) 67 (tn (i3 0)) (i3 z)) := (Fr.rf.i (by decide)).i (by decide)
    obtain ⟨⟨a1, a2, a3, a4, a5⟩, q2, q3, q4, ⟨w1, w2, w3, w4⟩⟩ := id h
    refine ⟨rfl, ⟨ok_Sd a1 hx, a2.mv f (by decide), a3, a4, a5⟩, g2_f q2 f (by decide), g3_f q3 f (by decide), g4_f q4 f (by decide), ⟨⟨?_, fun i hi => ?_, fun i hi => ?_⟩, w2.c (f.e1 (by decide)), w3.c (by rw [f.e1 (by decide)]) (f.e1 (by decide)), by rw [f.e1 (by decide)]; exact w4⟩⟩
    · rw [rI_n (by decide), rI_e, up_e]
      rfl
    · have hi : (i : Int) ≤ 0 := hi
      obtain rfl : i = 0 := by omega
      rw [rI_e, show tn (i3 0) = 0 from rfl, up_e]
      rfl
    · have hi : (i : Int) < 0 := hi
      omega
  · rw [wp_some, if_neg hx, b_f hx]
    exact ⟨rfl, h⟩
def uUn (S : eT') : eT' := if 0 < eWc S then (S.1, S.2.1, S.2.2.1, (eWc S - 1, eWs S, eWa S, eWg S), S.2.2.2.2) else S
theorem ok_Un (h : sOk S) : sOk (uUn S) := by
  unfold uUn
  by_cases hc : 0 < eWc S
  · rw [if_pos hc]
    obtain ⟨o1, o2, o3, o4, ⟨o5, o51, o52, o53⟩, o6, o7, o8⟩ := h
    refine ⟨o1, o2, o3, o4, ⟨?_, ?_, fun i hi => ?_, fun _ => ?_⟩, o6, o7, o8⟩
    · show -1 ≤ eWc S - 1
      omega
    · show eWc S - 1 ≤ 200
      omega
    · have hi : (i : Int) < eWc S - 1 := hi
      exact o52 i (by omega)
    · obtain ⟨q, a, e1, e2, -⟩ := o52 (eWc S - 1).toNat (by omega)
      exact Or.inr ⟨q, e1, e2⟩
  · rw [if_neg hc]
    exact h
theorem K_undo (h : CI S t st mt M) : wp (f_X9_undo M) (fun r N => r = decide (0 < eWc S) ∧ CI (uUn S) t st mt N) := by
  obtain ⟨⟨a1, a2, a3, a4, a5⟩, q2, q3, q4, ⟨w1, w2, w3, w4⟩⟩ := id h
  have hw1 := a1.2.2.2.2.1.1
  have hw2 := a1.2.2.2.2.1.2.1
  have hU := ok_Un a1
  rw [f_X9_undo, f_X8_goBack, w1.1]
  unfold uUn at hU ⊢
  by_cases hc : 0 < eWc S
  · rw [if_pos (show (0 : Int32) < i3 (eWc S) by rw [iL0, i3_lt (by omega) (by omega) (by omega) (by omega)]; exact hc), g_m, g_b_some, wp_some, if_pos hc, decide_eq_true hc]
    rw [if_pos hc] at hU
    have f : Fr [66] M (sI M 66 0 (i3 (eWc S) - 1)) := Fr.rf.i (by decide)
    refine ⟨rfl, ⟨hU, a2.mv f (by decide), a3, a4, a5⟩, g2_f q2 f (by decide), g3_f q3 f (by decide), g4_f q4 f (by decide), ⟨⟨?_, fun i hi => ?_, fun i hi => ?_⟩, w2.c (f.e1 (by decide)), w3.c (by rw [f.e1 (by decide)]) (f.e1 (by decide)), by rw [f.e1 (by decide)]; exact w4⟩⟩
    · rw [rI_e, up_e, iL1, i3_sub]
    · have hi : (i : Int) ≤ eWc S - 1 := hi
      rw [rI_n (by decide)]
      exact w1.2.1 i (by omega)
    · have hi : (i : Int) < eWc S - 1 := hi
      rw [rI_n (by decide), rI_n (by decide)]
      exact w1.2.2 i (by omega)
  · rw [if_neg (show ¬ (0 : Int32) < i3 (eWc S) by rw [iL0, i3_lt (by omega) (by omega) (by omega) (by omega)]; exact hc), g_b_some, wp_some, if_neg hc, decide_eq_false hc]
    exact ⟨rfl, h⟩
def aWk (S : eT') (i w : Int) : Int := if (0 ≤ i ∧ i < eWc S) ∧ 0 ≤ w ∧ w ≤ 3 then (if w = 0 then eWs S i.toNat else if w = 1 then eWa S i.toNat else if w = 2 then eWg S i.toNat else eWs S (i.toNat + 1)) else -100
theorem k_told (h : CI S t st mt M) {i w : Int} (hi : -2147483648 ≤ i ∧ i < 2147483648) (hw : -2147483648 ≤ w ∧ w < 2147483648) : f_X8_told (i3 i) (i3 w) M = some (i3 (aWk S i w), M) := by
  obtain ⟨⟨a1, a2, a3, a4, a5⟩, q2, q3, q4, ⟨w1, w2, w3, w4⟩⟩ := id h
  have hw1 := a1.2.2.2.2.1.1
  have hw2 := a1.2.2.2.2.1.2.1
  rw [f_X8_told, w1.1, aWk]
  simp (disch := omega) only [iL0, iL1, iL2, iL3, iL200, i3_lt, i3_le, i3_eq]
  by_cases h1 : i < 0
  · rw [if_pos h1, if_neg (by omega)]
    rfl
  · rw [if_neg h1]
    by_cases h2 : eWc S ≤ i
    · rw [if_pos h2, if_neg (by omega)]
      rfl
    · rw [if_neg h2, if_pos (by omega)]
      obtain ⟨j, rfl⟩ : ∃ b : Nat, i = b := ⟨i.toNat, by omega⟩
      by_cases e0 : w = 0
      · rw [if_pos e0, ck_ok (by omega) (by omega) (by omega), if_pos (by omega), if_pos e0, tn_n (by omega), w1.2.1 j (by omega), Int.toNat_natCast]
      · rw [if_neg e0]
        by_cases e1 : w = 1
        · rw [if_pos e1, ck_ok (by omega) (by omega) (by omega), if_pos (by omega), if_neg e0, if_pos e1, tn_n (by omega), (w1.2.2 j (by omega)).1, Int.toNat_natCast]
        · rw [if_neg e1]
          by_cases e2 : w = 2
          · rw [if_pos e2, ck_ok (by omega) (by omega) (by omega), if_pos (by omega), if_neg e0, if_neg e1, if_pos e2, tn_n (by omega), (w1.2.2 j (by omega)).2, Int.toNat_natCast]
          · rw [if_neg e2]
            by_cases e3 : w = 3
            · rw [if_pos e3, i3_add, ck_ok (by omega) (by omega) (by omega), if_pos (by omega), if_neg e0, if_neg e1, if_neg e2, show (j : Int) + 1 = ((j + 1 : Nat) : Int) by omega, tn_n (by omega), w1.2.1 (j + 1) (by omega), Int.toNat_natCast]
            · rw [if_neg e3, if_neg (by omega)]
              rfl
theorem K_walked (h : CI S t st mt M) {i w : Int} (hi : -2147483648 ≤ i ∧ i < 2147483648) (hw : -2147483648 ≤ w ∧ w < 2147483648) : wp (f_X9_walked (i3 i) (i3 w) M) (fun r N => r = i3 (aWk S i w) ∧ CI S t st mt N) := by
  rw [f_X9_walked, k_told h hi hw, g_b_some, wp_some]
  exact ⟨rfl, h⟩
/-- where the walk stands -/
def eEn (S : eT') : Int := if eWc S < 0 then -1 else eWs S (eWc S).toNat
theorem en_x (h : sOk S) : eEn S = -1 ∧ eWc S < 0 ∨ 0 ≤ eWc S ∧ eWc S ≤ 200 ∧ (eEn S = -2 ∨ ∃ q : Nat, eEn S = q ∧ stP (eR S) q ∧ q < 2079) := by
  obtain ⟨o1, o2, o3, o4, ⟨o5, o51, o52, o53⟩, o6, o7, o8⟩ := h
  unfold eEn
  by_cases hc : eWc S < 0
  · rw [if_pos hc]
    exact Or.inl ⟨rfl, hc⟩
  · rw [if_neg hc]
    refine Or.inr ⟨by omega, o51, ?_⟩
    rcases o53 (by omega) with e | ⟨q, e, hq⟩
    · exact Or.inl e
    · exact Or.inr ⟨q, e, hq, st_lt hq⟩
theorem k_stands (h : CI S t st mt M) : f_X8_standsIn M = some (i3 (eEn S), M) := by
  obtain ⟨⟨a1, a2, a3, a4, a5⟩, q2, q3, q4, ⟨w1, w2, w3, w4⟩⟩ := id h
  have hw1 := a1.2.2.2.2.1.1
  have hw2 := a1.2.2.2.2.1.2.1
  rw [f_X8_standsIn, w1.1, eEn]
  simp (disch := omega) only [iL0, iL200, i3_lt]
  by_cases hc : eWc S < 0
  · rw [if_pos hc, if_pos hc]
    rfl
  · rw [if_neg hc, if_neg hc, if_neg (by omega)]
    obtain ⟨j, hj⟩ : ∃ b : Nat, eWc S = b := ⟨(eWc S).toNat, by omega⟩
    rw [hj, ck_ok (by omega) (by omega) (by omega), tn_n (by omega), w1.2.1 j (by omega), Int.toNat_natCast]
def uBt (S : eT') (a g q : Int) : eT' := (S.1, S.2.1, S.2.2.1, (eWc S + 1, fun i => if (i : Int) = eWc S + 1 then q else eWs S i, fun i => if (i : Int) = eWc S then a else eWa S i, fun i => if (i : Int) = eWc S then g else eWg S i), S.2.2.2.2)
/-- a BEAT that is done, and what it answers: how it ends, and where -/
def btP (S : eT') (a g : Int) : Prop := (0 ≤ a ∧ a < rNa (eR S)) ∧ caP (eR S) (eP S) (eEn S).toNat a.toNat ∧ loR (eR S) (eP S) (eEn S).toNat ≤ g ∧ g ≤ hiR (eR S) (eP S) (eEn S).toNat
def bsP (S : eT') : Prop := 0 ≤ eEn S ∧ ¬ ovP (eR S) (eEn S).toNat ∧ eWc S < 200
noncomputable def btN (S : eT') (a g : Int) : Int := nxR (eR S) (eP S) (eEn S).toNat a.toNat g
noncomputable def aBt (S : eT') (a g : Int) : Nat × Int := @ite _ (bsP S) (Classical.propDecidable _) (@ite _ (btP S a g) (Classical.propDecidable _) (0, btN S a g) (2, 0)) (1, 0)
noncomputable def uBz (S : eT') (a g : Int) : eT' := @ite _ (bsP S ∧ btP S a g) (Classical.propDecidable _) (uBt S a g (btN S a g)) S
theorem ok_Bt (h : sOk S) {a g : Int} (hb : bsP S) (ht : btP S a g) : sOk (uBt S a g (btN S a g)) := by
  obtain ⟨o1, o2, o3, o4, ⟨o5, o51, o52, o53⟩, o6, o7, o8⟩ := id h
  have hx := en_x h
  obtain ⟨b1, b2, b3⟩ := hb
  obtain ⟨c1, c2, c3, c4⟩ := ht
  rcases hx with ⟨e, -⟩ | ⟨hc0, -, e | ⟨q, e, hq, hq2⟩⟩
  · omega
  · omega
  have eS : eWs S (eWc S).toNat = q := by
    unfold eEn at e
    rw [if_neg (by omega)] at e
    exact e
  rw [e, Int.toNat_natCast] at b2 c2 c3 c4
  have hlo := lh_r (p := eP S) (s := q) o1
  refine ⟨o1, o2, o3, o4, ⟨?_, ?_, fun i hi => ?_, fun _ => ?_⟩, o6, o7, o8⟩
  · show -1 ≤ eWc S + 1
    omega
  · show eWc S + 1 ≤ 200
    omega
  · have hi : (i : Int) < eWc S + 1 := hi
    show ∃ q' a' : Nat, (if (i : Int) = eWc S + 1 then btN S a g else eWs S i) = q' ∧ stP (eR S) q' ∧ ¬ ovP (eR S) q' ∧ (if (i : Int) = eWc S then a else eWa S i) = a' ∧ caP (eR S) (eP S) q' a' ∧ -6 ≤ (if (i : Int) = eWc S then g else eWg S i) ∧ (if (i : Int) = eWc S then g else eWg S i) ≤ 6
    rw [if_neg (by omega)]
    by_cases ei : (i : Int) = eWc S
    · rw [if_pos ei, if_pos ei]
      refine ⟨q, a.toNat, ?_, hq, b2, by omega, c2, by omega, by omega⟩
      rw [← eS, ← ei, Int.toNat_natCast]
    · rw [if_neg ei, if_neg ei]
      exact o52 i (by omega)
  · show (if (((eWc S + 1).toNat : Nat) : Int) = eWc S + 1 then btN S a g else _) = -2 ∨ ∃ q' : Nat, (if (((eWc S + 1).toNat : Nat) : Int) = eWc S + 1 then btN S a g else _) = q' ∧ stP (eR S) q'
    rw [if_pos (by omega)]
    unfold btN
    rcases nx_q o1 (eP S) (eEn S).toNat a.toNat g with e | ⟨q', e, -, h2⟩
    · exact Or.inl e
    · exact Or.inr ⟨q', e, h2⟩
theorem K_beat (h : CI S t st mt M) {a g : Int} (ha : -2147483648 ≤ a ∧ a < 2147483648) (hg : -2147483648 ≤ g ∧ g < 2147483648) : wp (f_X9_beat (i3 a) (i3 g) M) (fun r N => r = ((aBt S a g).1, i3 (aBt S a g).2) ∧ CI (uBz S a g) t st mt N) := by
  have hx := en_x h.1.1
  have hna := h.1.1.1.2.1
  rw [f_X9_beat, k_stands h, g_b_some]
  unfold aBt uBz
  have no : ∀ (r : Nat × Int32) (N : gM), CI S t st mt N → ¬ bsP S → r = (1, 0) → (r = ((@ite (Nat × Int) (bsP S) (Classical.propDecidable _) (@ite _ (btP S a g) (Classical.propDecidable _) (0, btN S a g) (2, 0)) (1, 0)).1, i3 (@ite (Nat × Int) (bsP S) (Classical.propDecidable _) (@ite _ (btP S a g) (Classical.propDecidable _) (0, btN S a g) (2, 0)) (1, 0)).2) ∧ CI (@ite _ (bsP S ∧ btP S a g) (Classical.propDecidable _) (uBt S a g (btN S a g)) S) t st mt N) := by
    intro r N hN hn e
    rw [if_neg hn, if_neg (fun g => hn g.1), e]
    exact ⟨rfl, hN⟩
  have no2 : ∀ (r : Nat × Int32) (N : gM), CI S t st mt N → bsP S → ¬ btP S a g → r = (2, 0) → (r = ((@ite (Nat × Int) (bsP S) (Classical.propDecidable _) (@ite _ (btP S a g) (Classical.propDecidable _) (0, btN S a g) (2, 0)) (1, 0)).1, i3 (@ite (Nat × Int) (bsP S) (Classical.propDecidable _) (@ite _ (btP S a g) (Classical.propDecidable _) (0, btN S a g) (2, 0)) (1, 0)).2) ∧ CI (@ite _ (bsP S ∧ btP S a g) (Classical.propDecidable _) (uBt S a g (btN S a g)) S) t st mt N) := by
    intro r N hN hn hm e
    rw [if_pos hn, if_neg hm, if_neg (fun g => hm g.2), e]
    exact ⟨rfl, hN⟩
  have hr : -2 ≤ eEn S ∧ eEn S < 2079 := by
    rcases hx with ⟨e, -⟩ | ⟨-, -, e | ⟨q, e, -, e2⟩⟩ <;> omega
  simp (disch := omega) only [iL0, i3_lt]
  refine wp_if (fun h1 => ?_) (fun h1 => ?_)
  · rw [wp_some]
    exact no _ _ h (fun hb => by have := hb.1; omega) rfl
  · obtain ⟨q, e⟩ : ∃ q : Nat, eEn S = q := ⟨(eEn S).toNat, by omega⟩
    have hw : 0 ≤ eWc S ∧ eWc S ≤ 200 := by
      rcases hx with ⟨e, -⟩ | ⟨h1, h2, -⟩
      · omega
      · exact ⟨h1, h2⟩
    have hqs : stP (eR S) q := by
      rcases hx with ⟨e', -⟩ | ⟨-, -, e' | ⟨q', e', e2, -⟩⟩
      · omega
      · omega
      · rw [← e, e']; exact e2
    have hq := st_lt hqs
    rw [e, h.or, k_over h.1.2.1 hq, g_b_some, b_if]
    refine wp_if (fun h2 => ?_) (fun h2 => ?_)
    · rw [wp_some]
      exact no _ _ h (fun hb => hb.2.1 (by rw [e, Int.toNat_natCast]; exact h2)) rfl
    · rw [h.2.2.2.2.1.1, iL200]
      simp (disch := omega) only [i3_lt]
      refine wp_if (fun h3 => ?_) (fun h3 => ?_)
      · have hb : bsP S := ⟨by omega, by rw [e, Int.toNat_natCast]; exact h2, h3⟩
        rw [h.or, c_hasAct h.1.1.1 h.1.2.1.1.2.2.2.2.2 ha, g_b_some, b_if]
        refine wp_if (fun h4 => ?_) (fun h4 => ?_)
        · obtain ⟨b, rfl⟩ : ∃ b : Nat, a = b := ⟨a.toNat, by omega⟩
          refine wp_b _ (c_allows hq (by omega) h.1.2.1) (fun r N hN => ?_)
          obtain ⟨rfl, u1, u2⟩ := hN
          have hN := h.kp u1 u2 (by decide)
          rw [b_if]
          refine wp_if (fun h5 => ?_) (fun h5 => ?_)
          · refine wp_b _ (c_least hq hN.1.2.1) (fun r N2 hN2 => ?_)
            obtain ⟨rfl, v1, v2⟩ := hN2
            have hN2 := hN.kp v1 v2 (by decide)
            have hlh := lh_r (p := eP S) (s := q) h.1.1.1
            simp (disch := omega) only [i3_lt]
            refine wp_if (fun h6 => ?_) (fun h6 => ?_)
            · rw [wp_some]
              refine no2 _ _ hN2 hb (fun hm => ?_) rfl
              have := hm.2.2.1
              rw [e, Int.toNat_natCast] at this
              omega
            · refine wp_b _ (c_great hq hN2.1.2.1) (fun r N3 hN3 => ?_)
              obtain ⟨rfl, x1, x2⟩ := hN3
              have hN3 := hN2.kp x1 x2 (by decide)
              simp (disch := omega) only [i3_le]
              refine wp_if (fun h7 => ?_) (fun h7 => ?_)
              · have hm : btP S b g := ⟨h4, by rw [e, Int.toNat_natCast, Int.toNat_natCast]; exact h5, by rw [e, Int.toNat_natCast]; omega, by rw [e, Int.toNat_natCast]; exact h7⟩
                refine wp_b _ (c_after hq h5.1 (by omega) hN3.1.2.1) (fun r N4 hN4 => ?_)
                obtain ⟨rfl, y1, y2⟩ := hN4
                have hN4 := hN3.kp y1 y2 (by decide)
                rw [if_pos hb, if_pos hm, if_pos ⟨hb, hm⟩]
                have eN : btN S b g = nxR (eR S) (eP S) q b g := by unfold btN; rw [e, Int.toNat_natCast, Int.toNat_natCast]
                rw [← eN]
                obtain ⟨j, hj⟩ : ∃ j : Nat, eWc S = j := ⟨(eWc S).toNat, by omega⟩
                have hgo : f_X8_go (i3 (b : Int)) (i3 g) (i3 (btN S b g)) N4 = some ((), sI (sI (sI (sI N4 68 j (i3 (b : Int))) 69 j (i3 g)) 66 0 (i3 ((j + 1 : Nat) : Int))) 67 (j + 1) (i3 (btN S b g))) := by
                  have e66 : N4.1 66 0 = i3 (j : Int) := by rw [hN4.2.2.2.2.1.1, hj]
                  rw [f_X8_go, e66, iL200, iL0]
                  simp (disch := omega) only [i3_lt, i3_le]
                  rw [if_neg (by omega), if_neg (by omega), ck_ok (by omega) (by omega) (by omega), tn_n (by omega), g_m, rI_n (show (66 : Nat) ≠ 68 by decide), e66, ck_ok (by omega) (by omega) (by omega), tn_n (by omega), g_m, g_m, rI_e (k := 66), up_e, rI_n (show (66 : Nat) ≠ 69 by decide), rI_n (show (66 : Nat) ≠ 68 by decide), e66, i3_s1, show (j : Int) + 1 = ((j + 1 : Nat) : Int) by omega, ck_ok (by omega) (by omega) (by omega), tn_n (by omega), g_m]
                rw [hgo, g_b_some, wp_some]
                have f : Fr [66, 67, 68, 69] N4 (sI (sI (sI (sI N4 68 j (i3 (b : Int))) 69 j (i3 g)) 66 0 (i3 ((j + 1 : Nat) : Int))) 67 (j + 1) (i3 (btN S b g))) := (((Fr.rf.i (by decide)).i (by decide)).i (by decide)).i (by decide)
                obtain ⟨⟨a1, a2, a3, a4, a5⟩, q2, q3, q4, ⟨w1, w2, w3, w4⟩⟩ := id hN4
                refine ⟨rfl, ⟨ok_Bt a1 hb hm, a2.mv f (by decide), a3, a4, a5⟩, g2_f q2 f (by decide), g3_f q3 f (by decide), g4_f q4 f (by decide), ⟨⟨?_, fun i hi => ?_, fun i hi => ?_⟩, w2.c (f.e1 (by decide)), w3.c (by rw [f.e1 (by decide)]) (f.e1 (by decide)), by rw [f.e1 (by decide)]; exact w4⟩⟩
                · rw [rI_n (by decide), rI_e, up_e]
                  show _ = i3 (eWc S + 1)
                  rw [hj]
                  rfl
                · have hi : (i : Int) ≤ eWc S + 1 := hi
                  rw [rI_e, rI_n (by decide), rI_n (by decide), rI_n (by decide)]
                  show _ = i3 (if (i : Int) = eWc S + 1 then btN S b g else eWs S i)
                  by_cases ei : i = j + 1
                  · rw [if_pos (by omega), ei, up_e]
                  · rw [if_neg (by omega), up_n ei]
                    exact w1.2.1 i (by omega)
                · have hi : (i : Int) < eWc S + 1 := hi
                  rw [rI_n (by decide), rI_n (by decide), rI_n (by decide), rI_e, rI_n (by decide), rI_n (by decide), rI_e, rI_n (by decide)]
                  show _ = i3 (if (i : Int) = eWc S then (b : Int) else eWa S i) ∧ _ = i3 (if (i : Int) = eWc S then g else eWg S i)
                  by_cases ei : i = j
                  · rw [if_pos (by omega), if_pos (by omega), ei, up_e, up_e]
                    exact ⟨rfl, rfl⟩
                  · rw [if_neg (by omega), if_neg (by omega), up_n ei, up_n ei]
                    exact w1.2.2 i (by omega)
              · rw [wp_some]
                refine no2 _ _ hN3 hb (fun hm => ?_) rfl
                have := hm.2.2.2
                rw [e, Int.toNat_natCast] at this
                omega
          · rw [wp_some]
            refine no2 _ _ hN hb (fun hm => h5 ?_) rfl
            have := hm.2.1
            rw [e, Int.toNat_natCast, Int.toNat_natCast] at this
            exact this
        · rw [wp_some]
          exact no2 _ _ h hb (fun hm => h4 hm.1) rfl
      · rw [wp_some]
        exact no _ _ h (fun hb => by have := hb.2.2; omega) rfl
end
