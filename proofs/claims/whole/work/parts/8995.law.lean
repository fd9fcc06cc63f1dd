/-! ===== one step of the law ===== -/
def LW (k : Nat) (M1 M2 : gM) : Prop := ∃ (S : eT') (t st mt h : Nat), CI S t st mt M1 ∧ DI S h M2 ∧ st ≤ 1 + 5 * k ∧ mt ≤ 1554 * k
def LC (L : Nat) (x : Int32) : Prop := ∀ (i : Nat), i ≤ 5 → ∀ v : Option Bool, g_ck (x + i3 (i : Int)) L v = v
theorem LC.a {L : Nat} {x : Int32} (h : LC L x) (v : Option Bool) : g_ck (x + 1) L v = v := h 1 (by decide) v
theorem LC.b {L : Nat} {x : Int32} (h : LC L x) (v : Option Bool) : g_ck (x + 2) L v = v := h 2 (by decide) v
theorem LC.c {L : Nat} {x : Int32} (h : LC L x) (v : Option Bool) : g_ck (x + 3) L v = v := h 3 (by decide) v
theorem LC.d {L : Nat} {x : Int32} (h : LC L x) (v : Option Bool) : g_ck (x + 4) L v = v := h 4 (by decide) v
theorem LC.e {L : Nat} {x : Int32} (h : LC L x) (v : Option Bool) : g_ck (x + 5) L v = v := h 5 (by decide) v
theorem lg_self (a : Int64) : lg_cmp a a = 0 := (lg_cmp_eq a a).2 rfl
theorem aBt_le (S : eT') (a g : Int) : (aBt S a g).1 ≤ 2 := by
  unfold aBt
  split
  · split
    · exact Nat.zero_le _
    · exact Nat.le_refl _
  · show 1 ≤ 2
    decide
section
variable {L k : Nat} {xs : Nat → Int32} {kn : Int32 → gM → gM → Int64 → Option Bool} {x : Int32} {M1 M2 : gM} {ov : Int64}
theorem lw_0 (hk : k ≤ 512) (c : LC L x) (H : LW k M1 M2) (kk : ∀ (A B : gM) (o : Int64), LW (k + 1) A B → kn (x + 6) A B o = some true) : f_law_0 L xs kn x M1 M2 ov = some true := by
  obtain ⟨S, t, st, mt, h, hC, hD, hs, hm⟩ := H
  rw [f_law_0, c.a, c.b, c.c, c.d, c.e]
  obtain ⟨r1, A, w1, rfl, C1⟩ := K_feed (a := xs (tn (x + 1))) (b := xs (tn (x + 2))) (c := xs (tn (x + 3))) (d := xs (tn (x + 4))) (e := xs (tn (x + 5))) hC 
  obtain ⟨r2, B, w2, rfl, D2⟩ := R_feed (a := xs (tn (x + 1))) (b := xs (tn (x + 2))) (c := xs (tn (x + 3))) (d := xs (tn (x + 4))) (e := xs (tn (x + 5))) hD 
  rw [w1, g_b_some, c.a, c.b, c.c, c.d, c.e, w2, g_b_some, if_pos rfl]
  exact kk _ _ _ ⟨_, t, st, mt, h, C1, D2, by omega, by omega⟩
theorem lw_1 (hk : k ≤ 512) (c : LC L x) (H : LW k M1 M2) (kk : ∀ (A B : gM) (o : Int64), LW (k + 1) A B → kn (x + 6) A B o = some true) : f_law_1 L xs kn x M1 M2 ov = some true := by
  obtain ⟨S, t, st, mt, h, hC, hD, hs, hm⟩ := H
  obtain ⟨z1, p1, q1, e1⟩ := i3_ex (xs (tn (x + 1)))
  rw [f_law_1, c.a]
  simp only [e1]
  obtain ⟨r1, A, w1, rfl, C1⟩ := K_back hC ⟨p1, q1⟩
  obtain ⟨r2, B, w2, rfl, D2⟩ := R_back hD ⟨p1, q1⟩
  rw [w1, g_b_some, c.a, w2, g_b_some, if_pos rfl]
  exact kk _ _ _ ⟨_, t, st, mt, h, C1, D2, by omega, by omega⟩
theorem lw_2 (hk : k ≤ 512) (c : LC L x) (H : LW k M1 M2) (kk : ∀ (A B : gM) (o : Int64), LW (k + 1) A B → kn (x + 6) A B o = some true) : f_law_2 L xs kn x M1 M2 ov = some true := by
  obtain ⟨S, t, st, mt, h, hC, hD, hs, hm⟩ := H
  obtain ⟨z, A, B, S2, t2, h2, st2, e1, e2, C2, D2, s2⟩ := RD_read hC hD (by omega)
  rw [f_law_2, e1, g_b_some, e2, g_b_some, if_pos rfl]
  exact kk _ _ _ ⟨S2, t2, st2, mt, h2, C2, D2, by omega, by omega⟩
theorem lw_3 (hk : k ≤ 512) (c : LC L x) (H : LW k M1 M2) (kk : ∀ (A B : gM) (o : Int64), LW (k + 1) A B → kn (x + 6) A B o = some true) : f_law_3 L xs kn x M1 M2 ov = some true := by
  obtain ⟨S, t, st, mt, h, hC, hD, hs, hm⟩ := H
  rw [f_law_3]
  obtain ⟨r1, A, w1, rfl, C1⟩ := K_place hC 
  obtain ⟨r2, B, w2, rfl, D2⟩ := R_place hD 
  rw [w1, g_b_some, w2, g_b_some, if_pos rfl]
  exact kk _ _ _ ⟨_, t, st, mt, h, C1, D2, by omega, by omega⟩
theorem lw_4 (hk : k ≤ 512) (c : LC L x) (H : LW k M1 M2) (kk : ∀ (A B : gM) (o : Int64), LW (k + 1) A B → kn (x + 6) A B o = some true) : f_law_4 L xs kn x M1 M2 ov = some true := by
  obtain ⟨S, t, st, mt, h, hC, hD, hs, hm⟩ := H
  obtain ⟨z1, p1, q1, e1⟩ := i3_ex (xs (tn (x + 1)))
  rw [f_law_4, c.a]
  simp only [e1]
  obtain ⟨r1, A, w1, rfl, st2, s2, C1⟩ := K_pole hC (by omega) ⟨p1, q1⟩
  obtain ⟨r2, B, w2, rfl, D2⟩ := R_pole hD ⟨p1, q1⟩
  rw [w1, g_b_some, c.a, w2, g_b_some, if_pos rfl]
  exact kk _ _ _ ⟨_, t, st2, mt, h, C1, D2, by omega, by omega⟩
theorem lw_5 (hk : k ≤ 512) (c : LC L x) (H : LW k M1 M2) (kk : ∀ (A B : gM) (o : Int64), LW (k + 1) A B → kn (x + 6) A B o = some true) : f_law_5 L xs kn x M1 M2 ov = some true := by
  obtain ⟨S, t, st, mt, h, hC, hD, hs, hm⟩ := H
  obtain ⟨z1, p1, q1, e1⟩ := i3_ex (xs (tn (x + 1)))
  obtain ⟨z2, p2, q2, e2⟩ := i3_ex (xs (tn (x + 2)))
  obtain ⟨z3, p3, q3, e3⟩ := i3_ex (xs (tn (x + 3)))
  rw [f_law_5, c.a, c.b, c.c]
  simp only [e1, e2, e3]
  obtain ⟨r1, A, w1, rfl, C1⟩ := K_state hC ⟨p1, q1⟩ ⟨p2, q2⟩ ⟨p3, q3⟩
  obtain ⟨r2, B, w2, rfl, D2⟩ := R_state hD ⟨p1, q1⟩ ⟨p2, q2⟩ ⟨p3, q3⟩
  rw [w1, g_b_some, c.a, c.b, c.c, w2, g_b_some, if_pos rfl]
  exact kk _ _ _ ⟨_, t, st, mt, h, C1, D2, by omega, by omega⟩
theorem lw_6 (hk : k ≤ 512) (c : LC L x) (H : LW k M1 M2) (kk : ∀ (A B : gM) (o : Int64), LW (k + 1) A B → kn (x + 6) A B o = some true) : f_law_6 L xs kn x M1 M2 ov = some true := by
  obtain ⟨S, t, st, mt, h, hC, hD, hs, hm⟩ := H
  obtain ⟨z1, p1, q1, e1⟩ := i3_ex (xs (tn (x + 1)))
  obtain ⟨z2, p2, q2, e2⟩ := i3_ex (xs (tn (x + 2)))
  rw [f_law_6, c.a, c.b]
  simp only [e1, e2]
  obtain ⟨r1, A, w1, rfl, C1⟩ := K_can hC ⟨p1, q1⟩ ⟨p2, q2⟩
  obtain ⟨r2, B, w2, rfl, D2⟩ := R_can hD ⟨p1, q1⟩ ⟨p2, q2⟩
  rw [w1, g_b_some, c.a, c.b, w2, g_b_some, if_pos rfl]
  exact kk _ _ _ ⟨_, t, st, mt, h, C1, D2, by omega, by omega⟩
theorem lw_7 (hk : k ≤ 512) (c : LC L x) (H : LW k M1 M2) (kk : ∀ (A B : gM) (o : Int64), LW (k + 1) A B → kn (x + 6) A B o = some true) : f_law_7 L xs kn x M1 M2 ov = some true := by
  obtain ⟨S, t, st, mt, h, hC, hD, hs, hm⟩ := H
  obtain ⟨z1, p1, q1, e1⟩ := i3_ex (xs (tn (x + 1)))
  rw [f_law_7, c.a, c.b]
  simp only [e1]
  by_cases g : xs (tn (x + 2)) = 0
  · obtain ⟨r1, A, w1, rfl, C1⟩ := K_gust (b := false) hC ⟨p1, q1⟩
    obtain ⟨r2, B, w2, rfl, D2⟩ := R_gust (b := false) hD ⟨p1, q1⟩
    rw [if_pos g, w1, g_b_some, c.a, c.b, if_pos g, w2, g_b_some, if_pos rfl]
    exact kk _ _ _ ⟨_, t, st, mt, h, C1, D2, by omega, by omega⟩
  · obtain ⟨r1, A, w1, rfl, C1⟩ := K_gust (b := true) hC ⟨p1, q1⟩
    obtain ⟨r2, B, w2, rfl, D2⟩ := R_gust (b := true) hD ⟨p1, q1⟩
    rw [if_neg g, w1, g_b_some, c.a, c.b, if_neg g, w2, g_b_some, if_pos rfl]
    exact kk _ _ _ ⟨_, t, st, mt, h, C1, D2, by omega, by omega⟩
theorem lw_8 (hk : k ≤ 512) (c : LC L x) (H : LW k M1 M2) (kk : ∀ (A B : gM) (o : Int64), LW (k + 1) A B → kn (x + 6) A B o = some true) : f_law_8 L xs kn x M1 M2 ov = some true := by
  obtain ⟨S, t, st, mt, h, hC, hD, hs, hm⟩ := H
  obtain ⟨z1, p1, q1, e1⟩ := i3_ex (xs (tn (x + 1)))
  obtain ⟨z2, p2, q2, e2⟩ := i3_ex (xs (tn (x + 2)))
  obtain ⟨z3, p3, q3, e3⟩ := i3_ex (xs (tn (x + 3)))
  rw [f_law_8, c.a, c.b, c.c]
  simp only [e1, e2, e3]
  obtain ⟨r1, A, w1, rfl, C1⟩ := K_next hC ⟨p1, q1⟩ ⟨p2, q2⟩ ⟨p3, q3⟩
  obtain ⟨r2, B, w2, rfl, D2⟩ := R_next hD ⟨p1, q1⟩ ⟨p2, q2⟩ ⟨p3, q3⟩
  rw [w1, g_b_some, c.a, c.b, c.c, w2, g_b_some, if_pos rfl]
  exact kk _ _ _ ⟨_, t, st, mt, h, C1, D2, by omega, by omega⟩
theorem lw_9 (hk : k ≤ 512) (c : LC L x) (H : LW k M1 M2) (kk : ∀ (A B : gM) (o : Int64), LW (k + 1) A B → kn (x + 6) A B o = some true) : f_law_9 L xs kn x M1 M2 ov = some true := by
  obtain ⟨S, t, st, mt, h, hC, hD, hs, hm⟩ := H
  obtain ⟨z1, p1, q1, e1⟩ := i3_ex (xs (tn (x + 1)))
  rw [f_law_9, c.a]
  simp only [e1]
  obtain ⟨r1, A, w1, rfl, C1⟩ := K_fate hC ⟨p1, q1⟩
  obtain ⟨r2, B, w2, rfl, D2⟩ := R_fate hD ⟨p1, q1⟩
  rw [w1, g_b_some, c.a, w2, g_b_some, if_pos rfl]
  exact kk _ _ _ ⟨_, t, st, mt, h, C1, D2, by omega, by omega⟩
theorem lw_10 (hk : k ≤ 512) (c : LC L x) (H : LW k M1 M2) (kk : ∀ (A B : gM) (o : Int64), LW (k + 1) A B → kn (x + 6) A B o = some true) : f_law_10 L xs kn x M1 M2 ov = some true := by
  obtain ⟨S, t, st, mt, h, hC, hD, hs, hm⟩ := H
  obtain ⟨z1, p1, q1, e1⟩ := i3_ex (xs (tn (x + 1)))
  rw [f_law_10, c.a]
  simp only [e1]
  obtain ⟨r1, A, w1, rfl, C1⟩ := K_keep hC ⟨p1, q1⟩
  obtain ⟨r2, B, w2, rfl, D2⟩ := R_keep hD ⟨p1, q1⟩
  rw [w1, g_b_some, c.a, w2, g_b_some, if_pos rfl]
  exact kk _ _ _ ⟨_, t, st, mt, h, C1, D2, by omega, by omega⟩
theorem lw_11 (hk : k ≤ 512) (c : LC L x) (H : LW k M1 M2) (kk : ∀ (A B : gM) (o : Int64), LW (k + 1) A B → kn (x + 6) A B o = some true) : f_law_11 L xs kn x M1 M2 ov = some true := by
  obtain ⟨S, t, st, mt, h, hC, hD, hs, hm⟩ := H
  obtain ⟨z1, p1, q1, e1⟩ := i3_ex (xs (tn (x + 1)))
  rw [f_law_11, c.a]
  simp only [e1]
  obtain ⟨r1, A, w1, rfl, C1⟩ := K_reach hC ⟨p1, q1⟩
  obtain ⟨r2, B, w2, rfl, D2⟩ := R_reach hD ⟨p1, q1⟩
  rw [w1, g_b_some, c.a, w2, g_b_some, if_pos rfl]
  exact kk _ _ _ ⟨_, t, st, mt, h, C1, D2, by omega, by omega⟩
theorem lw_12 (hk : k ≤ 512) (c : LC L x) (H : LW k M1 M2) (kk : ∀ (A B : gM) (o : Int64), LW (k + 1) A B → kn (x + 6) A B o = some true) : f_law_12 L xs kn x M1 M2 ov = some true := by
  obtain ⟨S, t, st, mt, h, hC, hD, hs, hm⟩ := H
  obtain ⟨z1, p1, q1, e1⟩ := i3_ex (xs (tn (x + 1)))
  rw [f_law_12, c.a]
  simp only [e1]
  obtain ⟨r1, A, w1, rfl, C1⟩ := K_lead hC ⟨p1, q1⟩
  obtain ⟨r2, B, w2, rfl, D2⟩ := R_lead hD ⟨p1, q1⟩
  rw [w1, g_b_some, c.a, w2, g_b_some, if_pos rfl]
  exact kk _ _ _ ⟨_, t, st, mt, h, C1, D2, by omega, by omega⟩
theorem lw_13 (hk : k ≤ 512) (c : LC L x) (H : LW k M1 M2) (kk : ∀ (A B : gM) (o : Int64), LW (k + 1) A B → kn (x + 6) A B o = some true) : f_law_13 L xs kn x M1 M2 ov = some true := by
  obtain ⟨S, t, st, mt, h, hC, hD, hs, hm⟩ := H
  obtain ⟨z1, p1, q1, e1⟩ := i3_ex (xs (tn (x + 1)))
  rw [f_law_13, c.a]
  simp only [e1]
  obtain ⟨r1, A, w1, rfl, C1⟩ := K_safe hC ⟨p1, q1⟩
  obtain ⟨r2, B, w2, rfl, D2⟩ := R_safe hD ⟨p1, q1⟩
  rw [w1, g_b_some, c.a, w2, g_b_some, if_pos rfl]
  exact kk _ _ _ ⟨_, t, st, mt, h, C1, D2, by omega, by omega⟩
theorem lw_14 (hk : k ≤ 512) (c : LC L x) (H : LW k M1 M2) (kk : ∀ (A B : gM) (o : Int64), LW (k + 1) A B → kn (x + 6) A B o = some true) : f_law_14 L xs kn x M1 M2 ov = some true := by
  obtain ⟨S, t, st, mt, h, hC, hD, hs, hm⟩ := H
  obtain ⟨z1, p1, q1, e1⟩ := i3_ex (xs (tn (x + 1)))
  obtain ⟨z2, p2, q2, e2⟩ := i3_ex (xs (tn (x + 2)))
  rw [f_law_14, c.a, c.b, c.c]
  simp only [e1, e2]
  by_cases g : xs (tn (x + 3)) = 0
  · obtain ⟨r1, A, w1, rfl, C1⟩ := K_edge (b := false) hC ⟨p1, q1⟩ ⟨p2, q2⟩
    obtain ⟨r2, B, w2, rfl, D2⟩ := R_edge (b := false) hD ⟨p1, q1⟩ ⟨p2, q2⟩
    rw [if_pos g, w1, g_b_some, c.a, c.b, c.c, if_pos g, w2, g_b_some, if_pos rfl]
    exact kk _ _ _ ⟨_, t, st, mt, h, C1, D2, by omega, by omega⟩
  · obtain ⟨r1, A, w1, rfl, C1⟩ := K_edge (b := true) hC ⟨p1, q1⟩ ⟨p2, q2⟩
    obtain ⟨r2, B, w2, rfl, D2⟩ := R_edge (b := true) hD ⟨p1, q1⟩ ⟨p2, q2⟩
    rw [if_neg g, w1, g_b_some, c.a, c.b, c.c, if_neg g, w2, g_b_some, if_pos rfl]
    exact kk _ _ _ ⟨_, t, st, mt, h, C1, D2, by omega, by omega⟩
theorem lw_15 (hk : k ≤ 512) (c : LC L x) (H : LW k M1 M2) (kk : ∀ (A B : gM) (o : Int64), LW (k + 1) A B → kn (x + 6) A B o = some true) : f_law_15 L xs kn x M1 M2 ov = some true := by
  obtain ⟨S, t, st, mt, h, hC, hD, hs, hm⟩ := H
  rw [f_law_15]
  obtain ⟨r1, A, w1, rfl, C1⟩ := K_doom hC 
  obtain ⟨r2, B, w2, rfl, D2⟩ := R_doom hD 
  rw [w1, g_b_some, w2, g_b_some, if_pos rfl]
  exact kk _ _ _ ⟨_, t, st, mt, h, C1, D2, by omega, by omega⟩
theorem lw_16 (hk : k ≤ 512) (c : LC L x) (H : LW k M1 M2) (kk : ∀ (A B : gM) (o : Int64), LW (k + 1) A B → kn (x + 6) A B o = some true) : f_law_16 L xs kn x M1 M2 ov = some true := by
  obtain ⟨S, t, st, mt, h, hC, hD, hs, hm⟩ := H
  obtain ⟨z1, p1, q1, e1⟩ := i3_ex (xs (tn (x + 1)))
  rw [f_law_16, c.a]
  simp only [e1]
  obtain ⟨r1, A, w1, rfl, C1⟩ := K_borne hC ⟨p1, q1⟩
  obtain ⟨r2, B, w2, rfl, D2⟩ := R_borne hD ⟨p1, q1⟩
  rw [w1, g_b_some, c.a, w2, g_b_some, if_pos rfl]
  exact kk _ _ _ ⟨_, t, st, mt, h, C1, D2, by omega, by omega⟩
theorem lw_17 (hk : k ≤ 512) (c : LC L x) (H : LW k M1 M2) (kk : ∀ (A B : gM) (o : Int64), LW (k + 1) A B → kn (x + 6) A B o = some true) : f_law_17 L xs kn x M1 M2 ov = some true := by
  obtain ⟨S, t, st, mt, h, hC, hD, hs, hm⟩ := H
  obtain ⟨z1, p1, q1, e1⟩ := i3_ex (xs (tn (x + 1)))
  rw [f_law_17, c.a]
  simp only [e1]
  obtain ⟨r1, A, w1, rfl, st2, s2, C1⟩ := K_poles hC (by omega) ⟨p1, q1⟩
  obtain ⟨r2, B, w2, rfl, D2⟩ := R_poles hD ⟨p1, q1⟩
  rw [w1, g_b_some, c.a, w2, g_b_some, if_pos rfl]
  exact kk _ _ _ ⟨_, t, st2, mt, h, C1, D2, by omega, by omega⟩
theorem lw_18 (hk : k ≤ 512) (c : LC L x) (H : LW k M1 M2) (kk : ∀ (A B : gM) (o : Int64), LW (k + 1) A B → kn (x + 6) A B o = some true) : f_law_18 L xs kn x M1 M2 ov = some true := by
  obtain ⟨S, t, st, mt, h, hC, hD, hs, hm⟩ := H
  obtain ⟨z1, p1, q1, e1⟩ := i3_ex (xs (tn (x + 1)))
  rw [f_law_18, c.a]
  simp only [e1]
  obtain ⟨r1, A, w1, rfl, C1⟩ := K_forecast hC ⟨p1, q1⟩
  obtain ⟨r2, B, w2, rfl, D2⟩ := R_forecast hD ⟨p1, q1⟩
  rw [w1, g_b_some, c.a, w2, g_b_some, if_pos rfl]
  exact kk _ _ _ ⟨_, t, st, mt, h, C1, D2, by omega, by omega⟩
theorem lw_19 (hk : k ≤ 512) (c : LC L x) (H : LW k M1 M2) (kk : ∀ (A B : gM) (o : Int64), LW (k + 1) A B → kn (x + 6) A B o = some true) : f_law_19 L xs kn x M1 M2 ov = some true := by
  obtain ⟨S, t, st, mt, h, hC, hD, hs, hm⟩ := H
  rw [f_law_19]
  obtain ⟨r1, A, w1, C1⟩ := K_clear hC 
  obtain ⟨r2, B, w2, D2⟩ := R_clear hD 
  rw [w1, g_b_some, w2, g_b_some]
  exact kk _ _ _ ⟨_, t, st, mt, h, C1, D2, by omega, by omega⟩
theorem lw_20 (hk : k ≤ 512) (c : LC L x) (H : LW k M1 M2) (kk : ∀ (A B : gM) (o : Int64), LW (k + 1) A B → kn (x + 6) A B o = some true) : f_law_20 L xs kn x M1 M2 ov = some true := by
  obtain ⟨S, t, st, mt, h, hC, hD, hs, hm⟩ := H
  obtain ⟨z1, p1, q1, e1⟩ := i3_ex (xs (tn (x + 1)))
  rw [f_law_20, c.a]
  simp only [e1]
  obtain ⟨r1, A, w1, rfl, C1⟩ := K_known hC ⟨p1, q1⟩
  obtain ⟨r2, B, w2, rfl, D2⟩ := R_known hD ⟨p1, q1⟩
  rw [w1, g_b_some, c.a, w2, g_b_some, if_pos rfl]
  exact kk _ _ _ ⟨_, t, st, mt, h, C1, D2, by omega, by omega⟩
theorem lw_21 (hk : k ≤ 512) (c : LC L x) (H : LW k M1 M2) (kk : ∀ (A B : gM) (o : Int64), LW (k + 1) A B → kn (x + 6) A B o = some true) : f_law_21 L xs kn x M1 M2 ov = some true := by
  obtain ⟨S, t, st, mt, h, hC, hD, hs, hm⟩ := H
  obtain ⟨z1, p1, q1, e1⟩ := i3_ex (xs (tn (x + 1)))
  obtain ⟨z2, p2, q2, e2⟩ := i3_ex (xs (tn (x + 2)))
  rw [f_law_21, c.a, c.b]
  simp only [e1, e2]
  obtain ⟨r1, A, w1, rfl, C1⟩ := K_knownAct hC ⟨p1, q1⟩ ⟨p2, q2⟩
  obtain ⟨r2, B, w2, rfl, D2⟩ := R_knownAct hD ⟨p1, q1⟩ ⟨p2, q2⟩
  rw [w1, g_b_some, c.a, c.b, w2, g_b_some, if_pos rfl]
  exact kk _ _ _ ⟨_, t, st, mt, h, C1, D2, by omega, by omega⟩
theorem lw_22 (hk : k ≤ 512) (c : LC L x) (H : LW k M1 M2) (kk : ∀ (A B : gM) (o : Int64), LW (k + 1) A B → kn (x + 6) A B o = some true) : f_law_22 L xs kn x M1 M2 ov = some true := by
  obtain ⟨S, t, st, mt, h, hC, hD, hs, hm⟩ := H
  obtain ⟨z1, p1, q1, e1⟩ := i3_ex (xs (tn (x + 1)))
  obtain ⟨z2, p2, q2, e2⟩ := i3_ex (xs (tn (x + 2)))
  rw [f_law_22, c.a, c.b]
  simp only [e1, e2]
  obtain ⟨r1, A, w1, rfl, mt2, m2, C1⟩ := K_blind hC (by omega) ⟨p1, q1⟩ ⟨p2, q2⟩
  obtain ⟨r2, B, w2, rfl, D2⟩ := R_blind hD ⟨p1, q1⟩ ⟨p2, q2⟩
  rw [w1, g_b_some, c.a, c.b, w2, g_b_some, if_pos rfl]
  exact kk _ _ _ ⟨_, t, st, mt2, h, C1, D2, by omega, by omega⟩
theorem lw_23 (hk : k ≤ 512) (c : LC L x) (H : LW k M1 M2) (kk : ∀ (A B : gM) (o : Int64), LW (k + 1) A B → kn (x + 6) A B o = some true) : f_law_23 L xs kn x M1 M2 ov = some true := by
  obtain ⟨S, t, st, mt, h, hC, hD, hs, hm⟩ := H
  obtain ⟨z1, p1, q1, e1⟩ := i3_ex (xs (tn (x + 1)))
  obtain ⟨z2, p2, q2, e2⟩ := i3_ex (xs (tn (x + 2)))
  obtain ⟨z3, p3, q3, e3⟩ := i3_ex (xs (tn (x + 3)))
  rw [f_law_23, c.a, c.b, c.c]
  simp only [e1, e2, e3]
  obtain ⟨r1, A, w1, rfl, mt2, m2, C1⟩ := K_blindAct hC (by omega) ⟨p1, q1⟩ ⟨p2, q2⟩ ⟨p3, q3⟩
  obtain ⟨r2, B, w2, rfl, D2⟩ := R_blindAct hD ⟨p1, q1⟩ ⟨p2, q2⟩ ⟨p3, q3⟩
  rw [w1, g_b_some, c.a, c.b, c.c, w2, g_b_some, if_pos rfl]
  exact kk _ _ _ ⟨_, t, st, mt2, h, C1, D2, by omega, by omega⟩
theorem lw_24 (hk : k ≤ 512) (c : LC L x) (H : LW k M1 M2) (kk : ∀ (A B : gM) (o : Int64), LW (k + 1) A B → kn (x + 6) A B o = some true) : f_law_24 L xs kn x M1 M2 ov = some true := by
  obtain ⟨S, t, st, mt, h, hC, hD, hs, hm⟩ := H
  obtain ⟨z1, p1, q1, e1⟩ := i3_ex (xs (tn (x + 1)))
  rw [f_law_24, c.a]
  simp only [e1]
  obtain ⟨r1, A, w1, rfl, C1⟩ := K_reflex hC ⟨p1, q1⟩
  obtain ⟨r2, B, w2, rfl, D2⟩ := R_reflex hD ⟨p1, q1⟩
  rw [w1, g_b_some, c.a, w2, g_b_some, if_pos rfl]
  exact kk _ _ _ ⟨_, t, st, mt, h, C1, D2, by omega, by omega⟩
theorem lw_25 (hk : k ≤ 512) (c : LC L x) (H : LW k M1 M2) (kk : ∀ (A B : gM) (o : Int64), LW (k + 1) A B → kn (x + 6) A B o = some true) : f_law_25 L xs kn x M1 M2 ov = some true := by
  obtain ⟨S, t, st, mt, h, hC, hD, hs, hm⟩ := H
  obtain ⟨z1, p1, q1, e1⟩ := i3_ex (xs (tn (x + 1)))
  rw [f_law_25, c.a]
  simp only [e1]
  obtain ⟨r1, A, w1, rfl, C1⟩ := K_proof hC ⟨p1, q1⟩
  obtain ⟨r2, B, w2, rfl, D2⟩ := R_proof hD ⟨p1, q1⟩
  rw [w1, g_b_some, c.a, w2, g_b_some, if_pos rfl]
  exact kk _ _ _ ⟨_, t, st, mt, h, C1, D2, by omega, by omega⟩
theorem lw_26 (hk : k ≤ 512) (c : LC L x) (H : LW k M1 M2) (kk : ∀ (A B : gM) (o : Int64), LW (k + 1) A B → kn (x + 6) A B o = some true) : f_law_26 L xs kn x M1 M2 ov = some true := by
  obtain ⟨S, t, st, mt, h, hC, hD, hs, hm⟩ := H
  obtain ⟨z1, p1, q1, e1⟩ := i3_ex (xs (tn (x + 1)))
  obtain ⟨z2, p2, q2, e2⟩ := i3_ex (xs (tn (x + 2)))
  rw [f_law_26, c.a, c.b]
  simp only [e1, e2]
  obtain ⟨r1, A, w1, rfl, C1⟩ := K_witness hC ⟨p1, q1⟩ ⟨p2, q2⟩
  obtain ⟨r2, B, w2, rfl, D2⟩ := R_witness hD ⟨p1, q1⟩ ⟨p2, q2⟩
  rw [w1, g_b_some, c.a, c.b, w2, g_b_some, if_pos rfl]
  exact kk _ _ _ ⟨_, t, st, mt, h, C1, D2, by omega, by omega⟩
theorem lw_27 (hk : k ≤ 512) (c : LC L x) (H : LW k M1 M2) (kk : ∀ (A B : gM) (o : Int64), LW (k + 1) A B → kn (x + 6) A B o = some true) : f_law_27 L xs kn x M1 M2 ov = some true := by
  obtain ⟨S, t, st, mt, h, hC, hD, hs, hm⟩ := H
  obtain ⟨z1, p1, q1, e1⟩ := i3_ex (xs (tn (x + 1)))
  rw [f_law_27, c.a]
  simp only [e1]
  obtain ⟨r1, A, w1, rfl, C1⟩ := K_arrives hC ⟨p1, q1⟩
  obtain ⟨r2, B, w2, rfl, D2⟩ := R_arrives hD ⟨p1, q1⟩
  rw [w1, g_b_some, c.a, w2, g_b_some, if_pos rfl]
  exact kk _ _ _ ⟨_, t, st, mt, h, C1, D2, by omega, by omega⟩
theorem lw_28 (hk : k ≤ 512) (c : LC L x) (H : LW k M1 M2) (kk : ∀ (A B : gM) (o : Int64), LW (k + 1) A B → kn (x + 6) A B o = some true) : f_law_28 L xs kn x M1 M2 ov = some true := by
  obtain ⟨S, t, st, mt, h, hC, hD, hs, hm⟩ := H
  obtain ⟨z1, p1, q1, e1⟩ := i3_ex (xs (tn (x + 1)))
  obtain ⟨z2, p2, q2, e2⟩ := i3_ex (xs (tn (x + 2)))
  obtain ⟨z3, p3, q3, e3⟩ := i3_ex (xs (tn (x + 3)))
  rw [f_law_28, c.a, c.b, c.c]
  simp only [e1, e2, e3]
  obtain ⟨r1, A, w1, rfl, C1⟩ := K_odds hC ⟨p1, q1⟩ ⟨p2, q2⟩ ⟨p3, q3⟩
  obtain ⟨r2, B, w2, rfl, D2⟩ := R_odds hD ⟨p1, q1⟩ ⟨p2, q2⟩ ⟨p3, q3⟩
  rw [w1, g_b_some, c.a, c.b, c.c, w2, g_b_some, lg_self, if_pos rfl]
  exact kk _ _ _ ⟨_, t, st, mt, h, C1, D2, by omega, by omega⟩
theorem lw_29 (hk : k ≤ 512) (c : LC L x) (H : LW k M1 M2) (kk : ∀ (A B : gM) (o : Int64), LW (k + 1) A B → kn (x + 6) A B o = some true) : f_law_29 L xs kn x M1 M2 ov = some true := by
  obtain ⟨S, t, st, mt, h, hC, hD, hs, hm⟩ := H
  obtain ⟨z1, p1, q1, e1⟩ := i3_ex (xs (tn (x + 1)))
  rw [f_law_29, c.a]
  simp only [e1]
  obtain ⟨r1, A, w1, rfl, C1⟩ := K_learn hC ⟨p1, q1⟩
  obtain ⟨r2, B, w2, rfl, D2⟩ := R_learn hD ⟨p1, q1⟩
  rw [w1, g_b_some, c.a, w2, g_b_some, if_pos rfl]
  exact kk _ _ _ ⟨_, t, st, mt, h, C1, D2, by omega, by omega⟩
theorem lw_30 (hk : k ≤ 512) (c : LC L x) (H : LW k M1 M2) (kk : ∀ (A B : gM) (o : Int64), LW (k + 1) A B → kn (x + 6) A B o = some true) : f_law_30 L xs kn x M1 M2 ov = some true := by
  obtain ⟨S, t, st, mt, h, hC, hD, hs, hm⟩ := H
  obtain ⟨z1, p1, q1, e1⟩ := i3_ex (xs (tn (x + 1)))
  rw [f_law_30, c.a]
  simp only [e1]
  obtain ⟨r1, A, w1, rfl, C1⟩ := K_learned hC ⟨p1, q1⟩
  obtain ⟨r2, B, w2, rfl, D2⟩ := R_learned hD ⟨p1, q1⟩
  rw [w1, g_b_some, c.a, w2, g_b_some, if_pos rfl]
  exact kk _ _ _ ⟨_, t, st, mt, h, C1, D2, by omega, by omega⟩
theorem lw_31 (hk : k ≤ 512) (c : LC L x) (H : LW k M1 M2) (kk : ∀ (A B : gM) (o : Int64), LW (k + 1) A B → kn (x + 6) A B o = some true) : f_law_31 L xs kn x M1 M2 ov = some true := by
  obtain ⟨S, t, st, mt, h, hC, hD, hs, hm⟩ := H
  rw [f_law_31]
  obtain ⟨r1, A, w1, rfl, C1⟩ := K_forget hC 
  obtain ⟨r2, B, w2, rfl, D2⟩ := R_forget hD 
  rw [w1, g_b_some, w2, g_b_some, if_pos rfl]
  exact kk _ _ _ ⟨_, t, st, mt, h, C1, D2, by omega, by omega⟩
theorem lw_32 (hk : k ≤ 512) (c : LC L x) (H : LW k M1 M2) (kk : ∀ (A B : gM) (o : Int64), LW (k + 1) A B → kn (x + 6) A B o = some true) : f_law_32 L xs kn x M1 M2 ov = some true := by
  obtain ⟨S, t, st, mt, h, hC, hD, hs, hm⟩ := H
  obtain ⟨z1, p1, q1, e1⟩ := i3_ex (xs (tn (x + 1)))
  rw [f_law_32, c.a]
  simp only [e1]
  obtain ⟨r1, A, w1, rfl, C1⟩ := K_stand hC ⟨p1, q1⟩
  obtain ⟨r2, B, w2, rfl, D2⟩ := R_stand hD ⟨p1, q1⟩
  rw [w1, g_b_some, c.a, w2, g_b_some, if_pos rfl]
  exact kk _ _ _ ⟨_, t, st, mt, h, C1, D2, by omega, by omega⟩
theorem lw_33 (hk : k ≤ 512) (c : LC L x) (H : LW k M1 M2) (kk : ∀ (A B : gM) (o : Int64), LW (k + 1) A B → kn (x + 6) A B o = some true) : f_law_33 L xs kn x M1 M2 ov = some true := by
  obtain ⟨S, t, st, mt, h, hC, hD, hs, hm⟩ := H
  obtain ⟨z1, p1, q1, e1⟩ := i3_ex (xs (tn (x + 1)))
  obtain ⟨z2, p2, q2, e2⟩ := i3_ex (xs (tn (x + 2)))
  rw [f_law_33, c.a, c.b]
  simp only [e1, e2]
  obtain ⟨r1, A, w1, rfl, C1⟩ := K_beat hC ⟨p1, q1⟩ ⟨p2, q2⟩
  obtain ⟨r2, B, w2, rfl, n0, D2⟩ := R_beat hD ⟨p1, q1⟩ ⟨p2, q2⟩
  rw [w1, g_b_some, c.a, c.b, w2, g_b_some, f_X10_thrown, g_b_some, n0, i3_nI, if_pos rfl]
  dsimp only
  by_cases g : i3 (((aBt S z1 z2).1 : Nat) : Int) = 0
  · have g2 : (aBt S z1 z2).1 = 0 := by
      have := aBt_le S z1 z2
      rw [show (0 : Int32) = i3 0 from rfl, i3_eq (by omega) (by omega) (by omega) (by omega)] at g
      omega
    rw [if_pos g, if_pos g2, lg_self, if_pos rfl]
    exact kk _ _ _ ⟨_, t, st, mt, h, C1, D2, by omega, by omega⟩
  · rw [if_neg g]
    exact kk _ _ _ ⟨_, t, st, mt, h, C1, D2, by omega, by omega⟩
theorem lw_34 (hk : k ≤ 512) (c : LC L x) (H : LW k M1 M2) (kk : ∀ (A B : gM) (o : Int64), LW (k + 1) A B → kn (x + 6) A B o = some true) : f_law_34 L xs kn x M1 M2 ov = some true := by
  obtain ⟨S, t, st, mt, h, hC, hD, hs, hm⟩ := H
  rw [f_law_34]
  obtain ⟨r1, A, w1, rfl, C1⟩ := K_undo hC 
  obtain ⟨r2, B, w2, rfl, D2⟩ := R_undo hD 
  rw [w1, g_b_some, w2, g_b_some, if_pos rfl]
  exact kk _ _ _ ⟨_, t, st, mt, h, C1, D2, by omega, by omega⟩
theorem lw_35 (hk : k ≤ 512) (c : LC L x) (H : LW k M1 M2) (kk : ∀ (A B : gM) (o : Int64), LW (k + 1) A B → kn (x + 6) A B o = some true) : f_law_35 L xs kn x M1 M2 ov = some true := by
  obtain ⟨S, t, st, mt, h, hC, hD, hs, hm⟩ := H
  obtain ⟨z1, p1, q1, e1⟩ := i3_ex (xs (tn (x + 1)))
  obtain ⟨z2, p2, q2, e2⟩ := i3_ex (xs (tn (x + 2)))
  rw [f_law_35, c.a, c.b]
  simp only [e1, e2]
  obtain ⟨r1, A, w1, rfl, C1⟩ := K_walked hC ⟨p1, q1⟩ ⟨p2, q2⟩
  obtain ⟨r2, B, w2, rfl, D2⟩ := R_walked hD ⟨p1, q1⟩ ⟨p2, q2⟩
  rw [w1, g_b_some, c.a, c.b, w2, g_b_some, if_pos rfl]
  exact kk _ _ _ ⟨_, t, st, mt, h, C1, D2, by omega, by omega⟩
theorem lw_36 (hk : k ≤ 512) (c : LC L x) (H : LW k M1 M2) (kk : ∀ (A B : gM) (o : Int64), LW (k + 1) A B → kn (x + 6) A B o = some true) : f_law_36 L xs kn x M1 M2 ov = some true := by
  obtain ⟨S, t, st, mt, h, hC, hD, hs, hm⟩ := H
  rw [f_law_36]
  obtain ⟨r1, A, w1, rfl, C1⟩ := K_blame hC 
  obtain ⟨r2, B, w2, rfl, D2⟩ := R_blame hD 
  rw [w1, g_b_some, w2, g_b_some, if_pos rfl]
  exact kk _ _ _ ⟨_, t, st, mt, h, C1, D2, by omega, by omega⟩
theorem lw_37 (hk : k ≤ 512) (c : LC L x) (H : LW k M1 M2) (kk : ∀ (A B : gM) (o : Int64), LW (k + 1) A B → kn (x + 6) A B o = some true) : f_law_37 L xs kn x M1 M2 ov = some true := by
  obtain ⟨S, t, st, mt, h, hC, hD, hs, hm⟩ := H
  obtain ⟨z1, p1, q1, e1⟩ := i3_ex (xs (tn (x + 1)))
  obtain ⟨z3, p3, q3, e3⟩ := i3_ex (xs (tn (x + 3)))
  obtain ⟨z4, p4, q4, e4⟩ := i3_ex (xs (tn (x + 4)))
  obtain ⟨z5, p5, q5, e5⟩ := i3_ex (xs (tn (x + 5)))
  rw [f_law_37, c.a, c.b, c.c, c.d, c.e]
  simp only [e1, e3, e4, e5]
  obtain ⟨r1, A, w1, rfl, C1⟩ := K_drill (sd := xs (tn (x + 2))) hC ⟨p1, q1⟩ ⟨p3, q3⟩ ⟨p4, q4⟩ ⟨p5, q5⟩
  obtain ⟨r2, B, w2, rfl, D2⟩ := R_drill (sd := xs (tn (x + 2))) hD ⟨p1, q1⟩ ⟨p3, q3⟩ ⟨p4, q4⟩ ⟨p5, q5⟩
  rw [w1, g_b_some, c.a, c.b, c.c, c.d, c.e, w2, g_b_some, if_pos rfl]
  exact kk _ _ _ ⟨_, t, st, mt, h, C1, D2, by omega, by omega⟩
theorem lw_38 (hk : k ≤ 512) (c : LC L x) (H : LW k M1 M2) (kk : ∀ (A B : gM) (o : Int64), LW (k + 1) A B → kn (x + 6) A B o = some true) : f_law_38 L xs kn x M1 M2 ov = some true := by
  obtain ⟨S, t, st, mt, h, hC, hD, hs, hm⟩ := H
  obtain ⟨z1, p1, q1, e1⟩ := i3_ex (xs (tn (x + 1)))
  rw [f_law_38, c.a]
  simp only [e1]
  obtain ⟨r1, A, w1, rfl, C1⟩ := K_hold hC ⟨p1, q1⟩
  obtain ⟨r2, B, w2, rfl, D2⟩ := R_hold hD ⟨p1, q1⟩
  rw [w1, g_b_some, c.a, w2, g_b_some, if_pos rfl]
  exact kk _ _ _ ⟨_, t, st, mt, h, C1, D2, by omega, by omega⟩
theorem lw_39 (hk : k ≤ 512) (c : LC L x) (H : LW k M1 M2) (kk : ∀ (A B : gM) (o : Int64), LW (k + 1) A B → kn (x + 6) A B o = some true) : f_law_39 L xs kn x M1 M2 ov = some true := by
  obtain ⟨S, t, st, mt, h, hC, hD, hs, hm⟩ := H
  obtain ⟨z1, p1, q1, e1⟩ := i3_ex (xs (tn (x + 1)))
  obtain ⟨z2, p2, q2, e2⟩ := i3_ex (xs (tn (x + 2)))
  rw [f_law_39, c.a, c.b]
  simp only [e1, e2]
  obtain ⟨r1, A, w1, rfl, C1⟩ := K_compare hC ⟨p1, q1⟩ ⟨p2, q2⟩
  obtain ⟨r2, B, w2, rfl, D2⟩ := R_compare hD ⟨p1, q1⟩ ⟨p2, q2⟩
  rw [w1, g_b_some, c.a, c.b, w2, g_b_some, if_pos rfl]
  exact kk _ _ _ ⟨_, t, st, mt, h, C1, D2, by omega, by omega⟩
theorem lw_40 (hk : k ≤ 512) (c : LC L x) (H : LW k M1 M2) (kk : ∀ (A B : gM) (o : Int64), LW (k + 1) A B → kn (x + 6) A B o = some true) : f_law_40 L xs kn x M1 M2 ov = some true := by
  obtain ⟨S, t, st, mt, h, hC, hD, hs, hm⟩ := H
  obtain ⟨z1, p1, q1, e1⟩ := i3_ex (xs (tn (x + 1)))
  rw [f_law_40, c.a]
  simp only [e1]
  obtain ⟨r1, A, w1, rfl, C1⟩ := K_count hC ⟨p1, q1⟩
  obtain ⟨r2, B, w2, rfl, D2⟩ := R_count hD ⟨p1, q1⟩
  rw [w1, g_b_some, c.a, w2, g_b_some, if_pos rfl]
  exact kk _ _ _ ⟨_, t, st, mt, h, C1, D2, by omega, by omega⟩
end
