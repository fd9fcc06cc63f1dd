/-! ===== all TELLS, one behind another ===== -/
theorem p_wr {P : gM → Option (Bool × gM)} {M4 : gM} : g_b (f_X10_wrong 1 M4) (fun r9 M8 => some (r9, M8)) = g_b (f_X10_wrong 1 M4) (fun r M => if r then P M else some (false, M)) := by
  rw [f_X10_wrong, g_m]
  unfold g_ck
  split
  · rfl
  · rfl
theorem p_pE {P : gM → Option (Bool × gM)} {M2 : gM} : g_b (f_X10_isSign 59 M2) (fun r5 M4 => if r5 then g_b (f_X10_pass M4) (fun r7 M6 => if r7 then P M6 else some (false, M6)) else g_b (f_X10_wrong 1 M4) (fun r9 M8 => some (r9, M8))) = g_b (pE2 M2) (fun r M => if r then P M else some (false, M)) := by
  rw [pE2, g_ass]
  congr 1
  funext r5 M4
  cases r5 with
  | true => rfl
  | false => exact p_wr
section
variable {tb : Nat → Nat} {n t h sz cc lc i i0 : Nat} {M M0 N N0 : gM} {D : dT} {q q1 q2 : Nat × Nat}
theorem p_5 {m : Nat} : f_X10_parses_5 (m + 1) N = (g_ck (N.1 0 8) 2001 (if (N.1 2 (tn (N.1 0 8))) = (4 : Int32) then (some (true, N)) else g_b (g_b (f_X10_tell N) (fun r3 M2 => if r3 then pE2 M2 else some (false, M2))) (fun r M => if r then f_X10_parses_5 m M else some (false, M)))) := by
  rw [f_X10_parses_5, g_i2]
  congr 2
  congr 1
  funext r3 M2
  cases r3 with
  | true => exact p_pE
  | false => rfl
theorem p_tell (H : DH tb n h i N) : f_X10_tell N = (if kdT tb n i < 17 then f_X10_tell_26 (i3 (rwT (kdT tb n i))) N else f_X10_tell_26 (-1) N) := by
  obtain ⟨hh, hi, hD, -, h8, -⟩ := id H
  have h4 := hi.2.2.1
  obtain ⟨d1, d2, d3, d4, d5⟩ := hD i (by omega) (by omega) hi.2.2.2
  have hk := hi.r.1
  have r3 := rs_3 (kdT tb n i) (by omega)
  have rr := rs_r (kdT tb n i) (by omega)
  rw [f_X10_tell, h8, ck_ok (by omega) (by omega) (by omega), ck_ok (by omega) (by omega) (by omega), tn_n (by omega), d1, iL3]
  by_cases g : kdT tb n i < 17
  · rw [if_pos (by rw [r3.2 g]), if_pos g, d4 (by omega) (by omega)]
  · rw [if_neg (by rw [i3_eq (by omega) (by omega) (by omega) (by omega)]; exact fun e => g (r3.1 e)), if_neg g]
/-- what the class does with a TELL by its first word -/
def cTl (k : Nat) (M : gM) : Option (Bool × gM) := if k = 1 ∨ k = 2 then f_X1_tellLaw (i3 (k : Int)) M else if k = 6 ∨ k = 7 ∨ k = 8 then f_X1_tellSize (i3 (k : Int)) M else if k = 9 then f_X1_tellAct M else if k = 10 then f_X1_tellGusts M else if k = 11 then f_X1_tellReflex M else f_X1_fail 1 M
theorem T_tell (hR : PR tb n t h i D M N) : w2 (cTl (kdT tb n i) M) (g_b (f_X10_tell N) (fun r3 M2 => if r3 then pE2 M2 else some (false, M2))) (tQ tb n t h i M N) := by
  obtain ⟨sz, cc, lc, q, H, hb⟩ := id hR
  have hr := H.1.2.1.r.1
  have hmis : f_X10_tell N = g_b (f_X10_wrong 1 N) (fun r4 M3 => some (r4, M3)) → cTl (kdT tb n i) M = f_X1_fail 1 M → w2 (cTl (kdT tb n i) M) (g_b (f_X10_tell N) (fun r3 M2 => if r3 then pE2 M2 else some (false, M2))) (tQ tb n t h i M N) := by
    intro g1 g2
    rw [g1, g2, K_id, show (1 : Int32) = i3 ((1 : Nat) : Int) from rfl, H.1.fail, H.2.1.wrong, g_b_some, if_neg nFT, w2_s]
    exact t_f (Or.inl rfl) H.1 PF1.rf PF2.rf
  have hp := p_tell H.2.1
  by_cases k17 : kdT tb n i < 17
  · rw [if_pos k17] at hp
    have hcase : kdT tb n i = 0 ∨ kdT tb n i = 1 ∨ kdT tb n i = 2 ∨ kdT tb n i = 3 ∨ kdT tb n i = 4 ∨ kdT tb n i = 5 ∨ kdT tb n i = 6 ∨ kdT tb n i = 7 ∨ kdT tb n i = 8 ∨ kdT tb n i = 9 ∨ kdT tb n i = 10 ∨ kdT tb n i = 11 ∨ kdT tb n i = 12 ∨ kdT tb n i = 13 ∨ kdT tb n i = 14 ∨ kdT tb n i = 15 ∨ kdT tb n i = 16 := by omega
    rcases hcase with g | g | g | g | g | g | g | g | g | g | g | g | g | g | g | g | g
    · exact hmis (by rw [hp, g]; rfl) (by rw [g]; rfl)
    · have := T_law (b := true) hR g
      rw [show f_X10_tell N = f_X10_tellLaw (b2i true) N by rw [hp, g]; exact K_id]
      rw [g] at this ⊢
      exact this
    · have := T_law (b := false) hR g
      rw [show f_X10_tell N = f_X10_tellLaw (b2i false) N by rw [hp, g]; exact K_id]
      rw [g] at this ⊢
      exact this
    · exact hmis (by rw [hp, g]; rfl) (by rw [g]; rfl)
    · exact hmis (by rw [hp, g]; rfl) (by rw [g]; rfl)
    · exact hmis (by rw [hp, g]; rfl) (by rw [g]; rfl)
    · have := T_size (j := 0) (by omega) hR g
      rw [show f_X10_tell N = f_X10_tellNumber (i3 ((0 : Nat) : Int)) N by rw [hp, g]; exact K_id, g]
      exact this
    · have := T_size (j := 1) (by omega) hR g
      rw [show f_X10_tell N = f_X10_tellNumber (i3 ((1 : Nat) : Int)) N by rw [hp, g]; exact K_id, g]
      exact this
    · have := T_size (j := 2) (by omega) hR g
      rw [show f_X10_tell N = f_X10_tellNumber (i3 ((2 : Nat) : Int)) N by rw [hp, g]; exact K_id, g]
      exact this
    · have := T_act hR g
      rw [show f_X10_tell N = f_X10_tellAct N by rw [hp, g]; exact K_id, g]
      exact this
    · have := T_gust hR g
      rw [show f_X10_tell N = f_X10_tellGusts N by rw [hp, g]; exact K_id, g]
      exact this
    · have := T_refl hR g
      rw [show f_X10_tell N = f_X10_tellReflex N by rw [hp, g]; exact K_id, g]
      exact this
    · exact hmis (by rw [hp, g]; rfl) (by rw [g]; rfl)
    · exact hmis (by rw [hp, g]; rfl) (by rw [g]; rfl)
    · exact hmis (by rw [hp, g]; rfl) (by rw [g]; rfl)
    · exact hmis (by rw [hp, g]; rfl) (by rw [g]; rfl)
    · exact hmis (by rw [hp, g]; rfl) (by rw [g]; rfl)
  · rw [if_neg k17] at hp
    refine hmis (by rw [hp]; rfl) ?_
    unfold cTl
    rw [if_neg (by omega), if_neg (by omega), if_neg (by omega), if_neg (by omega), if_neg (by omega)]
theorem p_49 {m st : Nat} (H : CH tb n t i M) (hst : st ≤ 400) (h30 : kdT tb n i ≠ 30) : f_X1_parse_49 t (m + 1) 1 (i3 (st : Int)) M = g_b (cTl (kdT tb n i) M) (fun r M' => f_X1_parse_49 t m (b2i r) (i3 ((st + 1 : Nat) : Int)) M') := by
  have hr := H.2.1.r.1
  rw [f_X1_parse_49, iL400, if_neg (by rw [i3_lt (by omega) (by omega) (by omega) (by omega)]; omega), if_neg n10, H.kind, g_b_some, if_neg (by rw [show (30 : Int32) = i3 30 from rfl, i3_eq (by omega) (by omega) (by omega) (by omega)]; omega), H.kind, g_b_some, i3_s1]
  have ne : ∀ c : Int, 0 ≤ c → c < 100 → ((kdT tb n i : Nat) : Int) ≠ c → ¬ i3 ((kdT tb n i : Nat) : Int) = i3 c := fun c c1 c2 c3 => by rw [i3_eq (by omega) (by omega) (by omega) (by omega)]; exact c3
  unfold cTl
  simp only [H.kind, g_b_some]
  by_cases k1 : kdT tb n i = 1
  · rw [if_pos (show i3 ((kdT tb n i : Nat) : Int) = 1 by rw [k1]; rfl), if_pos (Or.inl k1)]; rfl
  rw [if_neg (show ¬ i3 ((kdT tb n i : Nat) : Int) = 1 from ne 1 (by omega) (by omega) (by omega))]
  by_cases k2 : kdT tb n i = 2
  · rw [if_pos (show i3 ((kdT tb n i : Nat) : Int) = 2 by rw [k2]; rfl), if_pos (Or.inr k2)]; rfl
  rw [if_neg (show ¬ i3 ((kdT tb n i : Nat) : Int) = 2 from ne 2 (by omega) (by omega) (by omega)), if_neg (show ¬ (kdT tb n i = 1 ∨ kdT tb n i = 2) by omega)]
  by_cases k6 : kdT tb n i = 6
  · rw [if_pos (show i3 ((kdT tb n i : Nat) : Int) = 6 by rw [k6]; rfl), if_pos (Or.inl k6)]; rfl
  rw [if_neg (show ¬ i3 ((kdT tb n i : Nat) : Int) = 6 from ne 6 (by omega) (by omega) (by omega))]
  by_cases k7 : kdT tb n i = 7
  · rw [if_pos (show i3 ((kdT tb n i : Nat) : Int) = 7 by rw [k7]; rfl), if_pos (Or.inr (Or.inl k7))]; rfl
  rw [if_neg (show ¬ i3 ((kdT tb n i : Nat) : Int) = 7 from ne 7 (by omega) (by omega) (by omega))]
  by_cases k8 : kdT tb n i = 8
  · rw [if_pos (show i3 ((kdT tb n i : Nat) : Int) = 8 by rw [k8]; rfl), if_pos (Or.inr (Or.inr k8))]; rfl
  rw [if_neg (show ¬ i3 ((kdT tb n i : Nat) : Int) = 8 from ne 8 (by omega) (by omega) (by omega)), if_neg (show ¬ (kdT tb n i = 6 ∨ kdT tb n i = 7 ∨ kdT tb n i = 8) by omega)]
  by_cases k9 : kdT tb n i = 9
  · rw [if_pos (show i3 ((kdT tb n i : Nat) : Int) = 9 by rw [k9]; rfl), if_pos k9]; rfl
  rw [if_neg (show ¬ i3 ((kdT tb n i : Nat) : Int) = 9 from ne 9 (by omega) (by omega) (by omega)), if_neg k9]
  by_cases k10 : kdT tb n i = 10
  · rw [if_pos (show i3 ((kdT tb n i : Nat) : Int) = 10 by rw [k10]; rfl), if_pos k10]; rfl
  rw [if_neg (show ¬ i3 ((kdT tb n i : Nat) : Int) = 10 from ne 10 (by omega) (by omega) (by omega)), if_neg k10]
  by_cases k11 : kdT tb n i = 11
  · rw [if_pos (show i3 ((kdT tb n i : Nat) : Int) = 11 by rw [k11]; rfl), if_pos k11]; rfl
  rw [if_neg (show ¬ i3 ((kdT tb n i : Nat) : Int) = 11 from ne 11 (by omega) (by omega) (by omega)), if_neg k11]
  rfl
theorem P_loop : ∀ (k n1 m1 i st : Nat) (D : dT) (M N : gM), 401 ≤ i + k → k + 1 < n1 → k < m1 → st ≤ i → PR tb n t h i D M N → PF1 t M0 M → PF2 h N0 N → ∃ M' r N', f_X1_parse_49 t n1 1 (i3 (st : Int)) M = f_X1_parse_198 t M' ∧ f_X10_parses_5 m1 N = some (r, N') ∧ PF1 t M0 M' ∧ PF2 h N0 N' ∧ (r = false → FL M' N') ∧ (r = true → ∃ i' D', PR tb n t h i' D' M' N') := by
  intro k
  induction k with
  | zero =>
    intro n1 m1 i st D M N h1 h2 h3 h4 hR
    obtain ⟨sz, cc, lc, q, H, -⟩ := hR
    have := H.1.2.1.2.2.1
    omega
  | succ k ih =>
    intro n1 m1 i st D M N h1 h2 h3 h4 hR p1 p2
    obtain ⟨sz, cc, lc, q, H, hb⟩ := id hR
    have hi4 := H.1.2.1.2.2.1
    have hr := H.1.2.1.r.1
    cases n1 with
    | zero => omega
    | succ n1 =>
    cases m1 with
    | zero => omega
    | succ m1 =>
    have h8 := H.2.1.2.2.2.2.1
    have d1 := (H.2.1.2.2.1 i (by omega) (by omega) H.2.1.2.1.2.2.2).1
    have rr := rs_r (kdT tb n i) (by omega)
    have r4 : rsT (kdT tb n i) = 4 ↔ kdT tb n i = 30 := by
      have : ∀ q : Nat, q < 32 → (rsT q = 4 ↔ q = 30) := by decide +kernel
      exact this _ (by omega)
    rw [p_5, h8, ck_ok (by omega) (by omega) (by omega), tn_n (by omega), d1, iL4]
    by_cases k30 : kdT tb n i = 30
    · rw [if_pos (by rw [r4.2 k30]), f_X1_parse_49, iL400, if_neg (by rw [i3_lt (by omega) (by omega) (by omega) (by omega)]; omega), if_neg n10, H.1.kind, g_b_some, if_pos (show i3 ((kdT tb n i : Nat) : Int) = 30 by rw [k30]; rfl)]
      exact ⟨M, true, N, rfl, rfl, p1, p2, fun g => (by cases g), fun _ => ⟨i, D, hR⟩⟩
    · rw [if_neg (by rw [i3_eq (by omega) (by omega) (by omega) (by omega)]; exact fun g => k30 (r4.1 g)), p_49 H.1 (by omega) k30]
      obtain ⟨r1, M1, e1, r2, N1, e2, rfl, q1, q2, q3, q4⟩ := T_tell hR
      rw [e1, e2, g_b_some, g_b_some]
      cases r1 with
      | false =>
        rw [if_neg nFT]
        cases n1 with
        | zero => omega
        | succ n1 =>
        refine ⟨M1, false, N1, ?_, rfl, p1.tr q1, p2.tr q2, fun _ => q3 rfl, fun g => by cases g⟩
        rw [f_X1_parse_49, if_pos eF0, ite_self]
      | true =>
        obtain ⟨i', D', a1, a2⟩ := q4 rfl
        rw [if_pos tTT]
        have hi' : i' ≤ 400 := by obtain ⟨_, _, _, _, H', _⟩ := a2; exact H'.1.2.1.2.2.1
        exact ih n1 m1 i' (st + 1) D' M1 N1 (by omega) (by omega) (by omega) (by omega) a2 (p1.tr q1) (p2.tr q2)
end
