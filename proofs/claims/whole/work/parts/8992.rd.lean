/-! ===== a text is read: where both begin ===== -/
def D0 : dT := ((4, 6, 3), (0, fun _ => 0, fun _ => 0, fun _ => 0, fun _ => []), (0, fun _ => (0, 0, 0, 0), fun _ => []), (0, fun _ => 0, fun _ => []), none, none)
def FrT (t : Nat) (M M' : gM) : Prop := ∀ k, ¬ (21 ≤ k ∧ k ≤ 26) → ¬ (t ≤ k ∧ k ≤ t + 8) → M'.1 k = M.1 k ∧ M'.2.1 k = M.2.1 k ∧ M'.2.2 k = M.2.2 k
def kR (r10 : Bool) (M9 : gM) : Option (Int32 × gM) := if r10 then (if (M9.1 0 11) = 0 then (f_X10_read_67 M9) else (g_m (sI M9 0 9 (M9.1 0 11)) (fun M17 => (g_m (sI M17 0 10 (M17.1 0 12)) (fun M18 => (f_X10_read_67 M18)))))) else (f_X10_read_67 M9)
section
variable {tb : Nat → Nat} {n t h : Nat} {M N : gM}
theorem c_untell (ht : t = 3 ∨ t = 12) : ∃ M', f_X4_untell t M = some ((), M') ∧ (∀ k, k ≠ t → M'.1 k = M.1 k) ∧ M'.2 = M.2 ∧ (M'.1 t 0 = i3 4 ∧ M'.1 t 1 = i3 6 ∧ M'.1 t 2 = i3 3 ∧ M'.1 t 3 = -1 ∧ M'.1 t 4 = -1 ∧ M'.1 t 5 = i3 0 ∧ M'.1 t 6 = i3 0 ∧ M'.1 t 7 = i3 0 ∧ M'.1 t 8 = i3 0) := by
  rw [f_X4_untell]
  simp only [g_m]
  refine ⟨_, rfl, fun k hk => ?_, rfl, ?_⟩
  · rw [rI_n hk, rI_n hk, rI_n hk, rI_n hk, rI_n hk, rI_n hk, rI_n hk, rI_n hk, rI_n hk]
  · simp only [rI_e, up_x]
    exact ⟨rfl, rfl, rfl, rfl, rfl, rfl, rfl, rfl, rfl⟩
theorem c_begin (hn : n ≤ 2000) (hb : ∀ i, i < n → tb i < 256) (ht1 : ∀ i : Nat, i < n → M.1 1 i = i3 (tb i)) (ht : t = 3 ∨ t = 12) : ∃ M3, f_X1_parse (i3 (n : Int)) t M = f_X1_parse_49 t FU 1 (i3 ((0 : Nat) : Int)) M3 ∧ FrT t M M3 ∧ CH tb n t 0 M3 ∧ cM (0, 0) M3 ∧ (M3.1 t 0 = i3 4 ∧ M3.1 t 1 = i3 6 ∧ M3.1 t 2 = i3 3 ∧ M3.1 t 3 = -1 ∧ M3.1 t 4 = -1 ∧ M3.1 t 5 = i3 0 ∧ M3.1 t 6 = i3 0 ∧ M3.1 t 7 = i3 0 ∧ M3.1 t 8 = i3 0) := by
  obtain ⟨u1, M1, e1, f1, c1⟩ := t_scan (M := M) hn hb ht1
  obtain ⟨M2, e2, f2, f3, v⟩ := c_untell (M := M1) ht
  rw [f_X1_parse, e1, g_b_some, e2, g_b_some]
  simp only [g_m]
  refine ⟨_, rfl, fun k k1 k2 => ⟨?_, ?_, ?_⟩, ⟨ht, ⟨hn, hb, by omega, fun j hj => by omega⟩, c1.c ?_ ?_ ?_, ?_, ?_, ?_, ?_⟩, ⟨?_, fun g => absurd rfl g⟩, ?_⟩
  · rw [rI_n (by omega), rI_n (by omega), rI_n (by omega), rI_n (by omega), rI_n (by omega), rR_1, f2 k (by omega), f1.e1 (by simp; omega)]
  · show M2.2.1 k = M.2.1 k
    rw [f3, f1.e2 (by simp; omega)]
  · show (sR M2 21 6 t).2.2 k = M.2.2 k
    rw [rR_n (by omega), f3, f1.e3 (by simp; omega)]
  · rw [rI_n (by omega), rI_n (by omega), rI_n (by omega), rI_n (by omega), rI_n (by omega), rR_1, f2 24 (by omega)]
  · rw [rI_n (by omega), rI_n (by omega), rI_n (by omega), rI_n (by omega), rI_n (by omega), rR_1, f2 25 (by omega)]
  · show M2.2.1 26 = M1.2.1 26
    rw [f3]
  · show (sR M2 21 6 t).2.2 21 6 = t
    rw [rR_e, uR_e]
  · simp only [rI_e, up_x]; rfl
  · simp only [rI_e, up_x]; rfl
  · simp only [rI_e, up_x]; rfl
  · simp only [rI_e, up_x]; rfl
  · have e : ∀ j, (sI (sI (sI (sI (sI (sR M2 21 6 t) 21 4 0) 21 1 0) 21 0 (-1)) 21 2 0) 21 3 (-1)).1 t j = M2.1 t j := fun j => by rw [rI_n (by omega), rI_n (by omega), rI_n (by omega), rI_n (by omega), rI_n (by omega), rR_1]
    rw [e, e, e, e, e, e, e, e, e]
    exact v
theorem r_begin (hT : TY tb n N) (hh : h < 2) (h13 : N.1 0 13 = i3 (h : Int)) : ∃ N3, f_X10_read N = g_b (f_X10_parses_5 FU N3) kR ∧ (∀ k, k ≠ 0 → ¬ (2 ≤ k ∧ k ≤ 37) → N3.1 k = N.1 k) ∧ (∀ k, k ≠ 0 → ¬ (2 ≤ k ∧ k ≤ 5) → N3.2.1 k = N.2.1 k) ∧ (∀ j, ¬ (j = 3 ∨ j = 8 ∨ j = 9 ∨ j = 10 ∨ j = 11 ∨ j = 14) → N3.1 0 j = N.1 0 j) ∧ (∀ k j, inH k h j → N3.1 k j = N.1 k j) ∧ DH tb n (1 - h) 0 N3 ∧ rM (0, 0) N3 ∧ (N3.1 6 (1 - h) = i3 4 ∧ N3.1 7 (1 - h) = i3 6 ∧ N3.1 8 (1 - h) = i3 3 ∧ N3.1 9 (2 * (1 - h)) = -1 ∧ N3.1 9 (2 * (1 - h) + 1) = -1 ∧ N3.1 11 (1 - h) = i3 0 ∧ N3.1 17 (1 - h) = i3 0 ∧ N3.1 24 (1 - h) = i3 0 ∧ N3.1 28 (1 - h) = i3 ((500 * (1 - h) + 0 : Nat) : Int) ∧ N3.1 31 (1 - h) = i3 ((200 * (1 - h) + 0 : Nat) : Int)) := by
  obtain ⟨u1, N1, e1, f1, c1⟩ := r_scanAll hT
  have h13' : N1.1 0 13 = i3 (h : Int) := by rw [f1.e0 (by decide), h13]
  obtain ⟨h', hh'⟩ : ∃ h', h' = 1 - h := ⟨_, rfl⟩
  rw [← hh']
  have e14 : (1 : Int32) - i3 (h : Int) = i3 (h' : Int) := by rw [iL1, i3_sub]; congr 1; omega
  have hN : f_X10_read N = (g_m (sI N1 0 9 (0 : Int32)) (fun M3 => (g_m (sI M3 0 10 ((-1) : Int32)) (fun M4 => (g_m (sI M4 0 11 (0 : Int32)) (fun M5 => (g_m (sI M5 0 14 ((1 : Int32) - (M5.1 0 13))) (fun M6 => (g_b (f_X10_begin (M6.1 0 14) M6) (fun r8 M7 => (g_b (f_X10_parses M7) kR))))))))))) := by
    rw [f_X10_read, e1, g_b_some]
    rfl
  rw [hN]
  simp only [g_m]
  have e13 : (sI (sI (sI N1 0 9 0) 0 10 (-1)) 0 11 0).1 0 13 = i3 (h : Int) := by simp only [rI_e, up_x]; exact h13'
  rw [e13, e14]
  have e14' : (sI (sI (sI (sI N1 0 9 0) 0 10 (-1)) 0 11 0) 0 14 (i3 (h' : Int))).1 0 14 = i3 (h' : Int) := by rw [rI_e, up_e]
  have k4 : ∀ k, k ≠ 0 → (sI (sI (sI (sI N1 0 9 0) 0 10 (-1)) 0 11 0) 0 14 (i3 (h' : Int))).1 k = N1.1 k := fun k hk => by rw [rI_n hk, rI_n hk, rI_n hk, rI_n hk]
  have j4 : ∀ j, (sI (sI (sI (sI N1 0 9 0) 0 10 (-1)) 0 11 0) 0 14 (i3 (h' : Int))).1 0 j = if j = 14 then i3 (h' : Int) else if j = 11 then 0 else if j = 10 then -1 else if j = 9 then 0 else N1.1 0 j := fun j => by simp only [rI_e, up_x]
  have l4 : (sI (sI (sI (sI N1 0 9 0) 0 10 (-1)) 0 11 0) 0 14 (i3 (h' : Int))).2 = N1.2 := rfl
  rw [e14']
  generalize sI (sI (sI (sI N1 0 9 0) 0 10 (-1)) 0 11 0) 0 14 (i3 (h' : Int)) = N4 at k4 j4 l4 ⊢
  rw [f_X10_begin]
  have x2 : (2 : Int32) * i3 (h' : Int) = i3 ((2 * h' : Nat) : Int) := by rw [iL2, i3_mul]; rfl
  have x3 : i3 ((2 * h' : Nat) : Int) + 1 = i3 ((2 * h' + 1 : Nat) : Int) := by rw [i3_s1]; rfl
  have x5 : (500 : Int32) * i3 (h' : Int) = i3 ((500 * h' + 0 : Nat) : Int) := by rw [iL500, i3_mul]; rfl
  have x20 : (200 : Int32) * i3 (h' : Int) = i3 ((200 * h' + 0 : Nat) : Int) := by rw [iL200, i3_mul]; rfl
  simp only [x2, x3, x5, x20, ck_ok (show (0 : Int) ≤ (h' : Int) by omega) (show (h' : Int) < (2 : Nat) by omega) (by decide), ck_ok (show (0 : Int) ≤ ((2 * h' : Nat) : Int) by omega) (show ((2 * h' : Nat) : Int) < (4 : Nat) by omega) (by decide), ck_ok (show (0 : Int) ≤ ((2 * h' + 1 : Nat) : Int) by omega) (show ((2 * h' + 1 : Nat) : Int) < (4 : Nat) by omega) (by decide), g_m, tn_n (show h' < 2147483648 by omega), tn_n (show 2 * h' < 2147483648 by omega), tn_n (show 2 * h' + 1 < 2147483648 by omega), g_b_some, f_X10_parses]
  generalize hNb : sI (sI (sI (sI (sI (sI (sI (sI (sI (sI (sI N4 6 h' 4) 7 h' 6) 8 h' 3) 9 (2 * h') (-1)) 9 (2 * h' + 1) (-1)) 11 h' 0) 17 h' 0) 24 h' 0) 28 h' (i3 ((500 * h' + 0 : Nat) : Int))) 31 h' (i3 ((200 * h' + 0 : Nat) : Int))) 0 8 0 = Nb
  have kb : ∀ k, ¬ (k = 0 ∨ k = 6 ∨ k = 7 ∨ k = 8 ∨ k = 9 ∨ k = 11 ∨ k = 17 ∨ k = 24 ∨ k = 28 ∨ k = 31) → Nb.1 k = N4.1 k := fun k hk => by
    rw [← hNb, rI_n (by omega), rI_n (by omega), rI_n (by omega), rI_n (by omega), rI_n (by omega), rI_n (by omega), rI_n (by omega), rI_n (by omega), rI_n (by omega), rI_n (by omega), rI_n (by omega)]
  have b0 : ∀ j, Nb.1 0 j = if j = 8 then 0 else N4.1 0 j := fun j => by
    rw [← hNb, rI_e, up_x, rI_n (by omega), rI_n (by omega), rI_n (by omega), rI_n (by omega), rI_n (by omega), rI_n (by omega), rI_n (by omega), rI_n (by omega), rI_n (by omega), rI_n (by omega)]
  have bs : ∀ j, (Nb.1 6 j = if j = h' then 4 else N4.1 6 j) ∧ (Nb.1 7 j = if j = h' then 6 else N4.1 7 j) ∧ (Nb.1 8 j = if j = h' then 3 else N4.1 8 j) ∧ (Nb.1 9 j = if j = 2 * h' + 1 then -1 else if j = 2 * h' then -1 else N4.1 9 j) ∧ (Nb.1 11 j = if j = h' then 0 else N4.1 11 j) ∧ (Nb.1 17 j = if j = h' then 0 else N4.1 17 j) ∧ (Nb.1 24 j = if j = h' then 0 else N4.1 24 j) ∧ (Nb.1 28 j = if j = h' then i3 ((500 * h' + 0 : Nat) : Int) else N4.1 28 j) ∧ (Nb.1 31 j = if j = h' then i3 ((200 * h' + 0 : Nat) : Int) else N4.1 31 j) := fun j => by
    rw [← hNb]
    refine ⟨?_, ?_, ?_, ?_, ?_, ?_, ?_, ?_, ?_⟩
    · rw [rI_n (by omega), rI_n (by omega), rI_n (by omega), rI_n (by omega), rI_n (by omega), rI_n (by omega), rI_n (by omega), rI_n (by omega), rI_n (by omega), rI_n (by omega), rI_e, up_x]
    · rw [rI_n (by omega), rI_n (by omega), rI_n (by omega), rI_n (by omega), rI_n (by omega), rI_n (by omega), rI_n (by omega), rI_n (by omega), rI_n (by omega), rI_e, up_x, rI_n (by omega)]
    · rw [rI_n (by omega), rI_n (by omega), rI_n (by omega), rI_n (by omega), rI_n (by omega), rI_n (by omega), rI_n (by omega), rI_n (by omega), rI_e, up_x, rI_n (by omega), rI_n (by omega)]
    · rw [rI_n (by omega), rI_n (by omega), rI_n (by omega), rI_n (by omega), rI_n (by omega), rI_n (by omega), rI_e, up_x, rI_e, up_x, rI_n (by omega), rI_n (by omega), rI_n (by omega)]
    · rw [rI_n (by omega), rI_n (by omega), rI_n (by omega), rI_n (by omega), rI_n (by omega), rI_e, up_x, rI_n (by omega), rI_n (by omega), rI_n (by omega), rI_n (by omega), rI_n (by omega)]
    · rw [rI_n (by omega), rI_n (by omega), rI_n (by omega), rI_n (by omega), rI_e, up_x, rI_n (by omega), rI_n (by omega), rI_n (by omega), rI_n (by omega), rI_n (by omega), rI_n (by omega)]
    · rw [rI_n (by omega), rI_n (by omega), rI_n (by omega), rI_e, up_x, rI_n (by omega), rI_n (by omega), rI_n (by omega), rI_n (by omega), rI_n (by omega), rI_n (by omega), rI_n (by omega)]
    · rw [rI_n (by omega), rI_n (by omega), rI_e, up_x, rI_n (by omega), rI_n (by omega), rI_n (by omega), rI_n (by omega), rI_n (by omega), rI_n (by omega), rI_n (by omega), rI_n (by omega)]
    · rw [rI_n (by omega), rI_e, up_x, rI_n (by omega), rI_n (by omega), rI_n (by omega), rI_n (by omega), rI_n (by omega), rI_n (by omega), rI_n (by omega), rI_n (by omega), rI_n (by omega)]
  have b2 : Nb.2 = N1.2 := by rw [← hNb, ← l4]; rfl
  refine ⟨Nb, rfl, fun k k1 k2 => ?_, fun k k1 k2 => ?_, fun j hj => ?_, fun k j hj => ?_, ⟨by omega, ⟨hT.1, hT.2.1, by omega, fun j hj => by omega⟩, c1.c ?_ ?_ ?_ ?_, ?_, ?_, ?_, ?_⟩, ⟨?_, fun g => absurd rfl g⟩, ?_⟩
  · rw [kb k (by omega), k4 k k1, f1.e1 k1 (by simp; omega)]
  · rw [b2, f1.e2 k1 (by simp; omega)]
  · rw [b0, if_neg (by omega), j4, if_neg (by omega), if_neg (by omega), if_neg (by omega), if_neg (by omega), f1.e0 (by simp; omega)]
  · have hj1 := hj
    unfold inH at hj1
    have hN4 : N4.1 k j = N.1 k j := by rw [k4 k (by omega), f1.e1 (by omega) (by simp; omega)]
    obtain ⟨s6, s7, s8, s9, s11, s17, s24, s28, s31⟩ := bs j
    by_cases g : k = 6 ∨ k = 7 ∨ k = 8 ∨ k = 9 ∨ k = 11 ∨ k = 17 ∨ k = 24 ∨ k = 28 ∨ k = 31
    · rcases g with g | g | g | g | g | g | g | g | g <;> subst g
      · rw [s6, if_neg (by omega), hN4]
      · rw [s7, if_neg (by omega), hN4]
      · rw [s8, if_neg (by omega), hN4]
      · rw [s9, if_neg (by omega), if_neg (by omega), hN4]
      · rw [s11, if_neg (by omega), hN4]
      · rw [s17, if_neg (by omega), hN4]
      · rw [s24, if_neg (by omega), hN4]
      · omega
      · omega
    · rw [kb k (by omega), hN4]
  · rw [kb 2 (by omega), k4 2 (by omega)]
  · rw [kb 3 (by omega), k4 3 (by omega)]
  · rw [kb 4 (by omega), k4 4 (by omega)]
  · rw [b2]
  · rw [b0, if_neg (by omega), j4, if_pos rfl]
  · rw [b0, if_pos rfl]; rfl
  · rw [b0, if_neg (by omega), j4, if_neg (by omega), if_neg (by omega), if_neg (by omega), if_pos rfl]
  · rw [b0, if_neg (by omega), j4, if_neg (by omega), if_neg (by omega), if_pos rfl]
  · rw [b0, if_neg (by omega), j4, if_neg (by omega), if_pos rfl]; rfl
  · obtain ⟨s6, s7, s8, -, s11, s17, s24, s28, s31⟩ := bs h'
    have s9a := (bs (2 * h')).2.2.2.1
    have s9b := (bs (2 * h' + 1)).2.2.2.1
    rw [s6, s7, s8, s9a, s9b, s11, s17, s24, s28, s31, if_pos rfl, if_pos rfl, if_pos rfl, if_neg (by omega), if_pos rfl, if_pos rfl, if_pos rfl, if_pos rfl, if_pos rfl, if_pos rfl, if_pos rfl]
    exact ⟨rfl, rfl, rfl, rfl, rfl, rfl, rfl, rfl, rfl, rfl⟩
theorem PR_0 (hC : CH tb n t 0 M) (hc : cM (0, 0) M) (v : M.1 t 0 = i3 4 ∧ M.1 t 1 = i3 6 ∧ M.1 t 2 = i3 3 ∧ M.1 t 3 = -1 ∧ M.1 t 4 = -1 ∧ M.1 t 5 = i3 0 ∧ M.1 t 6 = i3 0 ∧ M.1 t 7 = i3 0 ∧ M.1 t 8 = i3 0) (hD : DH tb n h 0 N) (hr : rM (0, 0) N) (w : N.1 6 h = i3 4 ∧ N.1 7 h = i3 6 ∧ N.1 8 h = i3 3 ∧ N.1 9 (2 * h) = -1 ∧ N.1 9 (2 * h + 1) = -1 ∧ N.1 11 h = i3 0 ∧ N.1 17 h = i3 0 ∧ N.1 24 h = i3 0 ∧ N.1 28 h = i3 ((500 * h + 0 : Nat) : Int) ∧ N.1 31 h = i3 ((200 * h + 0 : Nat) : Int)) : PR tb n t h 0 D0 M N := by
  obtain ⟨v0, v1, v2, v3, v4, v5, v6, v7, v8⟩ := v
  obtain ⟨w6, w7, w8, w9, w9b, w11, w17, w24, w28, w31⟩ := w
  refine ⟨0, 0, 0, (0, 0), ⟨hC, hD, ⟨v8, w28, w31⟩, ⟨⟨⟨v0, v1, v2⟩, w6, w7, w8⟩, ⟨⟨v5, v6, v7⟩, ⟨w11, w17, w24⟩, by decide, by decide, by decide⟩, fun a ha => absurd ha (Nat.not_lt_zero _), fun a ha => absurd ha (Nat.not_lt_zero _), fun a ha => absurd ha (Nat.not_lt_zero _), Or.inl ⟨rfl, v3, w9⟩, Or.inl ⟨rfl, v4, w9b⟩⟩, hc, hr⟩, ⟨by omega, by omega, by omega⟩, ⟨Or.inl rfl, fun g => absurd rfl g⟩, fun _ => ⟨by decide, fun a ha => absurd ha (Nat.not_lt_zero _), fun a ha => absurd ha (Nat.not_lt_zero _), fun a ha => absurd ha (Nat.not_lt_zero _)⟩⟩
end
