/-! ===== both parsers side by side: the pieces of a TELL ===== -/
def qOk (tb : Nat → Nat) (n i : Nat) (q : Nat × Nat) : Prop := (q.1 = 0 ∨ q.1 = 3 ∨ q.1 = 4 ∨ q.1 = 5) ∧ (q.1 ≠ 0 → q.2 < stT tb n i)
def PX (tb : Nat → Nat) (n t h : Nat) (D : dT) (sz cc lc : Nat) (q1 q2 : Nat × Nat) (i : Nat) (M N : gM) : Prop := CH tb n t i M ∧ DH tb n h i N ∧ (M.1 t 8 = i3 (sz : Int) ∧ N.1 28 h = i3 ((500 * h + cc : Nat) : Int) ∧ N.1 31 h = i3 ((200 * h + lc : Nat) : Int)) ∧ DC M N t h sz cc lc D ∧ cM q1 M ∧ rM q2 N
def PR (tb : Nat → Nat) (n t h i : Nat) (D : dT) (M N : gM) : Prop := ∃ sz cc lc q, PX tb n t h D sz cc lc q q i M N ∧ (sz ≤ i ∧ cc ≤ i ∧ 3 * lc ≤ i) ∧ qOk tb n i q ∧ (q.1 = 0 → dB D)
def tQ (tb : Nat → Nat) (n t h i0 : Nat) (M0 N0 : gM) (r1 : Bool) (M : gM) (r2 : Bool) (N : gM) : Prop := r1 = r2 ∧ PF1 t M0 M ∧ PF2 h N0 N ∧ (r1 = false → FL M N) ∧ (r1 = true → ∃ i' D, i0 < i' ∧ PR tb n t h i' D M N)
section
variable {tb : Nat → Nat} {n t h sz cc lc i i0 : Nat} {M M0 N N0 : gM} {D : dT} {q q1 q2 : Nat × Nat}
theorem t_f {f : Nat} (hf : f = 1 ∨ f = 2) (hC : CH tb n t i M) (p1 : PF1 t M0 M) (p2 : PF2 h N0 N) : tQ tb n t h i0 M0 N0 false (sI (sI M 21 1 (i3 (f : Int))) 21 0 (i3 ((stT tb n i : Nat) : Int))) false (sI (sI N 0 9 (i3 (f : Int))) 0 10 (i3 ((stT tb n i : Nat) : Int))) := ⟨rfl, p1.o.o, (p2.o (by unfold fR; omega)).o (by unfold fR; omega), fun _ => FL_m hf hC, fun g => by cases g⟩
theorem PX.mv (H : PX tb n t h D sz cc lc q1 q2 i M N) {i' : Nat} {q3 q4 : Nat × Nat} {M' N' : gM} (a : CH tb n t i' M') (b : DH tb n h i' N') (c1 : cM q3 M') (c2 : rM q4 N') (f1 : ∀ k, k ≠ 21 → M'.1 k = M.1 k) (f2 : M'.2.1 = M.2.1) (e1 : ∀ k, 6 ≤ k → k ≤ 37 → N'.1 k = N.1 k) (e2 : N'.2.1 = N.2.1) : PX tb n t h D sz cc lc q3 q4 i' M' N' := by
  obtain ⟨h1, h2, ⟨h3, h4, h5⟩, h6, h7, h8⟩ := H
  have ht := h1.1
  exact ⟨a, b, ⟨by rw [f1 t (by omega), h3], by rw [e1 28 (by omega) (by omega), h4], by rw [e1 31 (by omega) (by omega), h5]⟩, h6.c (fun k k1 k2 => f1 k (by omega)) (by rw [f2]) e1 (by rw [e2]), c1, c2⟩
theorem cM.mv (H : cM q M) {M' : gM} (e1 : M'.1 21 2 = M.1 21 2) (e2 : M'.1 21 3 = M.1 21 3) : cM q M' := by
  unfold cM
  rw [e1, e2]
  exact H
theorem rM.mv (H : rM q N) {N' : gM} (e1 : N'.1 0 11 = N.1 0 11) (e2 : N'.1 0 12 = N.1 0 12) : rM q N' := by
  unfold rM
  rw [e1, e2]
  exact H
theorem PX.st (H : PX tb n t h D sz cc lc q1 q2 i M N) (hi : i < 400) (hk : kdT tb n i < 30) : PX tb n t h D sz cc lc q1 q2 (i + 1) (sI M 21 4 (i3 ((i + 1 : Nat) : Int))) (sI N 0 8 (i3 ((i + 1 : Nat) : Int))) := H.mv (H.1.nx hi hk) (H.2.1.nx hi hk) (H.2.2.2.2.1.mv (by rw [rI_e, up_n (by decide)]) (by rw [rI_e, up_n (by decide)])) (H.2.2.2.2.2.mv (by rw [rI_e, up_n (by decide)]) (by rw [rI_e, up_n (by decide)])) (fun k hk => by rw [rI_n hk]) rfl (fun k k1 k2 => by rw [rI_n (by omega)]) rfl
theorem p_step (H : PX tb n t h D sz cc lc q1 q2 i M N) (p1 : PF1 t M0 M) (p2 : PF2 h N0 N) (hk : kdT tb n i < 30) {k1 k2 : gM → Option (Bool × gM)} (hK : ∀ M' N', i < 400 → PX tb n t h D sz cc lc q1 q2 (i + 1) M' N' → PF1 t M0 M' → PF2 h N0 N' → M'.1 21 5 = M.1 21 5 → N'.1 0 59 = N.1 0 59 → (∀ k, k ≠ 0 → N'.1 k = N.1 k) → N'.2 = N.2 → M'.2 = M.2 → w2 (k1 M') (k2 N') (tQ tb n t h i0 M0 N0)) : w2 (g_b (f_X1_step M) (fun r M' => if r then k1 M' else some (false, M'))) (g_b (f_X10_pass N) (fun r N' => if r then k2 N' else some (false, N'))) (tQ tb n t h i0 M0 N0) := by
  by_cases hi : i < 400
  · rw [H.1.step hi, H.2.1.pass hi, g_b_some, g_b_some, if_pos rfl, if_pos rfl]
    exact hK _ _ hi (H.st hi hk) p1.o (p2.o (by unfold fR; omega)) (by rw [rI_e, up_n (by decide)]) (by rw [rI_e, up_n (by decide)]) (fun k hk => by rw [rI_n hk]) rfl rfl
  · rw [H.1.stepF hi, H.2.1.passF hi, g_b_some, g_b_some, if_neg (by decide), if_neg (by decide), w2_s]
    exact t_f (Or.inr rfl) H.1 p1 p2
theorem CH.take (H : CH tb n t i M) {k : Nat} (hk : k < 32) : f_X1_take (i3 (k : Int)) M = if kdT tb n i = k then f_X1_step M else some (false, sI (sI M 21 1 (i3 ((1 : Nat) : Int))) 21 0 (i3 ((stT tb n i : Nat) : Int))) := by
  have := H.2.1.r.1
  rw [f_X1_take, H.kind, g_b_some]
  by_cases e : kdT tb n i = k
  · rw [if_pos (by rw [e]), if_pos e, K_id]
  · rw [if_neg (by rw [i3_eq (by omega) (by omega) (by omega) (by omega)]; omega), if_neg e, show (1 : Int32) = i3 ((1 : Nat) : Int) from rfl, H.fail, g_b_some]
theorem DH.takes (H : DH tb n h i N) {s : Nat} (hs : s < 6) : f_X10_takes (i3 (s : Int)) N = if rsT (kdT tb n i) = s then f_X10_pass N else some (false, sI (sI N 0 9 (i3 ((1 : Nat) : Int))) 0 10 (i3 ((stT tb n i : Nat) : Int))) := by
  obtain ⟨hh, hi, hD, -, h8, -⟩ := id H
  have h4 := hi.2.2.1
  obtain ⟨d1, -⟩ := hD i (by omega) (by omega) hi.2.2.2
  have hk := hi.r.1
  have rr := rs_r (kdT tb n i) (by omega)
  rw [f_X10_takes, h8, ck_ok (by omega) (by omega) (by omega), tn_n (by omega), d1]
  by_cases e : rsT (kdT tb n i) = s
  · rw [if_pos (by rw [e]), if_pos e, K_id]
  · rw [if_neg (by rw [i3_eq (by omega) (by omega) (by omega) (by omega)]; exact e), if_neg e, show (1 : Int32) = i3 ((1 : Nat) : Int) from rfl, H.wrong, g_b_some]
theorem p_take (H : PX tb n t h D sz cc lc q1 q2 i M N) (p1 : PF1 t M0 M) (p2 : PF2 h N0 N) {k s : Nat} (hk : k < 30) (hs : s < 6) (hks : ∀ j : Nat, j < 32 → (rsT j = s ↔ j = k)) {k1 k2 : gM → Option (Bool × gM)} (hK : ∀ M' N', i < 400 → kdT tb n i = k → PX tb n t h D sz cc lc q1 q2 (i + 1) M' N' → PF1 t M0 M' → PF2 h N0 N' → M'.1 21 5 = M.1 21 5 → N'.1 0 59 = N.1 0 59 → (∀ k, k ≠ 0 → N'.1 k = N.1 k) → N'.2 = N.2 → M'.2 = M.2 → w2 (k1 M') (k2 N') (tQ tb n t h i0 M0 N0)) : w2 (g_b (f_X1_take (i3 (k : Int)) M) (fun r M' => if r then k1 M' else some (false, M'))) (g_b (f_X10_takes (i3 (s : Int)) N) (fun r N' => if r then k2 N' else some (false, N'))) (tQ tb n t h i0 M0 N0) := by
  have hr := H.1.2.1.r.1
  have hks := hks (kdT tb n i) (by omega)
  rw [H.1.take (by omega), H.2.1.takes hs]
  by_cases e : kdT tb n i = k
  · rw [if_pos e, if_pos (hks.2 e)]
    exact p_step H p1 p2 (by omega) (fun M' N' hi hX a b c d e' f g => hK M' N' hi e hX a b c d e' f g)
  · rw [if_neg e, if_neg (fun g => e (hks.1 g)), g_b_some, g_b_some, if_neg nFT, if_neg nFT, w2_s]
    exact t_f (Or.inl rfl) H.1 p1 p2
theorem ks_17 : ∀ j : Nat, j < 32 → (rsT j = (0 : Nat) ↔ j = 17) := by decide +kernel
theorem ks_18 : ∀ j : Nat, j < 32 → (rsT j = (1 : Nat) ↔ j = 18) := by decide +kernel
theorem nt_f {f s : Nat} : ntM false f s q = q := by unfold ntM; rw [if_neg (by simp)]
theorem nt_6 {b : Bool} {f s : Nat} (h : q.1 < 6) (hf : f < 6) : (ntM b f s q).1 < 6 := by unfold ntM; split <;> assumption
/-- a number is taken -/
theorem c_int (H : CH tb n t i M) (hm : cM q M) (hq : q.1 < 6) (hk : kdT tb n i = 18) (hi : i < 400) {lo hi' : Int} (hlo : -20000 ≤ lo ∧ lo ≤ 20000) (hhi : -20000 ≤ hi' ∧ hi' ≤ 20000) : ∃ M', f_X1_takeInt (i3 lo) (i3 hi') M = some (true, M') ∧ M'.1 21 5 = i3 (vlT tb n i) ∧ cM (ntM (decide (vlT tb n i < lo ∨ hi' < vlT tb n i)) 5 (stT tb n i) q) M' ∧ (∀ k, k ≠ 21 → M'.1 k = M.1 k) ∧ M'.2 = M.2 ∧ CH tb n t (i + 1) M' := by
  have hv := H.2.1.r.2.2 hk
  have hcv := (H.2.2.1 i (by omega) (by omega) H.2.1.2.2.2).2.2 (by omega)
  have H1 : CH tb n t i (sI M 21 5 (i3 (vlT tb n i))) := H.mv (by rw [rI_n (by decide)]) (by rw [rI_n (by decide)]) rfl (by rw [rI_e, up_n (by decide)]) (by rw [rI_e, up_n (by decide)])
  have hm1 : cM q (sI M 21 5 (i3 (vlT tb n i))) := hm.mv (by rw [rI_e, up_n (by decide)]) (by rw [rI_e, up_n (by decide)])
  have e5 : (sI M 21 5 (i3 (vlT tb n i))).1 21 5 = i3 (vlT tb n i) := by rw [rI_e, up_e]
  have good : ∀ M2 : gM, CH tb n t i M2 → g_b (f_X1_take 18 M2) (fun r13 M12 => some (r13, M12)) = some (true, sI M2 21 4 (i3 ((i + 1 : Nat) : Int))) := fun M2 h2 => by rw [K_id, show (18 : Int32) = i3 ((18 : Nat) : Int) from rfl, h2.take (by omega), if_pos hk, h2.step hi]
  rw [f_X1_takeInt, H.value, g_b_some, hcv, i6_32, g_m, H1.kind, g_b_some, hk, if_pos (show i3 ((18 : Nat) : Int) = 18 from rfl), e5]
  obtain ⟨M2, a1, a2, a3, a4, a5⟩ := H1.note hm1 hq (f := 5)
  have H2 : CH tb n t i M2 := H1.mv (a3 24 (by decide)) (a3 25 (by decide)) a4 (a5 4 (by decide) (by decide)) (a5 1 (by decide) (by decide))
  have bad : f_X1_takeInt_34 (sI M 21 5 (i3 (vlT tb n i))) = some (true, sI M2 21 4 (i3 ((i + 1 : Nat) : Int))) := by
    rw [f_X1_takeInt_34, show (5 : Int32) = i3 ((5 : Nat) : Int) from rfl, a1, g_b_some, good M2 H2]
  have fb : (vlT tb n i < lo ∨ hi' < vlT tb n i) → ∃ M', some (true, sI M2 21 4 (i3 ((i + 1 : Nat) : Int))) = some (true, M') ∧ M'.1 21 5 = i3 (vlT tb n i) ∧ cM (ntM (decide (vlT tb n i < lo ∨ hi' < vlT tb n i)) 5 (stT tb n i) q) M' ∧ (∀ k, k ≠ 21 → M'.1 k = M.1 k) ∧ M'.2 = M.2 ∧ CH tb n t (i + 1) M' := fun g => ⟨_, rfl, by rw [rI_e, up_n (by decide), a5 5 (by decide) (by decide), e5], by rw [decide_eq_true g]; exact a2.mv (by rw [rI_e, up_n (by decide)]) (by rw [rI_e, up_n (by decide)]), fun k hk => by rw [rI_n hk, a3 k hk, rI_n hk], a4, H2.nx hi (by omega)⟩
  simp (disch := omega) only [i3_lt, i3_le]
  by_cases g1 : vlT tb n i < lo
  · rw [if_pos g1, bad]
    exact fb (Or.inl g1)
  · rw [if_neg g1]
    by_cases g2 : vlT tb n i ≤ hi'
    · rw [if_pos g2, good _ H1, decide_eq_false (by omega), nt_f]
      exact ⟨_, rfl, by rw [rI_e, up_n (by decide), e5], hm1.mv (by rw [rI_e, up_n (by decide)]) (by rw [rI_e, up_n (by decide)]), fun k hk => by rw [rI_n hk, rI_n hk], rfl, H1.nx hi (by omega)⟩
    · rw [if_neg g2, bad]
      exact fb (Or.inr (by omega))
theorem c_intF (H : CH tb n t i M) (hk : kdT tb n i ≠ 18) {lo hi' : Int32} : f_X1_takeInt lo hi' M = some (false, sI (sI (sI M 21 5 (M.2.1 26 i).toInt32) 21 1 (i3 ((1 : Nat) : Int))) 21 0 (i3 ((stT tb n i : Nat) : Int))) := by
  have hr := H.2.1.r.1
  have H1 : CH tb n t i (sI M 21 5 (M.2.1 26 i).toInt32) := H.mv (by rw [rI_n (by decide)]) (by rw [rI_n (by decide)]) rfl (by rw [rI_e, up_n (by decide)]) (by rw [rI_e, up_n (by decide)])
  rw [f_X1_takeInt, H.value, g_b_some, g_m, H1.kind, g_b_some, if_neg (by rw [show (18 : Int32) = i3 18 from rfl, i3_eq (by omega) (by omega) (by omega) (by omega)]; omega), K_id, show (18 : Int32) = i3 ((18 : Nat) : Int) from rfl, H1.take (by omega), if_neg hk]
theorem c_intG (H : CH tb n t i M) (hm : cM q M) (hq : q.1 < 6) (hk : kdT tb n i = 18) (hi : ¬ i < 400) {lo hi' : Int} : ∃ M1, f_X1_takeInt (i3 lo) (i3 hi') M = some (false, sI (sI M1 21 1 (i3 ((2 : Nat) : Int))) 21 0 (i3 ((stT tb n i : Nat) : Int))) ∧ CH tb n t i M1 ∧ (∀ k, k ≠ 21 → M1.1 k = M.1 k) ∧ M1.2 = M.2 := by
  have H1 : CH tb n t i (sI M 21 5 (M.2.1 26 i).toInt32) := H.mv (by rw [rI_n (by decide)]) (by rw [rI_n (by decide)]) rfl (by rw [rI_e, up_n (by decide)]) (by rw [rI_e, up_n (by decide)])
  have hm1 : cM q (sI M 21 5 (M.2.1 26 i).toInt32) := hm.mv (by rw [rI_e, up_n (by decide)]) (by rw [rI_e, up_n (by decide)])
  have good : ∀ M2 : gM, CH tb n t i M2 → g_b (f_X1_take 18 M2) (fun r13 M12 => some (r13, M12)) = some (false, sI (sI M2 21 1 (i3 ((2 : Nat) : Int))) 21 0 (i3 ((stT tb n i : Nat) : Int))) := fun M2 h2 => by rw [K_id, show (18 : Int32) = i3 ((18 : Nat) : Int) from rfl, h2.take (by omega), if_pos hk, h2.stepF hi]
  obtain ⟨M2, a1, a2, a3, a4, a5⟩ := H1.note hm1 hq (f := 5)
  have H2 : CH tb n t i M2 := H1.mv (a3 24 (by decide)) (a3 25 (by decide)) a4 (a5 4 (by decide) (by decide)) (a5 1 (by decide) (by decide))
  have bad : f_X1_takeInt_34 (sI M 21 5 (M.2.1 26 i).toInt32) = some (false, sI (sI M2 21 1 (i3 ((2 : Nat) : Int))) 21 0 (i3 ((stT tb n i : Nat) : Int))) := by
    rw [f_X1_takeInt_34, show (5 : Int32) = i3 ((5 : Nat) : Int) from rfl, a1, g_b_some, good M2 H2]
  have fb : ∃ M1, some (false, sI (sI M2 21 1 (i3 ((2 : Nat) : Int))) 21 0 (i3 ((stT tb n i : Nat) : Int))) = some (false, sI (sI M1 21 1 (i3 ((2 : Nat) : Int))) 21 0 (i3 ((stT tb n i : Nat) : Int))) ∧ CH tb n t i M1 ∧ (∀ k, k ≠ 21 → M1.1 k = M.1 k) ∧ M1.2 = M.2 := ⟨M2, rfl, H2, fun k hk => by rw [a3 k hk, rI_n hk], a4⟩
  rw [f_X1_takeInt, H.value, g_b_some, g_m, H1.kind, g_b_some, hk, if_pos (show i3 ((18 : Nat) : Int) = 18 from rfl)]
  split
  · rw [bad]; exact fb
  · split
    · rw [good _ H1]; exact ⟨_, rfl, H1, fun k hk => by rw [rI_n hk], rfl⟩
    · rw [bad]; exact fb
theorem r_int (H : DH tb n h i N) (hm : rM q N) (hq : q.1 < 6) (hp : q.1 ≠ 0 → q.2 < stT tb n i) (hk : kdT tb n i = 18) (hi : i < 400) {lo hi' : Int} (hlo : -20000 ≤ lo ∧ lo ≤ 20000) (hhi : -20000 ≤ hi' ∧ hi' ≤ 20000) : ∃ N', f_X10_takesInt (i3 lo) (i3 hi') N = some (true, N') ∧ N'.1 0 59 = i3 (vlT tb n i) ∧ rM (ntM (decide (vlT tb n i < lo ∨ hi' < vlT tb n i)) 5 (stT tb n i) q) N' ∧ (∀ k, k ≠ 0 → N'.1 k = N.1 k) ∧ N'.2 = N.2 ∧ DH tb n h (i + 1) N' ∧ (∀ j, j ≠ 8 → j ≠ 11 → j ≠ 12 → j ≠ 59 → N'.1 0 j = N.1 0 j) := by
  have hv := H.2.1.r.2.2 hk
  have d3 := (H.2.2.1 i (by omega) (by omega) H.2.1.2.2.2).2.2.1 hk
  have h8 := H.2.2.2.2.1
  have H1 := H.nx hi (by omega)
  rw [f_X10_takesInt, h8, g_v, show (1 : Int32) = i3 ((1 : Nat) : Int) from rfl, H.takes (by omega), if_pos ((ks_18 _ (by omega)).2 hk), H.pass hi, g_b_some, if_pos tTT, ck_ok (by omega) (by omega) (by omega), tn_n (by omega), rI_n (by decide), d3, g_m]
  have e59 : (sI (sI N 0 8 (i3 ((i + 1 : Nat) : Int))) 0 59 (i3 (vlT tb n i))).1 0 59 = i3 (vlT tb n i) := by rw [rI_e, up_e]
  have H2 : DH tb n h (i + 1) (sI (sI N 0 8 (i3 ((i + 1 : Nat) : Int))) 0 59 (i3 (vlT tb n i))) := H1.mv (by rw [rI_n (by decide)]) (by rw [rI_n (by decide)]) (by rw [rI_n (by decide)]) rfl (by rw [rI_e, up_n (by decide)]) (by rw [rI_e, up_n (by decide)]) (by rw [rI_e, up_n (by decide)])
  have hm2 : rM q (sI (sI N 0 8 (i3 ((i + 1 : Nat) : Int))) 0 59 (i3 (vlT tb n i))) := hm.mv (by rw [rI_e, up_n (by decide), rI_e, up_n (by decide)]) (by rw [rI_e, up_n (by decide), rI_e, up_n (by decide)])
  have ef : ∀ j, j ≠ 8 → j ≠ 59 → (sI (sI N 0 8 (i3 ((i + 1 : Nat) : Int))) 0 59 (i3 (vlT tb n i))).1 0 j = N.1 0 j := fun j a b => by rw [rI_e, up_n b, rI_e, up_n a]
  have ek : ∀ k, k ≠ 0 → (sI (sI N 0 8 (i3 ((i + 1 : Nat) : Int))) 0 59 (i3 (vlT tb n i))).1 k = N.1 k := fun k hk => by rw [rI_n hk, rI_n hk]
  have e2 : (sI (sI N 0 8 (i3 ((i + 1 : Nat) : Int))) 0 59 (i3 (vlT tb n i))).2 = N.2 := rfl
  generalize sI (sI N 0 8 (i3 ((i + 1 : Nat) : Int))) 0 59 (i3 (vlT tb n i)) = N2 at e59 H2 hm2 ef ek e2 ⊢
  rw [e59]
  obtain ⟨N3, a1, a2, a3, a4, a5⟩ := r_tells (f := 5) H2.2.2.1 H.2.1 hm2 hq (by omega) (fun g => Or.inl (hp g))
  have bad : f_X10_takesInt_41 (i3 (i : Int)) N2 = some (true, N3) := by
    rw [f_X10_takesInt_41, show (5 : Int32) = i3 ((5 : Nat) : Int) from rfl, a1, g_b_some]
  have fb : (vlT tb n i < lo ∨ hi' < vlT tb n i) → ∃ N', some (true, N3) = some (true, N') ∧ N'.1 0 59 = i3 (vlT tb n i) ∧ rM (ntM (decide (vlT tb n i < lo ∨ hi' < vlT tb n i)) 5 (stT tb n i) q) N' ∧ (∀ k, k ≠ 0 → N'.1 k = N.1 k) ∧ N'.2 = N.2 ∧ DH tb n h (i + 1) N' ∧ (∀ j, j ≠ 8 → j ≠ 11 → j ≠ 12 → j ≠ 59 → N'.1 0 j = N.1 0 j) := fun g => ⟨N3, rfl, by rw [a5 59 (by decide) (by decide), e59], by rw [decide_eq_true g]; exact a2, fun k hk => by rw [a3 k hk, ek k hk], by rw [a4, e2], H2.mv (a3 2 (by decide)) (a3 3 (by decide)) (a3 4 (by decide)) a4 (a5 14 (by decide) (by decide)) (a5 8 (by decide) (by decide)) (a5 9 (by decide) (by decide)), fun j j1 j2 j3 j4 => by rw [a5 j j2 j3, ef j j1 j4]⟩
  simp (disch := omega) only [i3_lt, i3_le]
  by_cases g1 : vlT tb n i < lo
  · rw [if_pos g1, bad]
    exact fb (Or.inl g1)
  · rw [if_neg g1]
    by_cases g2 : vlT tb n i ≤ hi'
    · rw [if_pos g2, decide_eq_false (by omega), nt_f]
      exact ⟨N2, rfl, e59, hm2, ek, e2, H2, fun j j1 j2 j3 j4 => ef j j1 j4⟩
    · rw [if_neg g2, bad]
      exact fb (Or.inr (by omega))
theorem PF1.c {M' : gM} (p1 : PF1 t M0 M) (a : ∀ k, k ≠ 21 → M'.1 k = M.1 k) (b : M'.2 = M.2) : PF1 t M0 M' := ⟨fun k k1 k2 k3 => ⟨by rw [a k k1]; exact (p1.1 k k1 k2 k3).1, by rw [b]; exact (p1.1 k k1 k2 k3).2⟩, by rw [b]; exact p1.2⟩
theorem PF2.c {N' : gM} (p2 : PF2 h N0 N) (a : ∀ k, k ≠ 0 → N'.1 k = N.1 k) (b : N'.2 = N.2) (d : ∀ j, ¬ fR j → N'.1 0 j = N.1 0 j) : PF2 h N0 N' := ⟨fun k k1 k2 k3 => ⟨by rw [a k k1]; exact (p2.1 k k1 k2 k3).1, by rw [b]; exact (p2.1 k k1 k2 k3).2⟩, fun j hj => by rw [d j hj]; exact p2.2.1 j hj, fun k j hj => by rw [a k (by unfold inH at hj; omega)]; exact p2.2.2 k j hj⟩
theorem p_int (H : PX tb n t h D sz cc lc q q i M N) (hq : qOk tb n i q) (p1 : PF1 t M0 M) (p2 : PF2 h N0 N) {l1 l2 hi' : Int} (hl1 : -20000 ≤ l1 ∧ l1 ≤ 20000) (hl2 : -20000 ≤ l2 ∧ l2 ≤ 20000) (hhi : -20000 ≤ hi' ∧ hi' ≤ 20000) {k1 k2 : gM → Option (Bool × gM)}
    (hK : ∀ v M' N', i < 400 → kdT tb n i = 18 → 0 ≤ v → v < 10000 → M'.1 21 5 = i3 v → N'.1 0 59 = i3 v → PX tb n t h D sz cc lc (ntM (decide (v < l1 ∨ hi' < v)) 5 (stT tb n i) q) (ntM (decide (v < l2 ∨ hi' < v)) 5 (stT tb n i) q) (i + 1) M' N' → PF1 t M0 M' → PF2 h N0 N' → (∀ k, k ≠ 0 → N'.1 k = N.1 k) → N'.2 = N.2 → M'.2 = M.2 → w2 (k1 M') (k2 N') (tQ tb n t h i0 M0 N0)) : w2 (g_b (f_X1_takeInt (i3 l1) (i3 hi') M) (fun r M' => if r then k1 M' else some (false, M'))) (g_b (f_X10_takesInt (i3 l2) (i3 hi') N) (fun r N' => if r then k2 N' else some (false, N'))) (tQ tb n t h i0 M0 N0) := by
  obtain ⟨h1, h2, h3, h4, h5, h6⟩ := id H
  have hq6 : q.1 < 6 := by have := hq.1; omega
  by_cases hk : kdT tb n i = 18
  · by_cases hi : i < 400
    · obtain ⟨M', a1, a2, a3, a4, a5, a6⟩ := c_int h1 h5 hq6 hk hi hl1 hhi
      obtain ⟨N', b1, b2, b3, b4, b5, b6, b7⟩ := r_int h2 h6 hq6 hq.2 hk hi hl2 hhi
      have hv := h1.2.1.r.2.2 hk
      rw [a1, b1, g_b_some, g_b_some, if_pos tTT, if_pos tTT]
      exact hK (vlT tb n i) M' N' hi hk hv.1 hv.2 a2 b2 (H.mv a6 b6 a3 b3 a4 (by rw [a5]) (fun k k1 k2 => b4 k (by omega)) (by rw [b5])) (p1.c a4 a5) (p2.c b4 b5 (fun j hj => b7 j (by unfold fR at hj; omega) (by unfold fR at hj; omega) (by unfold fR at hj; omega) (by unfold fR at hj; omega))) b4 b5 a5
    · obtain ⟨M1, a1, a2, a3, a4⟩ := c_intG h1 h5 hq6 hk hi (lo := l1) (hi' := hi')
      have h8 := h2.2.2.2.2.1
      have : f_X10_takesInt (i3 l2) (i3 hi') N = some (false, sI (sI N 0 9 (i3 ((2 : Nat) : Int))) 0 10 (i3 ((stT tb n i : Nat) : Int))) := by
        rw [f_X10_takesInt, h8, g_v, show (1 : Int32) = i3 ((1 : Nat) : Int) from rfl, h2.takes (by omega), if_pos ((ks_18 _ (by omega)).2 hk), h2.passF hi, g_b_some, if_neg nFT]
      rw [a1, this, g_b_some, g_b_some, if_neg nFT, if_neg nFT, w2_s]
      exact t_f (Or.inr rfl) a2 (p1.c a3 a4) p2
  · have h8 := h2.2.2.2.2.1
    have hr := h1.2.1.r.1
    have : f_X10_takesInt (i3 l2) (i3 hi') N = some (false, sI (sI N 0 9 (i3 ((1 : Nat) : Int))) 0 10 (i3 ((stT tb n i : Nat) : Int))) := by
      rw [f_X10_takesInt, h8, g_v, show (1 : Int32) = i3 ((1 : Nat) : Int) from rfl, h2.takes (by omega), if_neg (fun g => hk ((ks_18 _ (by omega)).1 g)), g_b_some, if_neg nFT]
    have H1 : CH tb n t i (sI M 21 5 (M.2.1 26 i).toInt32) := h1.mv (by rw [rI_n (by decide)]) (by rw [rI_n (by decide)]) rfl (by rw [rI_e, up_n (by decide)]) (by rw [rI_e, up_n (by decide)])
    rw [c_intF h1 hk, this, g_b_some, g_b_some, if_neg nFT, if_neg nFT, w2_s]
    exact t_f (Or.inl rfl) H1 p1.o p2
end
