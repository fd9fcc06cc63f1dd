/-! ===== numbers with a sign, and CONDS that may stand ===== -/
section
variable {tb : Nat → Nat} {n t h sz cc lc i i0 : Nat} {M M0 N N0 : gM} {D : dT} {q q1 q2 : Nat × Nat}
def sgV (neg : Bool) (v : Int) : Int := if neg then -v else v
theorem c_75 (H : CH tb n t i M) {x : Int32} : f_X1_takeSigned_75 x M = if kdT tb n i = 18 then f_X1_step (sI M 21 5 x) else some (false, sI (sI (sI M 21 5 x) 21 1 (i3 ((1 : Nat) : Int))) 21 0 (i3 ((stT tb n i : Nat) : Int))) := by
  have H1 : CH tb n t i (sI M 21 5 x) := H.mv (by rw [rI_n (by decide)]) (by rw [rI_n (by decide)]) rfl (by rw [rI_e, up_n (by decide)]) (by rw [rI_e, up_n (by decide)])
  rw [f_X1_takeSigned_75, g_m, K_id, show (18 : Int32) = i3 ((18 : Nat) : Int) from rfl, H1.take (by omega)]
theorem c_sg (H : CH tb n t i M) (hm : cM q M) (hq : q.1 < 6) (hk : kdT tb n i = 18) {neg : Bool} {le mo : Int} (hle : -20000 ≤ le ∧ le ≤ 20000) (hmo : -20000 ≤ mo ∧ mo ≤ 20000) : ∃ M1, f_X1_takeSigned_28 (i3 le) (i3 mo) (b2i neg) M = f_X1_step M1 ∧ M1.1 21 5 = i3 (sgV neg (vlT tb n i)) ∧ cM (ntM (decide (mo < vlT tb n i ∨ sgV neg (vlT tb n i) < le)) 5 (stT tb n i) q) M1 ∧ (∀ k, k ≠ 21 → M1.1 k = M.1 k) ∧ M1.2 = M.2 ∧ CH tb n t i M1 := by
  have hi4 := H.2.1.2.2.1
  have hv := H.2.1.r.2.2 hk
  have hcv := (H.2.2.1 i (by omega) (by omega) H.2.1.2.2.2).2.2 (by omega)
  have hs : -10000 < sgV neg (vlT tb n i) ∧ sgV neg (vlT tb n i) < 10000 := by unfold sgV; split <;> omega
  obtain ⟨M2, a1, a2, a3, a4, a5⟩ := H.note hm hq (f := 5)
  have H2 : CH tb n t i M2 := H.mv (a3 24 (by decide)) (a3 25 (by decide)) a4 (a5 4 (by decide) (by decide)) (a5 1 (by decide) (by decide))
  have key : f_X1_takeSigned_47 (i3 le) (i3 mo) (i3 (vlT tb n i)) (i3 (sgV neg (vlT tb n i))) M = f_X1_step (if mo < vlT tb n i ∨ sgV neg (vlT tb n i) < le then sI M2 21 5 (i3 (sgV neg (vlT tb n i))) else sI M 21 5 (i3 (sgV neg (vlT tb n i)))) := by
    have bad : f_X1_takeSigned_70 f_X1_takeSigned_75 (i3 (sgV neg (vlT tb n i))) M = f_X1_step (sI M2 21 5 (i3 (sgV neg (vlT tb n i)))) := by
      rw [f_X1_takeSigned_70, show (5 : Int32) = i3 ((5 : Nat) : Int) from rfl, a1, g_b_some, c_75 H2, if_pos hk]
    rw [f_X1_takeSigned_47, H.kind, g_b_some, hk, if_pos (show i3 ((18 : Nat) : Int) = 18 from rfl)]
    simp (disch := omega) only [i3_lt, i3_le]
    by_cases g1 : mo < vlT tb n i
    · rw [if_pos g1, bad, if_pos (Or.inl g1)]
    · rw [if_neg g1]
      by_cases g2 : le ≤ sgV neg (vlT tb n i)
      · rw [if_pos g2, c_75 H, if_pos hk, if_neg (by omega)]
      · rw [if_neg g2, bad, if_pos (Or.inr (by omega))]
  refine ⟨if mo < vlT tb n i ∨ sgV neg (vlT tb n i) < le then sI M2 21 5 (i3 (sgV neg (vlT tb n i))) else sI M 21 5 (i3 (sgV neg (vlT tb n i))), ?_, ?_⟩
  · rw [f_X1_takeSigned_28, H.value, g_b_some, hcv, i6_32, g_v]
    cases neg with
    | true => rw [if_neg nT0, i3_neg]; exact key
    | false => rw [if_pos eF0]; exact key
  · by_cases g : mo < vlT tb n i ∨ sgV neg (vlT tb n i) < le
    · rw [if_pos g, decide_eq_true g]
      exact ⟨by rw [rI_e, up_e], a2.mv (by rw [rI_e, up_n (by decide)]) (by rw [rI_e, up_n (by decide)]), fun k hk => by rw [rI_n hk, a3 k hk], a4, H2.mv (by rw [rI_n (by decide)]) (by rw [rI_n (by decide)]) rfl (by rw [rI_e, up_n (by decide)]) (by rw [rI_e, up_n (by decide)])⟩
    · rw [if_neg g, decide_eq_false g, nt_f]
      exact ⟨by rw [rI_e, up_e], hm.mv (by rw [rI_e, up_n (by decide)]) (by rw [rI_e, up_n (by decide)]), fun k hk => by rw [rI_n hk], rfl, H.mv (by rw [rI_n (by decide)]) (by rw [rI_n (by decide)]) rfl (by rw [rI_e, up_n (by decide)]) (by rw [rI_e, up_n (by decide)])⟩
theorem c_sgF (H : CH tb n t i M) (hk : kdT tb n i ≠ 18) {neg : Bool} {le mo : Int32} : ∃ x, f_X1_takeSigned_28 le mo (b2i neg) M = some (false, sI (sI (sI M 21 5 x) 21 1 (i3 ((1 : Nat) : Int))) 21 0 (i3 ((stT tb n i : Nat) : Int))) := by
  have hr := H.2.1.r.1
  rw [f_X1_takeSigned_28, H.value, g_b_some, g_v]
  have key : ∀ y s : Int32, f_X1_takeSigned_47 le mo y s M = some (false, sI (sI (sI M 21 5 s) 21 1 (i3 ((1 : Nat) : Int))) 21 0 (i3 ((stT tb n i : Nat) : Int))) := fun y s => by
    rw [f_X1_takeSigned_47, H.kind, g_b_some, if_neg (by rw [show (18 : Int32) = i3 18 from rfl, i3_eq (by omega) (by omega) (by omega) (by omega)]; omega), c_75 H, if_neg hk]
  cases neg with
  | true => rw [if_neg nT0]; exact ⟨_, key _ _⟩
  | false => rw [if_pos eF0]; exact ⟨_, key _ _⟩
theorem r_sg2 (H : DH tb n h i N) (hm : rM q N) (hq : q.1 < 6) (hp : q.1 ≠ 0 → q.2 < stT tb n i) (hk : kdT tb n i = 18) (hi : i < 400) {neg : Bool} {mo : Int} (hmo : -20000 ≤ mo ∧ mo ≤ 20000) : ∃ N', f_X10_takesSigned_20 (i3 mo) (b2i neg) N = some (true, N') ∧ N'.1 0 59 = i3 (sgV neg (vlT tb n i)) ∧ rM (ntM (decide (mo < vlT tb n i)) 5 (stT tb n i) q) N' ∧ (∀ k, k ≠ 0 → N'.1 k = N.1 k) ∧ N'.2 = N.2 ∧ DH tb n h (i + 1) N' ∧ (∀ j, j ≠ 8 → j ≠ 11 → j ≠ 12 → j ≠ 59 → N'.1 0 j = N.1 0 j) := by
  have hv := H.2.1.r.2.2 hk
  have d3 := (H.2.2.1 i (by omega) (by omega) H.2.1.2.2.2).2.2.1 hk
  have h8 := H.2.2.2.2.1
  have H1 := H.nx hi (by omega)
  have h51 : ∀ N2 : gM, N2.1 4 = N.1 4 → f_X10_takesSigned_51 (b2i neg) (i3 (i : Int)) N2 = some (true, sI N2 0 59 (i3 (sgV neg (vlT tb n i)))) := fun N2 e4 => by
    rw [f_X10_takesSigned_51, ck_ok (by omega) (by omega) (by omega), ck_ok (by omega) (by omega) (by omega), tn_n (by omega), e4, d3]
    cases neg with
    | true => rw [if_neg nT0, g_m, i3_neg]; rfl
    | false => rw [if_pos eF0, g_m]; rfl
  rw [f_X10_takesSigned_20, h8, g_v, show (1 : Int32) = i3 ((1 : Nat) : Int) from rfl, H.takes (by omega), if_pos ((ks_18 _ (by omega)).2 hk), H.pass hi, g_b_some, if_pos tTT, ck_ok (by omega) (by omega) (by omega), tn_n (by omega), rI_n (by decide), d3]
  have hm1 : rM q (sI N 0 8 (i3 ((i + 1 : Nat) : Int))) := hm.mv (by rw [rI_e, up_n (by decide)]) (by rw [rI_e, up_n (by decide)])
  simp (disch := omega) only [i3_le]
  by_cases g : vlT tb n i ≤ mo
  · rw [if_pos g, h51 _ (by rw [rI_n (by decide)]), decide_eq_false (by omega), nt_f]
    exact ⟨_, rfl, by rw [rI_e, up_e], hm1.mv (by rw [rI_e, up_n (by decide)]) (by rw [rI_e, up_n (by decide)]), fun k hk => by rw [rI_n hk, rI_n hk], rfl, H1.mv (by rw [rI_n (by decide)]) (by rw [rI_n (by decide)]) (by rw [rI_n (by decide)]) rfl (by rw [rI_e, up_n (by decide)]) (by rw [rI_e, up_n (by decide)]) (by rw [rI_e, up_n (by decide)]), fun j j1 j2 j3 j4 => by rw [rI_e, up_n j4, rI_e, up_n j1]⟩
  · obtain ⟨N3, a1, a2, a3, a4, a5⟩ := r_tells (f := 5) H1.2.2.1 H.2.1 hm1 hq (by omega) (fun g => Or.inl (hp g))
    rw [if_neg g, show (5 : Int32) = i3 ((5 : Nat) : Int) from rfl, a1, g_b_some, h51 _ (by rw [a3 4 (by decide), rI_n (by decide)]), decide_eq_true (by omega)]
    have H3 : DH tb n h (i + 1) N3 := H1.mv (a3 2 (by decide)) (a3 3 (by decide)) (a3 4 (by decide)) a4 (a5 14 (by decide) (by decide)) (a5 8 (by decide) (by decide)) (a5 9 (by decide) (by decide))
    exact ⟨_, rfl, by rw [rI_e, up_e], a2.mv (by rw [rI_e, up_n (by decide)]) (by rw [rI_e, up_n (by decide)]), fun k hk => by rw [rI_n hk, a3 k hk, rI_n hk], a4, H3.mv (by rw [rI_n (by decide)]) (by rw [rI_n (by decide)]) (by rw [rI_n (by decide)]) rfl (by rw [rI_e, up_n (by decide)]) (by rw [rI_e, up_n (by decide)]) (by rw [rI_e, up_n (by decide)]), fun j j1 j2 j3 j4 => by rw [rI_e, up_n j4, a5 j j2 j3, rI_e, up_n j1]⟩
theorem qOk.s (hq : qOk tb n i q) (hx : IX tb n i) (hk : kdT tb n i < 30) : qOk tb n (i + 1) q := ⟨hq.1, fun g => by have := hq.2 g; have := hx.lt hk; omega⟩
theorem qOk.nt (hq : qOk tb n i q) (hx : IX tb n i) (hk : kdT tb n i < 30) {b : Bool} {f : Nat} (hf : f = 3 ∨ f = 4 ∨ f = 5) : qOk tb n (i + 1) (ntM b f (stT tb n i) q) := by
  unfold ntM
  split
  · exact ⟨by show f = 0 ∨ f = 3 ∨ f = 4 ∨ f = 5; omega, fun _ => hx.lt hk⟩
  · exact hq.s hx hk
theorem p_sg28 (H : PX tb n t h D sz cc lc q q i M N) (hq : qOk tb n i q) (p1 : PF1 t M0 M) (p2 : PF2 h N0 N) {neg : Bool} {le mo : Int} (hle : -20000 ≤ le ∧ le ≤ 20000) (hmo : -20000 ≤ mo ∧ mo ≤ 20000) {k1 k2 : gM → Option (Bool × gM)}
    (hK : ∀ v M' N', i < 400 → kdT tb n i = 18 → 0 ≤ v → v < 10000 → M'.1 21 5 = i3 (sgV neg v) → N'.1 0 59 = i3 (sgV neg v) → PX tb n t h D sz cc lc (ntM (decide (mo < v ∨ sgV neg v < le)) 5 (stT tb n i) q) (ntM (decide (mo < v)) 5 (stT tb n i) q) (i + 1) M' N' → PF1 t M0 M' → PF2 h N0 N' → (∀ k, k ≠ 0 → N'.1 k = N.1 k) → N'.2 = N.2 → M'.2 = M.2 → w2 (k1 M') (k2 N') (tQ tb n t h i0 M0 N0)) : w2 (g_b (f_X1_takeSigned_28 (i3 le) (i3 mo) (b2i neg) M) (fun r M' => if r then k1 M' else some (false, M'))) (g_b (f_X10_takesSigned_20 (i3 mo) (b2i neg) N) (fun r N' => if r then k2 N' else some (false, N'))) (tQ tb n t h i0 M0 N0) := by
  obtain ⟨h1, h2, h3, h4, h5, h6⟩ := id H
  have hq6 : q.1 < 6 := by have := hq.1; omega
  have h8 := h2.2.2.2.2.1
  have hr := h1.2.1.r.1
  by_cases hk : kdT tb n i = 18
  · obtain ⟨M1, a1, a2, a3, a4, a5, a6⟩ := c_sg h1 h5 hq6 hk (neg := neg) hle hmo
    have hv := h1.2.1.r.2.2 hk
    by_cases hi : i < 400
    · obtain ⟨N', b1, b2, b3, b4, b5, b6, b7⟩ := r_sg2 h2 h6 hq6 hq.2 hk hi (neg := neg) hmo
      rw [a1, a6.step hi, b1, g_b_some, g_b_some, if_pos tTT, if_pos tTT]
      have p1' : PF1 t M0 (sI M1 21 4 (i3 ((i + 1 : Nat) : Int))) := (p1.c a4 a5).o
      exact hK (vlT tb n i) _ N' hi hk hv.1 hv.2 (by rw [rI_e, up_n (by decide), a2]) b2 (H.mv (a6.nx hi (by omega)) b6 (a3.mv (by rw [rI_e, up_n (by decide)]) (by rw [rI_e, up_n (by decide)])) b3 (fun k hk => by rw [rI_n hk, a4 k hk]) (by show M1.2.1 = M.2.1; rw [a5]) (fun k k1 k2 => b4 k (by omega)) (by rw [b5])) p1' (p2.c b4 b5 (fun j hj => b7 j (by unfold fR at hj; omega) (by unfold fR at hj; omega) (by unfold fR at hj; omega) (by unfold fR at hj; omega))) b4 b5 a5
    · have : f_X10_takesSigned_20 (i3 mo) (b2i neg) N = some (false, sI (sI N 0 9 (i3 ((2 : Nat) : Int))) 0 10 (i3 ((stT tb n i : Nat) : Int))) := by
        rw [f_X10_takesSigned_20, h8, g_v, show (1 : Int32) = i3 ((1 : Nat) : Int) from rfl, h2.takes (by omega), if_pos ((ks_18 _ (by omega)).2 hk), h2.passF hi, g_b_some, if_neg nFT]
      rw [a1, a6.stepF hi, this, g_b_some, g_b_some, if_neg nFT, if_neg nFT, w2_s]
      exact t_f (Or.inr rfl) a6 (p1.c a4 a5) p2
  · obtain ⟨x, a1⟩ := c_sgF h1 hk (neg := neg) (le := i3 le) (mo := i3 mo)
    have : f_X10_takesSigned_20 (i3 mo) (b2i neg) N = some (false, sI (sI N 0 9 (i3 ((1 : Nat) : Int))) 0 10 (i3 ((stT tb n i : Nat) : Int))) := by
      rw [f_X10_takesSigned_20, h8, g_v, show (1 : Int32) = i3 ((1 : Nat) : Int) from rfl, h2.takes (by omega), if_neg (fun g => hk ((ks_18 _ (by omega)).1 g)), g_b_some, if_neg nFT]
    have H1 : CH tb n t i (sI M 21 5 x) := h1.mv (by rw [rI_n (by decide)]) (by rw [rI_n (by decide)]) rfl (by rw [rI_e, up_n (by decide)]) (by rw [rI_e, up_n (by decide)])
    rw [a1, this, g_b_some, g_b_some, if_neg nFT, if_neg nFT, w2_s]
    exact t_f (Or.inl rfl) H1 p1.o p2
theorem p_sgn (H : PX tb n t h D sz cc lc q q i M N) (hq : qOk tb n i q) (p1 : PF1 t M0 M) (p2 : PF2 h N0 N) {le mo : Int} (hle : -20000 ≤ le ∧ le ≤ 20000) (hmo : -20000 ≤ mo ∧ mo ≤ 20000) {k1 k2 : gM → Option (Bool × gM)}
    (hK : ∀ j v s M' N', i ≤ j → j < 400 → kdT tb n j = 18 → IX tb n j → qOk tb n j q → 0 ≤ v → v < 10000 → (s = v ∨ s = -v) → M'.1 21 5 = i3 s → N'.1 0 59 = i3 s → PX tb n t h D sz cc lc (ntM (decide (mo < v ∨ s < le)) 5 (stT tb n j) q) (ntM (decide (mo < v)) 5 (stT tb n j) q) (j + 1) M' N' → PF1 t M0 M' → PF2 h N0 N' → (∀ k, k ≠ 0 → N'.1 k = N.1 k) → N'.2 = N.2 → M'.2 = M.2 → w2 (k1 M') (k2 N') (tQ tb n t h i0 M0 N0)) : w2 (g_b (f_X1_takeSigned (i3 le) (i3 mo) M) (fun r M' => if r then k1 M' else some (false, M'))) (g_b (f_X10_takesSigned (i3 mo) N) (fun r N' => if r then k2 N' else some (false, N'))) (tQ tb n t h i0 M0 N0) := by
  have hr := H.1.2.1.r.1
  have sv : ∀ (b : Bool) (v : Int), sgV b v = v ∨ sgV b v = -v := fun b v => by cases b; exact Or.inl rfl; exact Or.inr rfl
  rw [f_X1_takeSigned, H.1.kind, g_b_some, f_X10_takesSigned, show (45 : Int32) = i3 (rwT 21) from rfl, H.2.1.sign (by omega), g_b_some, g_v]
  by_cases k21 : kdT tb n i = 21
  · rw [if_pos (show i3 ((kdT tb n i : Nat) : Int) = 21 by rw [k21]; rfl), decide_eq_true k21, if_neg nT0, f_X1_takeSigned_14, if_neg n10, g_ass, g_ass]
    have := p_step (i0 := i0) H p1 p2 (by omega) (k1 := fun M' => g_b (f_X1_takeSigned_28 (i3 le) (i3 mo) (b2i true) M') (fun r M' => if r then k1 M' else some (false, M'))) (k2 := fun N' => g_b (f_X10_takesSigned_20 (i3 mo) (b2i true) N') (fun r N' => if r then k2 N' else some (false, N'))) (fun M' N' hi hX q1 q2 _ _ e1 e2 e3 => by
      have hq' : qOk tb n (i + 1) q := hq.s H.1.2.1 (by omega)
      refine p_sg28 hX hq' q1 q2 hle hmo (fun v M2 N2 a1 a2 a3 a4 a5 a6 a7 a8 a9 a10 a11 a12 => ?_)
      exact hK (i + 1) v (sgV true v) M2 N2 (by omega) a1 a2 hX.1.2.1 hq' a3 a4 (sv true v) a5 a6 a7 a8 a9 (fun k hk => by rw [a10 k hk, e1 k hk]) (by rw [a11, e2]) (by rw [a12, e3]))
    have h1 : ∀ (r : Bool) (M' : gM), (if r then g_b (f_X1_takeSigned_28 (i3 le) (i3 mo) (b2i true) M') (fun r M' => if r then k1 M' else some (false, M')) else some (false, M')) = g_b (if r then f_X1_takeSigned_28 (i3 le) (i3 mo) 1 M' else some (false, M')) (fun r M' => if r then k1 M' else some (false, M')) := fun r M' => by cases r <;> rfl
    have h2 : ∀ (r : Bool) (N' : gM), (if r then g_b (f_X10_takesSigned_20 (i3 mo) (b2i true) N') (fun r N' => if r then k2 N' else some (false, N')) else some (false, N')) = g_b (if r then f_X10_takesSigned_20 (i3 mo) (b2i true) N' else some (false, N')) (fun r N' => if r then k2 N' else some (false, N')) := fun r N' => by cases r <;> rfl
    simp only [h1, h2] at this
    exact this
  · rw [if_neg (show ¬ i3 ((kdT tb n i : Nat) : Int) = 21 by rw [iL21, i3_eq (by omega) (by omega) (by omega) (by omega)]; omega), decide_eq_false k21, if_pos eF0, f_X1_takeSigned_14, if_pos rfl]
    exact p_sg28 (neg := false) H hq p1 p2 hle hmo (fun v M2 N2 a1 a2 a3 a4 a5 a6 a7 a8 a9 a10 a11 a12 => hK i v (sgV false v) M2 N2 (Nat.le_refl _) a1 a2 H.1.2.1 hq a3 a4 (sv false v) a5 a6 a7 a8 a9 a10 a11 a12)
/-- a COND that may stand -/
theorem p_may (H : PX tb n t h D sz cc lc q q i M N) (hq : qOk tb n i q) (p1 : PF1 t M0 M) (p2 : PF2 h N0 N) (b1 : sz ≤ i) (b2 : cc ≤ i) (b3 : 3 * lc ≤ i) {KA : Int32 → gM → Option (Bool × gM)} {KB : gM → Option (Bool × gM)}
    (hK : ∀ i' sz' cc' lc' w L M' N', i ≤ i' → qOk tb n i' q → PX tb n t h D sz' cc' lc' q q i' M' N' → sz' ≤ i' + 1 → cc' ≤ i' → 3 * lc' ≤ i' → CE M' N' t h sz' cc' lc' w (N'.1 0 63) (N'.1 31 h) L → PF1 t M0 M' → PF2 h N0 N' → (∀ k, 6 ≤ k → k ≤ 27 → N'.1 k = N.1 k) → N'.2 = N.2 → M'.2 = M.2 → w2 (KA w M') (KB N') (tQ tb n t h i0 M0 N0)) :
    w2 (g_or 3 12 (M.2.2 21 6) (fun t16 => g_v (M.1 t16 8) (fun y17 => g_b (f_X1_kind M) (fun r19 M18 => if r19 = 12 then g_b (f_X1_step M18) (fun r21 M20 => if r21 then g_b (f_X1_condition M20) (fun r23 M22 => if r23 then KA y17 M22 else some (false, M22)) else some (false, M20)) else KA (-1) M18)))) (g_b (f_X10_mayCond N) (fun r17 M16 => if r17 then KB M16 else some (false, M16))) (tQ tb n t h i0 M0 N0) := by
  obtain ⟨h1, h2, ⟨h3, h4, h5⟩, h6, h7, h8⟩ := id H
  have hr := h1.2.1.r.1
  have hh := h2.1
  rw [h1.or, g_v, h1.kind, g_b_some, f_X10_mayCond, h2.ck, h2.tn, g_m, h5, h3]
  have hD1 : DH tb n h i (sI N 0 63 (i3 ((200 * h + lc : Nat) : Int))) := h2.mv (by rw [rI_n (by decide)]) (by rw [rI_n (by decide)]) (by rw [rI_n (by decide)]) rfl (by rw [rI_e, up_n (by decide)]) (by rw [rI_e, up_n (by decide)]) (by rw [rI_e, up_n (by decide)])
  have H1 : PX tb n t h D sz cc lc q q i M (sI N 0 63 (i3 ((200 * h + lc : Nat) : Int))) := H.mv h1 hD1 h7 (h8.mv (by rw [rI_e, up_n (by decide)]) (by rw [rI_e, up_n (by decide)])) (fun _ _ => rfl) rfl (fun k k1 k2 => by rw [rI_n (by omega)]) rfl
  have p2' : PF2 h N0 (sI N 0 63 (i3 ((200 * h + lc : Nat) : Int))) := p2.o (by unfold fR; omega)
  have e63 : (sI N 0 63 (i3 ((200 * h + lc : Nat) : Int))).1 0 63 = i3 ((200 * h + lc : Nat) : Int) := by rw [rI_e, up_e]
  have ek : ∀ k, k ≠ 0 → (sI N 0 63 (i3 ((200 * h + lc : Nat) : Int))).1 k = N.1 k := fun k hk => by rw [rI_n hk]
  have e2 : (sI N 0 63 (i3 ((200 * h + lc : Nat) : Int))).2 = N.2 := rfl
  generalize sI N 0 63 (i3 ((200 * h + lc : Nat) : Int)) = N1 at hD1 H1 p2' e63 ek e2 ⊢
  rw [show (8 : Int32) = i3 (rwT 12) from rfl, hD1.word (by omega), g_b_some]
  by_cases k12 : kdT tb n i = 12
  · rw [if_pos (show i3 ((kdT tb n i : Nat) : Int) = 12 by rw [k12]; rfl), decide_eq_true k12, if_pos tTT, g_ass]
    have := p_step (i0 := i0) H1 p1 p2' (by omega) (k1 := fun M20 => g_b (f_X1_condition M20) (fun r23 M22 => if r23 then KA (i3 (sz : Int)) M22 else some (false, M22))) (k2 := fun M4 => g_b (g_b (f_X10_cond M4) (fun r7 M6 => if r7 then some (true, M6) else some (false, M6))) (fun r17 M16 => if r17 then KB M16 else some (false, M16))) (fun M' N' hi hX q1 q2 _ _ e1 e3 e4 => by
      obtain ⟨c1, c2, ⟨c3, c4, c5⟩, c6, c7, c8⟩ := id hX
      have ht := c1.1
      rw [g_ass]
      refine w2_b _ (L_cond (sz := sz) (c := cc) (l := lc) c1 c2 c3 c4 c5 (by omega) (by omega) (by omega)) (fun r1 M2 r2 N2 hx => ?_)
      obtain ⟨rfl, f1, f2, f3, f4⟩ := hx
      cases r1 with
      | false =>
        rw [if_neg nFT, if_neg nFT, g_b_some, if_neg nFT, w2_s]
        exact ⟨rfl, q1.tr f1.pf, q2.tr (f2.pf hh), fun _ => f3 rfl, fun g => by cases g⟩
      | true =>
        obtain ⟨i', cc2, L, a1, a2, a3, a4, a5, a6, a7, a8⟩ := f4 rfl
        rw [if_pos tTT, if_pos tTT, g_b_some, if_pos tTT]
        have hlen : (L.flatMap lw ++ [i3 9]).length = (L.flatMap lw).length + 1 := by rw [List.length_append]; rfl
        obtain ⟨s1, s2, s3, s4⟩ := a4
        obtain ⟨r1, r2, r3, r4, r5, r6⟩ := a5
        have hst : stT tb n i < stT tb n (i + 1) := h1.2.1.lt (by omega)
        have hqi : qOk tb n i' q := ⟨hq.1, fun g => by
          have := hq.2 g
          have hm : ∀ d, i + d ≤ i' → stT tb n i ≤ stT tb n (i + d) := by
            intro d
            induction d with
            | zero => intro _; exact Nat.le_refl _
            | succ d ih =>
              intro hd
              have hx : IX tb n (i + d) := ⟨s1.2.1.1, s1.2.1.2.1, by have := s1.2.1.2.2.1; omega, fun j hj => s1.2.1.2.2.2 j (by omega)⟩
              have := hx.lt (s1.2.1.2.2.2 (i + d) (by omega))
              have := ih (by omega)
              rw [show i + (d + 1) = i + d + 1 by omega]
              omega
          have := hm (i' - i) (by omega)
          rw [show i + (i' - i) = i' by omega] at this
          omega⟩
        have hm1 : cM q M2 := c7.mv (f1.2.2.1 2 (by decide) (by decide) (by decide) (by decide)) (f1.2.2.1 3 (by decide) (by decide) (by decide) (by decide))
        have hm2 : rM q N2 := c8.mv (f2.2.2.1 11 (by decide)) (f2.2.2.1 12 (by decide))
        refine hK i' (sz + ((L.flatMap lw).length + 1)) (cc + cc2) (lc + L.length) (i3 (sz : Int)) L M2 N2 (by omega) hqi ⟨s1, r1, ⟨by rw [s3, hlen], by rw [r3, Nat.add_assoc], by rw [r4, Nat.add_assoc]⟩, c6.x ht f1 f2 (by omega) (by omega) (by omega), hm1, hm2⟩ (by omega) (by omega) (by omega) (Or.inr ⟨a2, a3, ⟨sz, rfl, s4, by omega⟩, 200 * h + lc, r6, by rw [r4], by omega, by omega, by rw [← Nat.add_assoc]; exact r5⟩) (q1.tr f1.pf) (q2.tr (f2.pf hh)) (fun k k1 k2 => by rw [f2.1 k (by omega) (by omega) (by omega), e1 k (by omega), ek k (by omega)]) (by rw [f2.2.1, e3, e2]) (by rw [f1.2.1, e4]))
    have h2' : ∀ (r : Bool) (N' : gM), (if r then g_b (g_b (f_X10_cond N') (fun r7 M6 => if r7 then some (true, M6) else some (false, M6))) (fun r17 M16 => if r17 then KB M16 else some (false, M16)) else some (false, N')) = g_b (if r then g_b (f_X10_cond N') (fun r7 M6 => if r7 then some (true, M6) else some (false, M6)) else some (false, N')) (fun r17 M16 => if r17 then KB M16 else some (false, M16)) := fun r N' => by cases r <;> rfl
    simp only [h2'] at this
    exact this
  · rw [if_neg (show ¬ i3 ((kdT tb n i : Nat) : Int) = 12 by rw [iL12, i3_eq (by omega) (by omega) (by omega) (by omega)]; omega), decide_eq_false k12, if_neg nFT, g_b_some, if_pos tTT]
    exact hK i sz cc lc (-1) [] M N1 (Nat.le_refl _) hq H1 (by omega) b2 b3 (Or.inl ⟨rfl, rfl, by rw [e63, H1.2.2.1.2.2]⟩) p1 p2' (fun k k1 k2 => ek k (by omega)) e2 rfl
end
