/-! ===== the reference's parser's state ===== -/
def EG (h c l : Nat) (N0 N : gM) : Prop := (∀ k, k ≠ 0 → ¬ (28 ≤ k ∧ k ≤ 37) → k ≠ 45 → N.1 k = N0.1 k) ∧ N.2 = N0.2 ∧ (∀ j, ¬ (j = 8 ∨ j = 9 ∨ j = 10 ∨ j = 60 ∨ j = 62 ∨ j = 63) → N.1 0 j = N0.1 0 j) ∧ (∀ q, q ≠ h → N.1 28 q = N0.1 28 q ∧ N.1 31 q = N0.1 31 q) ∧ (∀ k, (k < 500 * h + c ∨ 500 * h + 500 ≤ k) → N.1 29 k = N0.1 29 k ∧ N.1 30 k = N0.1 30 k) ∧ ∀ q, 32 ≤ q → q ≤ 37 → ∀ k, (k < 200 * h + l ∨ 200 * h + 200 ≤ k) → N.1 q k = N0.1 q k
theorem EG.rf {h c l : Nat} {N : gM} : EG h c l N N := ⟨fun _ _ _ _ => rfl, rfl, fun _ _ => rfl, fun _ _ => ⟨rfl, rfl⟩, fun _ _ => ⟨rfl, rfl⟩, fun _ _ _ _ _ => rfl⟩
theorem EG.tr {h c l c' l' : Nat} {N N1 N2 : gM} (hc : c ≤ c') (hl : l ≤ l') (a : EG h c l N N1) (b : EG h c' l' N1 N2) : EG h c l N N2 := ⟨fun k k1 k2 k3 => (b.1 k k1 k2 k3).trans (a.1 k k1 k2 k3), b.2.1.trans a.2.1, fun j hj => (b.2.2.1 j hj).trans (a.2.2.1 j hj), fun q hq => ⟨(b.2.2.2.1 q hq).1.trans (a.2.2.2.1 q hq).1, (b.2.2.2.1 q hq).2.trans (a.2.2.2.1 q hq).2⟩, fun k hk => ⟨(b.2.2.2.2.1 k (by omega)).1.trans (a.2.2.2.2.1 k hk).1, (b.2.2.2.2.1 k (by omega)).2.trans (a.2.2.2.2.1 k hk).2⟩, fun q q1 q2 k hk => (b.2.2.2.2.2 q q1 q2 k (by omega)).trans (a.2.2.2.2.2 q q1 q2 k hk)⟩
theorem EG.o {h c l : Nat} {N0 N : gM} (a : EG h c l N0 N) {j : Nat} {x : Int32} (hj : j = 8 ∨ j = 9 ∨ j = 10 ∨ j = 60 ∨ j = 62 ∨ j = 63) : EG h c l N0 (sI N 0 j x) := by
  obtain ⟨a1, a2, a3, a4, a5, a6⟩ := a
  refine ⟨fun k k1 k2 k3 => by rw [rI_n k1, a1 k k1 k2 k3], a2, fun q hq => ?_, fun q hq => by rw [rI_n (by decide), rI_n (by decide)]; exact a4 q hq, fun k hk => by rw [rI_n (by decide), rI_n (by decide)]; exact a5 k hk, fun q q1 q2 k hk => by rw [rI_n (by omega)]; exact a6 q q1 q2 k hk⟩
  have : q ≠ j := fun e => hq (by rw [e]; exact hj)
  rw [rI_e, up_n this, a3 q hq]
theorem EG.w {h c l : Nat} {N0 N : gM} (a : EG h c l N0 N) {j : Nat} {x : Int32} : EG h c l N0 (sI N 45 j x) := by
  obtain ⟨a1, a2, a3, a4, a5, a6⟩ := a
  refine ⟨fun k k1 k2 k3 => by rw [rI_n k3, a1 k k1 k2 k3], a2, fun q hq => by rw [rI_n (by decide)]; exact a3 q hq, fun q hq => by rw [rI_n (by decide), rI_n (by decide)]; exact a4 q hq, fun k hk => by rw [rI_n (by decide), rI_n (by decide)]; exact a5 k hk, fun q q1 q2 k hk => by rw [rI_n (by omega)]; exact a6 q q1 q2 k hk⟩
theorem EG.m {h c l : Nat} {N0 N : gM} (a : EG h c l N0 N) {j : Nat} {x y z : Int32} (hj : 500 * h + c ≤ j ∧ j < 500 * h + 500) : EG h c l N0 (sI (sI (sI N 29 j x) 30 j y) 28 h z) := by
  obtain ⟨a1, a2, a3, a4, a5, a6⟩ := a
  refine ⟨fun k k1 k2 k3 => by rw [rI_n (by omega), rI_n (by omega), rI_n (by omega), a1 k k1 k2 k3], a2, fun q hq => by rw [rI_n (by decide), rI_n (by decide), rI_n (by decide)]; exact a3 q hq, fun q hq => ⟨by rw [rI_e, up_n hq, rI_n (by decide), rI_n (by decide)]; exact (a4 q hq).1, by rw [rI_n (by decide), rI_n (by decide), rI_n (by decide)]; exact (a4 q hq).2⟩, fun k hk => ⟨by rw [rI_n (by decide), rI_n (by decide), rI_e, up_n (by omega)]; exact (a5 k hk).1, by rw [rI_n (by decide), rI_e, up_n (by omega), rI_n (by decide)]; exact (a5 k hk).2⟩, fun q q1 q2 k hk => by rw [rI_n (by omega), rI_n (by omega), rI_n (by omega)]; exact a6 q q1 q2 k hk⟩
theorem EG.t {h c l : Nat} {N0 N : gM} (a : EG h c l N0 N) {q j : Nat} {x : Int32} (hq : 32 ≤ q ∧ q ≤ 37) (hj : 200 * h + l ≤ j ∧ j < 200 * h + 200) : EG h c l N0 (sI N q j x) := by
  obtain ⟨a1, a2, a3, a4, a5, a6⟩ := a
  refine ⟨fun k k1 k2 k3 => by rw [rI_n (by omega), a1 k k1 k2 k3], a2, fun j hj => by rw [rI_n (by omega)]; exact a3 j hj, fun s hs => by rw [rI_n (by omega), rI_n (by omega)]; exact a4 s hs, fun k hk => by rw [rI_n (by omega), rI_n (by omega)]; exact a5 k hk, fun s s1 s2 k hk => ?_⟩
  by_cases e : s = q
  · subst e
    rw [rI_e, up_n (by omega)]
    exact a6 s s1 s2 k hk
  · rw [rI_n e]
    exact a6 s s1 s2 k hk
theorem EG.k {h c l : Nat} {N0 N : gM} (a : EG h c l N0 N) {x : Int32} : EG h c l N0 (sI N 31 h x) := by
  obtain ⟨a1, a2, a3, a4, a5, a6⟩ := a
  exact ⟨fun k k1 k2 k3 => by rw [rI_n (by omega), a1 k k1 k2 k3], a2, fun j hj => by rw [rI_n (by omega)]; exact a3 j hj, fun s hs => ⟨by rw [rI_n (by decide)]; exact (a4 s hs).1, by rw [rI_e, up_n hs]; exact (a4 s hs).2⟩, fun k hk => by rw [rI_n (by omega), rI_n (by omega)]; exact a5 k hk, fun s s1 s2 k hk => by rw [rI_n (by omega)]; exact a6 s s1 s2 k hk⟩
theorem rs_2 : ∀ k : Nat, k < 32 → (rsT k = 2 ↔ 19 ≤ k ∧ k ≤ 29) := by decide +kernel
theorem rs_3 : ∀ k : Nat, k < 32 → (rsT k = 3 ↔ k < 17) := by decide +kernel
theorem rs_r : ∀ k : Nat, k < 32 → 0 ≤ rsT k ∧ rsT k < 6 := by decide +kernel
theorem rw_r : ∀ k : Nat, k < 32 → -1 ≤ rwT k ∧ rwT k < 400 := by decide +kernel
theorem rw_i2 : ∀ k : Nat, k < 30 → 19 ≤ k → ∀ q : Nat, q < 30 → 19 ≤ q → (rwT k = rwT q ↔ k = q) := by decide +kernel
theorem rw_i3 : ∀ k : Nat, k < 17 → ∀ q : Nat, q < 17 → (rwT k = rwT q ↔ k = q) := by decide +kernel
section
variable {tb : Nat → Nat} {n : Nat} {M M0 N N0 : gM} {h i c : Nat}
def DH (tb : Nat → Nat) (n h i : Nat) (N : gM) : Prop := h < 2 ∧ IX tb n i ∧ DT tb n 2001 N ∧ N.1 0 14 = i3 (h : Int) ∧ N.1 0 8 = i3 (i : Int) ∧ N.1 0 9 = 0 ∧ N.1 0 10 = -1
theorem DH.sign (H : DH tb n h i N) {q : Nat} (hq : 19 ≤ q ∧ q ≤ 29) : f_X10_isSign (i3 (rwT q)) N = some (decide (kdT tb n i = q), N) := by
  obtain ⟨hh, hi, hD, -, h8, -⟩ := H
  have h4 := hi.2.2.1
  obtain ⟨d1, d2, d3, d4, d5⟩ := hD i (by omega) (by omega) hi.2.2.2
  have hk := hi.r.1
  have r2 := rs_2 (kdT tb n i) (by omega)
  have rr := rs_r (kdT tb n i) (by omega)
  rw [f_X10_isSign, h8, ck_ok (by omega) (by omega) (by omega), tn_n (by omega), d1, iL2]
  by_cases g : rsT (kdT tb n i) = 2
  · have g2 := r2.1 g
    have r1 := rw_r (kdT tb n i) (by omega)
    have r3 := rw_r q (by omega)
    have r4 := rw_i2 (kdT tb n i) (by omega) g2.1 q (by omega) hq.1
    rw [if_pos (by rw [g]), ck_ok (by omega) (by omega) (by omega), d4 (by omega) (by omega)]
    by_cases e : kdT tb n i = q
    · rw [if_pos (by rw [e]), decide_eq_true e]
    · rw [if_neg (by rw [i3_eq (by omega) (by omega) (by omega) (by omega)]; exact fun g => e (r4.1 g)), decide_eq_false e]
  · rw [if_neg (by rw [i3_eq (by omega) (by omega) (by omega) (by omega)]; exact g), decide_eq_false (fun e => g (r2.2 (by omega)))]
theorem DH.word (H : DH tb n h i N) {q : Nat} (hq : q < 17) : f_X10_isWord (i3 (rwT q)) N = some (decide (kdT tb n i = q), N) := by
  obtain ⟨hh, hi, hD, -, h8, -⟩ := H
  have h4 := hi.2.2.1
  obtain ⟨d1, d2, d3, d4, d5⟩ := hD i (by omega) (by omega) hi.2.2.2
  have hk := hi.r.1
  have r2 := rs_3 (kdT tb n i) (by omega)
  have rr := rs_r (kdT tb n i) (by omega)
  rw [f_X10_isWord, h8, ck_ok (by omega) (by omega) (by omega), tn_n (by omega), d1, iL3]
  by_cases g : rsT (kdT tb n i) = 3
  · have g2 := r2.1 g
    have r1 := rw_r (kdT tb n i) (by omega)
    have r3 := rw_r q (by omega)
    have r4 := rw_i3 (kdT tb n i) (by omega) q (by omega)
    rw [if_pos (by rw [g]), ck_ok (by omega) (by omega) (by omega), d4 (by omega) (by omega)]
    by_cases e : kdT tb n i = q
    · rw [if_pos (by rw [e]), decide_eq_true e]
    · rw [if_neg (by rw [i3_eq (by omega) (by omega) (by omega) (by omega)]; exact fun g => e (r4.1 g)), decide_eq_false e]
  · rw [if_neg (by rw [i3_eq (by omega) (by omega) (by omega) (by omega)]; exact g), decide_eq_false (fun e => g (r2.2 (by omega)))]
theorem DH.wrong (H : DH tb n h i N) {f : Int32} : f_X10_wrong f N = some (false, sI (sI N 0 9 f) 0 10 (i3 ((stT tb n i : Nat) : Int))) := by
  obtain ⟨hh, hi, hD, -, h8, -⟩ := H
  have h4 := hi.2.2.1
  have d2 := (hD i (by omega) (by omega) hi.2.2.2).2.1
  have e8 : (sI N 0 9 f).1 0 8 = i3 (i : Int) := by rw [rI_e, up_n (by decide), h8]
  rw [f_X10_wrong, g_m, e8, ck_ok (by omega) (by omega) (by omega), g_m, tn_n (by omega), rI_n (by decide), d2]
theorem DH.pass (H : DH tb n h i N) (hi : i < 400) : f_X10_pass N = some (true, sI N 0 8 (i3 ((i + 1 : Nat) : Int))) := by
  have h8 := H.2.2.2.2.1
  rw [f_X10_pass, h8, iL400, if_pos (by rw [i3_lt (by omega) (by omega) (by omega) (by omega)]; omega), g_m, i3_s1]
  rfl
theorem DH.passF (H : DH tb n h i N) (hi : ¬ i < 400) : f_X10_pass N = some (false, sI (sI N 0 9 (i3 ((2 : Nat) : Int))) 0 10 (i3 ((stT tb n i : Nat) : Int))) := by
  have h8 := H.2.2.2.2.1
  have := H.2.1.2.2.1
  rw [f_X10_pass, h8, iL400, if_neg (by rw [i3_lt (by omega) (by omega) (by omega) (by omega)]; omega), show (2 : Int32) = i3 ((2 : Nat) : Int) from rfl, H.wrong, g_b_some]
theorem DH.nx (H : DH tb n h i N) (hi : i < 400) (hk : kdT tb n i < 30) : DH tb n h (i + 1) (sI N 0 8 (i3 ((i + 1 : Nat) : Int))) := by
  obtain ⟨hh, hx, hD, h14, h8, h9⟩ := H
  exact ⟨hh, hx.s hi hk, hD.c (by rw [rI_n (by decide)]) (by rw [rI_n (by decide)]) (by rw [rI_n (by decide)]) rfl, by rw [rI_e, up_n (by decide), h14], by rw [rI_e, up_e], by rw [rI_e, up_n (by decide), h9.1], by rw [rI_e, up_n (by decide), h9.2]⟩
theorem DH.mv (H : DH tb n h i N) (e2 : M.1 2 = N.1 2) (e3 : M.1 3 = N.1 3) (e4 : M.1 4 = N.1 4) (e5 : M.2 = N.2) (e14 : M.1 0 14 = N.1 0 14) (e8 : M.1 0 8 = N.1 0 8) (e9 : M.1 0 9 = N.1 0 9) (e10 : M.1 0 10 = N.1 0 10 := by first | rfl | (rw [rI_e, up_n (by decide)]; done) | (rw [rI_n (by decide)]; done) | (rw [rI_n (by omega)]; done) | (rw [rI_n (by decide), rI_n (by decide)]; done) | (rw [rI_n (by decide), rI_n (by decide), rI_n (by decide)]; done) | (rw [rI_e, up_n (by decide), rI_n (by decide)]; done) | (rw [rI_e, up_n (by decide), rI_e, up_n (by decide)]; done) | (simp (disch := first | decide | omega) only [*])) : DH tb n h i M := by
  obtain ⟨hh, hx, hD, h14, h8, h9⟩ := H
  exact ⟨hh, hx, hD.c e2 e3 e4 (by rw [e5]), by rw [e14, h14], by rw [e8, h8], by rw [e9, h9.1], by rw [e10, h9.2]⟩
theorem DH.ck {β : Type} {o : Option β} (H : DH tb n h i N) : g_ck (N.1 0 14) 2 o = o := by rw [H.2.2.2.1, d_ck H.1]
theorem DH.tn (H : DH tb n h i N) : tn (N.1 0 14) = h := by rw [H.2.2.2.1, tn_n (by have := H.1; omega)]
def DS (tb : Nat → Nat) (n h c : Nat) (N0 : gM) (i : Nat) (O : List Nat) (X : List Cw) (N : gM) : Prop := DH tb n h i N ∧ EG h c 200 N0 N ∧ (N.1 31 = N0.1 31 ∧ N.1 0 63 = N0.1 0 63) ∧ (∀ o ∈ O, okO o) ∧ AO e2O (N.1 45) O ∧ N.1 0 60 = i3 (O.length : Int) ∧ N.1 28 h = i3 ((500 * h + c + X.length : Nat) : Int) ∧ FV (N.1 29) (N.1 30) (500 * h + c) X ∧ N.1 0 62 = i3 ((500 * h + c : Nat) : Int)
variable {O : List Nat} {X : List Cw}
theorem DS.emit (H : DS tb n h c N0 i O X N) (hc : c + X.length < 500) {x : Cw} {v : Int32} (hv : x.1 < 2 → v = i3 x.2) : ∃ N', f_X10_emit (i3 (x.1 : Int)) v N = some ((), N') ∧ DS tb n h c N0 i O (X ++ [x]) N' := by
  obtain ⟨hD, hE, h31, hO, hA, h60, h28, hF, h62⟩ := H
  have hh := hD.1
  have e28 : ∀ (j : Nat) (y : Int32), (sI N 29 j y).1 28 h = i3 ((500 * h + c + X.length : Nat) : Int) := fun j y => by rw [rI_n (by decide), h28]
  have e28' : ∀ (j : Nat) (y y' : Int32), (sI (sI N 29 j y) 30 j y').1 28 h = i3 ((500 * h + c + X.length : Nat) : Int) := fun j y y' => by rw [rI_n (by decide), rI_n (by decide), h28]
  have e14 : ∀ (j : Nat) (y : Int32), (sI N 29 j y).1 0 14 = N.1 0 14 := fun j y => by rw [rI_n (by decide)]
  have e14' : ∀ (j : Nat) (y y' : Int32), (sI (sI N 29 j y) 30 j y').1 0 14 = N.1 0 14 := fun j y y' => by rw [rI_n (by decide), rI_n (by decide)]
  refine ⟨sI (sI (sI N 29 (500 * h + c + X.length) (i3 (x.1 : Int))) 30 (500 * h + c + X.length) v) 28 h (i3 ((500 * h + c + (X ++ [x]).length : Nat) : Int)), ?_, hD.mv ?_ ?_ ?_ rfl ?_ ?_ ?_, hE.m (by omega), ?_, hO, ?_, ?_, ?_, ?_, ?_⟩
  · rw [f_X10_emit, hD.ck, hD.tn, h28, ck_ok (by omega) (by omega) (by omega), g_m, tn_n (by omega), e14, hD.ck, hD.tn, e28, ck_ok (by omega) (by omega) (by omega), g_m, tn_n (by omega), e14', hD.ck, hD.ck, g_m, hD.tn, e28', i3_s1, List.length_append, List.length_singleton]
    rfl
  · rw [rI_n (by decide), rI_n (by decide), rI_n (by decide)]
  · rw [rI_n (by decide), rI_n (by decide), rI_n (by decide)]
  · rw [rI_n (by decide), rI_n (by decide), rI_n (by decide)]
  · rw [rI_n (by decide), rI_n (by decide), rI_n (by decide)]
  · rw [rI_n (by decide), rI_n (by decide), rI_n (by decide)]
  · rw [rI_n (by decide), rI_n (by decide), rI_n (by decide)]
  · exact ⟨by rw [rI_n (by decide), rI_n (by decide), rI_n (by decide), h31.1], by rw [rI_n (by decide), rI_n (by decide), rI_n (by decide), h31.2]⟩
  · rw [rI_n (by decide), rI_n (by decide), rI_n (by decide)]; exact hA
  · rw [rI_n (by decide), rI_n (by decide), rI_n (by decide)]; exact h60
  · rw [rI_e, up_e]
  · rw [rI_n (by decide), rI_n (by decide), rI_e, rI_n (by decide), rI_e, rI_n (by decide), FV_a]
    refine ⟨FV_c _ _ (fun k k1 k2 => ⟨by rw [up_n (by omega)], by rw [up_n (by omega)]⟩) hF, by rw [up_e], fun g => by rw [up_e]; exact hv g, trivial⟩
  · rw [rI_n (by decide), rI_n (by decide), rI_n (by decide)]; exact h62
theorem DS.await (H : DS tb n h c N0 i O X N) (hl : O.length < 500) {o : Nat} (ho : okO o) : ∃ N', f_X10_await (e2O o) N = some ((), N') ∧ DS tb n h c N0 i (o :: O) X N' := by
  obtain ⟨hD, hE, h31, hO, hA, h60, h28, hF, h62⟩ := H
  refine ⟨sI (sI N 45 O.length (e2O o)) 0 60 (i3 (((o :: O).length : Nat) : Int)), ?_, hD.mv ?_ ?_ ?_ rfl ?_ ?_ ?_, hE.w.o (by omega), ?_, ?_, ?_, ?_, ?_, ?_, ?_⟩
  · rw [f_X10_await, h60, ck_ok (by omega) (by omega) (by omega), g_m, tn_n (by omega), g_m, rI_n (by decide), h60, i3_s1, List.length_cons]
    rfl
  · rw [rI_n (by decide), rI_n (by decide)]
  · rw [rI_n (by decide), rI_n (by decide)]
  · rw [rI_n (by decide), rI_n (by decide)]
  · rw [rI_e, up_n (by decide), rI_n (by decide)]
  · rw [rI_e, up_n (by decide), rI_n (by decide)]
  · rw [rI_e, up_n (by decide), rI_n (by decide)]
  · exact ⟨by rw [rI_n (by decide), rI_n (by decide), h31.1], by rw [rI_e, up_n (by decide), rI_n (by decide), h31.2]⟩
  · intro q hq
    rcases List.mem_cons.1 hq with g | g
    · rw [g]; exact ho
    · exact hO q g
  · rw [rI_n (by decide), rI_e]
    exact ⟨by rw [up_e], AO_u O (Nat.le_refl _) hA⟩
  · rw [rI_e, up_e]
  · rw [rI_n (by decide), rI_n (by decide)]; exact h28
  · rw [rI_n (by decide), rI_n (by decide), rI_n (by decide), rI_n (by decide)]; exact hF
  · rw [rI_e, up_n (by decide), rI_n (by decide)]; exact h62
theorem DS.st (H : DS tb n h c N0 i O X N) (hi : i < 400) (hk : kdT tb n i < 30) : DS tb n h c N0 (i + 1) O X (sI N 0 8 (i3 ((i + 1 : Nat) : Int))) := by
  obtain ⟨hD, hE, h31, hO, hA, h60, h28, hF, h62⟩ := H
  exact ⟨hD.nx hi hk, hE.o (by omega), ⟨by rw [rI_n (by decide)]; exact h31.1, by rw [rI_e, up_n (by decide)]; exact h31.2⟩, hO, by rw [rI_n (by decide)]; exact hA, by rw [rI_e, up_n (by decide)]; exact h60, by rw [rI_n (by decide)]; exact h28, by rw [rI_n (by decide), rI_n (by decide)]; exact hF, by rw [rI_e, up_n (by decide)]; exact h62⟩
theorem DS.pop {o : Nat} (H : DS tb n h c N0 i (o :: O) X N) : DS tb n h c N0 i O X (sI N 0 60 (i3 (O.length : Int))) := by
  obtain ⟨hD, hE, h31, hO, hA, h60, h28, hF, h62⟩ := H
  exact ⟨hD.mv (by rw [rI_n (by decide)]) (by rw [rI_n (by decide)]) (by rw [rI_n (by decide)]) rfl (by rw [rI_e, up_n (by decide)]) (by rw [rI_e, up_n (by decide)]) (by rw [rI_e, up_n (by decide)]), hE.o (by omega), ⟨by rw [rI_n (by decide)]; exact h31.1, by rw [rI_e, up_n (by decide)]; exact h31.2⟩, fun q hq => hO q (List.mem_cons_of_mem _ hq), by rw [rI_n (by decide)]; exact hA.2, by rw [rI_e, up_e], by rw [rI_n (by decide)]; exact h28, by rw [rI_n (by decide), rI_n (by decide)]; exact hF, by rw [rI_e, up_n (by decide)]; exact h62⟩
theorem r_rank {o : Nat} (ho : okO o) : f_X10_rank (e2O o) N = some (i3 ((rk o : Nat) : Int), N) := by
  have : o = 0 ∨ o = 2 ∨ o = 3 ∨ o = 4 ∨ o = 5 ∨ o = 6 := by unfold okO at ho; omega
  rcases this with g | g | g | g | g | g <;> subst g <;> rfl
theorem rk_3 {o : Nat} (ho : okO o) : rk o ≤ 3 ∧ (1 ≤ rk o ↔ o ≠ 0) := by
  have : o = 0 ∨ o = 2 ∨ o = 3 ∨ o = 4 ∨ o = 5 ∨ o = 6 := by unfold okO at ho; omega
  rcases this with g | g | g | g | g | g <;> subst g <;> decide
theorem r_red0 {r : Nat} (hr : 1 ≤ r ∧ r ≤ 3) : ∀ (O : List Nat) (X : List Cw) (m : Nat) (N : gM), DS tb n h c N0 i O X N → c + X.length + O.length < 500 → O.length < m → wp (f_X10_reduce_0 m (i3 (r : Int)) 0 N) (fun _ N' => DS tb n h c N0 i (unw r O X).1 (unw r O X).2 N') := by
  intro O
  induction O with
  | nil =>
    intro X m N H h1 h3
    cases m with
    | zero => simp at h3
    | succ m =>
      rw [f_X10_reduce_0, H.2.2.2.2.2.1, if_pos (by decide), wp_some]
      exact H
  | cons o O ih =>
    intro X m N H h1 h3
    rw [List.length_cons] at h1 h3
    cases m with
    | zero => omega
    | succ m =>
      obtain ⟨hD, hE, h31, hO, hA, h60, h28, hF, h62⟩ := id H
      have ho := hO o List.mem_cons_self
      have hrk := rk_3 ho
      rw [f_X10_reduce_0, h60, List.length_cons, iL0, if_neg (by rw [i3_le (by omega) (by omega) (by omega) (by omega)]; omega), iL1, i3_sub, show ((O.length + 1 : Nat) : Int) - 1 = (O.length : Int) by omega, ck_ok (by omega) (by omega) (by omega), tn_n (by omega), hA.1, r_rank ho, g_b_some]
      simp (disch := omega) only [i3_lt]
      refine wp_if (fun g => ?_) (fun g => ?_)
      · rw [wp_some, unw, if_neg (by omega)]
        exact H
      · rw [h60, i3_sub, List.length_cons, show ((O.length + 1 : Nat) : Int) - 1 = (O.length : Int) by omega, wp_m]
        have hp := H.pop
        obtain ⟨N1, q1, q2⟩ := hp.emit (x := (o, 0)) (v := i3 0) (by omega) (fun g => by
          have g : o < 2 := g
          have : o = 0 := by unfold okO at ho; omega
          subst this
          have : rk 0 = 0 := rfl
          omega)
        rw [rI_e, up_e, ck_ok (by omega) (by omega) (by omega), tn_n (by omega), rI_n (by decide), hA.1]
        rw [show i3 (((o, (0 : Int)) : Cw).1 : Int) = e2O o from rfl] at q1
        rw [q1, g_b_some, unw, if_pos (by omega)]
        have := ih (X ++ [(o, 0)]) m N1 q2 (by rw [List.length_append, List.length_singleton]; omega) (by omega)
        rw [iL0] at this
        exact this
theorem DS.red (H : DS tb n h c N0 i O X N) {r : Nat} (hr : 1 ≤ r ∧ r ≤ 3) (h1 : c + X.length + O.length < 500) : wp (f_X10_reduce (i3 (r : Int)) 0 N) (fun _ N' => DS tb n h c N0 i (unw r O X).1 (unw r O X).2 N') := by
  rw [f_X10_reduce]
  exact r_red0 hr O X FU N H h1 (by rw [FU_s]; omega)
end
