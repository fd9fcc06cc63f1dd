/-! ===== ODDS ===== -/
def sumL (f : Nat → Int64) : Nat → Int64
  | 0 => 0
  | n + 1 => sumL f n + f n
theorem sumL_s {f : Nat → Int64} {n : Nat} : sumL f (n + 1) = sumL f n + f n := rfl
theorem sumL_c {f g : Nat → Int64} : ∀ n : Nat, (∀ i : Nat, i < n → f i = g i) → sumL f n = sumL g n := by
  intro n
  induction n with
  | zero => intro _; rfl
  | succ n ih => intro h; rw [sumL_s, sumL_s, ih (fun i hi => h i (by omega)), h n (by omega)]
theorem a22 (a b c d : Int64) : a + b + (c + d) = a + c + (b + d) := by rw [Int64.add_assoc, ← Int64.add_assoc b, Int64.add_comm b c, Int64.add_assoc c, ← Int64.add_assoc]
theorem sumL_add {f g : Nat → Int64} (n : Nat) : sumL (fun i => f i + g i) n = sumL f n + sumL g n := by
  induction n with
  | zero => rfl
  | succ n ih => rw [sumL_s, sumL_s, sumL_s, ih, a22]
theorem sumL_0 {f : Nat → Int64} (n : Nat) (h : ∀ i : Nat, i < n → f i = 0) : sumL f n = 0 := by
  induction n with
  | zero => rfl
  | succ n ih => rw [sumL_s, ih (fun i hi => h i (by omega)), h n (by omega)]; rfl
theorem sumL_up {W A : Nat → Int64} {q : Nat} {v : Int64} : ∀ n : Nat, q < n → W q * A q + sumL (fun i => vp_updL W q v i * A i) n = v * A q + sumL (fun i => W i * A i) n := by
  intro n
  induction n with
  | zero => intro h; omega
  | succ n ih =>
    intro h
    rw [sumL_s, sumL_s]
    by_cases hq : q = n
    · subst hq
      rw [uL_e, sumL_c (g := fun i => W i * A i) q (fun i hi => by rw [uL_n (by omega)])]
      rw [Int64.add_comm (sumL (fun i => W i * A i) q), Int64.add_comm (sumL (fun i => W i * A i) q), ← Int64.add_assoc, ← Int64.add_assoc, Int64.add_comm (W q * A q)]
    · rw [uL_n (show n ≠ q by omega), ← Int64.add_assoc, ← Int64.add_assoc, ih (by omega)]
def cfO (c : Nat) : Int64 := if c = 1 then 0 else 1
/-- how many rows of n gusts fall (0), are OVER (1), are at all (2) -/
noncomputable def ooR (R : tR) (p : Int) (X : Nat → Int) (c : Nat) : Nat → Nat → Int64
  | 0, s => if c = 0 then 0 else if c = 1 then @ite _ (stP R s ∧ ovP R s) (Classical.propDecidable _) 1 0 else 1
  | n + 1, s => @ite _ (stP R s) (Classical.propDecidable _) (@ite _ (ovP R s) (Classical.propDecidable _) (if c = 0 then 0 else 1) (sumL (fun i => @ite _ (drX R p X s (loR R p s + (i : Int)) = -2) (Classical.propDecidable _) (cfO c) (ooR R p X c n (drX R p X s (loR R p s + (i : Int))).toNat)) (hiR R p s - loR R p s + 1).toNat)) 0
theorem oo_00 {R : tR} {p : Int} {X : Nat → Int} {s : Nat} : ooR R p X 0 0 s = 0 := by rw [ooR, if_pos rfl]
theorem oo_10 {R : tR} {p : Int} {X : Nat → Int} {s : Nat} : ooR R p X 1 0 s = @ite _ (stP R s ∧ ovP R s) (Classical.propDecidable _) 1 0 := by rw [ooR, if_neg (by decide), if_pos rfl]
theorem oo_20 {R : tR} {p : Int} {X : Nat → Int} {s : Nat} : ooR R p X 2 0 s = 1 := by rw [ooR, if_neg (by decide), if_neg (by decide)]
theorem oo_ov {R : tR} {p : Int} {X : Nat → Int} {c s : Nat} (hs : stP R s) (ho : ovP R s) (hc : c < 3) : ∀ n, ooR R p X c n s = if c = 0 then 0 else 1 := by
  intro n
  cases n with
  | zero =>
    rw [ooR]
    by_cases h0 : c = 0
    · rw [if_pos h0, if_pos h0]
    · rw [if_neg h0, if_neg h0]
      by_cases h1 : c = 1
      · rw [if_pos h1, if_pos ⟨hs, ho⟩]
      · rw [if_neg h1]
  | succ n => rw [ooR, if_pos hs, if_pos ho]
/-! the class -/
theorem k_fillL {c n0 : Nat} (hc : n0 < 2147483648) (hn : n0 ≤ 999999) {v : Int64} {M : gM} : wp (f_J7_fill_d0a16 c n0 v M) (fun _ N => Fr [c] M N ∧ ∀ i : Nat, i < n0 → N.2.1 c i = v) := by
  rw [f_J7_fill_d0a16, wp_v]
  have e : Int32.ofNat n0 = i3 (n0 : Int) := i3_nI n0
  rw [e]
  refine wp_lp (F := fun n x (_ : Unit) M => f_J7_fill_d0a16_6 c n0 n v (i3 x) (i3 n0) M) (I := fun x _ N => Fr [c] M N ∧ ∀ i : Nat, i < x → N.2.1 c i = v) n0 ?_ ?_ FU 0 () M (by omega) (by rw [FU_s]; omega) ⟨Fr.rf, fun i hi => by omega⟩
  · intro n x _ N hx hI hk
    obtain ⟨f, i1⟩ := hI
    rw [f_J7_fill_d0a16_6]
    rw [show i3 (x : Int) + 1 = i3 ((x + 1 : Nat) : Int) from i3_sn x]
    simp (disch := omega) only [i3_le, ck_ok, i3_tn, Int.toNat_natCast]
    rw [if_neg (by omega), wp_m]
    refine hk () _ ⟨f.l (by simp), fun i hi => ?_⟩
    rw [rL_e]
    by_cases hix : i = x
    · subst hix; rw [uL_e]
    · rw [uL_n hix]; exact i1 i (by omega)
  · intro n _ N hI
    obtain ⟨f, i1⟩ := hI
    rw [f_J7_fill_d0a16_6]
    simp (disch := omega) only [i3_le]
    rw [if_pos (by omega), wp_some]
    exact ⟨f, i1⟩
theorem k_spread {R : tR} {p : Int} {t st L s : Nat} {ls : Nat → Nat} {M : gM} (hC : CB R p t st M) (hL : lnL R p L ls) (h49 : ∀ s : Nat, s < 2079 → M.1 49 s = i3 (@ite _ (lnP L ls s) (Classical.propDecidable _) (keR R p s + 1) 0)) (hs : stP R s) : wp (f_X3_spread (i3 s) M) (fun r N => CB R p t st N ∧ Fr (cBt ++ [56]) M N ∧ (∀ (A : Nat → Int64) (k : Int64), sumL (fun i => N.2.1 56 i * A i) 2079 + r * k = sumL (fun i => M.2.1 56 i * A i) 2079 + M.2.1 55 s * sumL (fun i => @ite _ (drX R p (rxX R p L ls) s (loR R p s + (i : Int)) = -2) (Classical.propDecidable _) k (A (drX R p (rxX R p L ls) s (loR R p s + (i : Int))).toNat)) (hiR R p s - loR R p s + 1).toNat) ∧ ∀ q : Nat, q < 2079 → ¬ stP R q → N.2.1 56 q = M.2.1 56 q) := by
  have hR := hC.1.1
  have hX := rx_XP hR hL
  have hlt := st_lt hs
  have hlh := lh_r (p := p) (s := s) hR
  rw [f_X3_spread]
  refine wp_b _ (k_actIn hC hL h49 hlt) (fun r N0 hN => ?_)
  obtain ⟨rfl, hC0, f0⟩ := hN
  refine wp_b _ (c_least hlt hC0) (fun r N1 hN => ?_)
  obtain ⟨rfl, hC1, f1⟩ := hN
  have key : ∀ (m j : Nat) (fa : Int64) (N : gM), j ≤ (hiR R p s - loR R p s + 1).toNat → (hiR R p s - loR R p s + 1).toNat < m + j → CB R p t st N → Fr (cBt ++ [56]) M N → (∀ (A : Nat → Int64) (k : Int64), sumL (fun i => N.2.1 56 i * A i) 2079 + fa * k = sumL (fun i => M.2.1 56 i * A i) 2079 + M.2.1 55 s * sumL (fun i => @ite _ (drX R p (rxX R p L ls) s (loR R p s + (i : Int)) = -2) (Classical.propDecidable _) k (A (drX R p (rxX R p L ls) s (loR R p s + (i : Int))).toNat)) j) → (∀ q : Nat, q < 2079 → ¬ stP R q → N.2.1 56 q = M.2.1 56 q) →
      wp (f_X3_spread_19 m (i3 s) fa (i3 (rxX R p L ls s)) (i3 (loR R p s + (j : Int))) N) (fun r N => CB R p t st N ∧ Fr (cBt ++ [56]) M N ∧ (∀ (A : Nat → Int64) (k : Int64), sumL (fun i => N.2.1 56 i * A i) 2079 + r * k = sumL (fun i => M.2.1 56 i * A i) 2079 + M.2.1 55 s * sumL (fun i => @ite _ (drX R p (rxX R p L ls) s (loR R p s + (i : Int)) = -2) (Classical.propDecidable _) k (A (drX R p (rxX R p L ls) s (loR R p s + (i : Int))).toNat)) (hiR R p s - loR R p s + 1).toNat) ∧ ∀ q : Nat, q < 2079 → ¬ stP R q → N.2.1 56 q = M.2.1 56 q) := by
    intro m
    induction m with
    | zero => intro j fa N h1 h2; omega
    | succ m ih =>
      intro j fa N hj hm hCN fN hA hS
      rw [f_X3_spread_19]
      refine wp_b _ (c_great hlt hCN) (fun r N2 hN => ?_)
      obtain ⟨rfl, hC2, f2⟩ := hN
      simp (disch := omega) only [i3_lt]
      refine wp_if (fun hx => ?_) (fun hx => ?_)
      · have : j = (hiR R p s - loR R p s + 1).toNat := by omega
        rw [wp_some]
        refine ⟨hC2, fN.tr (f2.up (by decide)), fun A k => ?_, fun q hq hns => by rw [f2.e2 (by decide)]; exact hS q hq hns⟩
        rw [f2.e2 (by decide), hA A k, this]
      · refine wp_b _ (k_behind hC2 hlt (hX _ hs) (by omega)) (fun r N3 hN => ?_)
        obtain ⟨rfl, hC3, f3⟩ := hN
        have f23 : Fr cBt N N3 := f2.tr f3
        have fN3 : Fr (cBt ++ [56]) M N3 := fN.tr (f23.up (by decide))
        have e55 : N3.2.1 55 s = M.2.1 55 s := by rw [fN3.e2 (by decide)]
        have e56 : N3.2.1 56 = N.2.1 56 := f23.e2 (by decide)
        have eg : i3 (loR R p s + (j : Int)) + 1 = i3 (loR R p s + ((j + 1 : Nat) : Int)) := by
          rw [iL1, i3_add]
          congr 1
          omega
        rw [eg]
        rcases dr_q hR p (rxX R p L ls) s (loR R p s + (j : Int)) with hq | ⟨q, hq, hq2, hq3⟩
        · rw [hq, if_neg (show ¬ (0 : Int32) ≤ i3 (-2) by decide), ck_ok (by omega) (by omega) (by omega), wp_v, tn_n (by omega), e55]
          refine ih (j + 1) _ N3 (by omega) (by omega) hC3 fN3 (fun A k => ?_) (fun q hq hns => by rw [e56]; exact hS q hq hns)
          rw [e56, sumL_s (n := j), if_pos hq, Int64.add_mul, ← Int64.add_assoc, hA A k, Int64.mul_add, Int64.add_assoc]
        · have e0 : (0 : Int32) ≤ i3 (q : Int) := by
            rw [iL0, i3_le (by omega) (by omega) (by omega) (by omega)]
            omega
          rw [hq, if_pos e0]
          simp (disch := omega) only [ck_ok, i3_tn, Int.toNat_natCast]
          rw [wp_m, e55, e56]
          have q56 : (sL N3 56 q (N.2.1 56 q + M.2.1 55 s)).2.1 56 = vp_updL (N.2.1 56) q (N.2.1 56 q + M.2.1 55 s) := by rw [rL_e, e56]
          have fQ : Fr (cBt ++ [56]) M (sL N3 56 q (N.2.1 56 q + M.2.1 55 s)) := fN3.l (by decide)
          have hCQ : CB R p t st (sL N3 56 q (N.2.1 56 q + M.2.1 55 s)) := hC3.mv (S := [56]) (Fr.rf.l (by decide)) (by decide)
          generalize sL N3 56 q (N.2.1 56 q + M.2.1 55 s) = N4 at q56 fQ hCQ ⊢
          refine ih (j + 1) fa N4 (by omega) (by omega) hCQ fQ (fun A k => ?_) (fun u hu hns => ?_)
          · have hup := sumL_up (W := N.2.1 56) (A := A) (q := q) (v := N.2.1 56 q + M.2.1 55 s) 2079 hq2
            rw [Int64.add_mul, Int64.add_assoc] at hup
            have hup2 : sumL (fun i => vp_updL (N.2.1 56) q (N.2.1 56 q + M.2.1 55 s) i * A i) 2079 = M.2.1 55 s * A q + sumL (fun i => N.2.1 56 i * A i) 2079 := Int64.add_right_inj _ |>.1 hup
            rw [q56, hup2, sumL_s (n := j), if_neg (by omega), hq, Int.toNat_natCast, Int64.mul_add, Int64.add_assoc, hA A k, ← Int64.add_assoc, Int64.add_comm (M.2.1 55 s * A q), Int64.add_assoc, Int64.add_comm (M.2.1 55 s * A q)]
          · rw [q56, uL_n (fun e => hns (by rw [e]; exact hq3))]
            exact hS u hu hns
  have := key FU 0 0 N1 (by omega) (by rw [FU_s]; omega) hC1 ((f0.tr f1).up (by decide)) (fun A k => ?_) (fun q hq _ => by rw [f1.e2 (by decide), f0.e2 (by decide)])
  · rw [show loR R p s + ((0 : Nat) : Int) = loR R p s by omega] at this
    exact this
  · rw [f1.e2 (by decide), f0.e2 (by decide)]
    show _ + 0 * k = _ + _ * 0
    rw [Int64.zero_mul, Int64.mul_zero]
/-- what stands fast while the rows go on -/
noncomputable def phO (R : tR) (p : Int) (X : Nat → Int) (c m : Nat) (N : gM) (fa : Int64) : Int64 := sumL (fun i => N.2.1 55 i * ooR R p X c (m + 1) i) 2079 + (sumL (fun i => N.2.1 56 i * ooR R p X c m i) 2079 + fa * cfO c)
abbrev cOd : List Nat := cBt ++ [55, 56]
def spO (R : tR) (N : gM) : Prop := ∀ q : Nat, q < 2079 → ¬ stP R q → N.2.1 55 q = 0 ∧ N.2.1 56 q = 0
theorem k_o54 {R : tR} {p : Int} {t st L m : Nat} {ls : Nat → Nat} {k45 : Int32 → Int32 → Int32 → Int64 → Int32 → gM → Option (Int64 × gM)} {Q : Int64 → gM → Prop} {M : gM} {T : Nat → Int64} {x2 x3 x7 : Int32} {fa0 : Int64} (hC : CB R p t st M) (hL : lnL R p L ls) (h49 : ∀ s : Nat, s < 2079 → M.1 49 s = i3 (@ite _ (lnP L ls s) (Classical.propDecidable _) (keR R p s + 1) 0)) (hS : spO R M) (hT : ∀ c : Nat, c < 3 → phO R p (rxX R p L ls) c m M fa0 = T c)
    (hk : ∀ (fa : Int64) N, CB R p t st N → Fr cOd M N → spO R N → (∀ c : Nat, c < 3 → sumL (fun i => N.2.1 55 i * ooR R p (rxX R p L ls) c m i) 2079 + fa * cfO c = T c) → (∀ q : Nat, q < 2079 → N.2.1 56 q = 0) → wp (k45 x2 x3 (i3 (rLen R * 231)) fa (x7 + 1) N) Q) :
    wp (f_X3_countRows_54 k45 FU x2 x3 (i3 (rLen R * 231)) fa0 x7 (i3 ((0 : Nat) : Int)) M) Q := by
  have hR := hC.1.1
  have hlen := hR.1
  obtain ⟨top, htop⟩ : ∃ top : Nat, (top : Int) = rLen R * 231 := ⟨(rLen R * 231).toNat, by omega⟩
  rw [← htop]
  refine wp_lp (F := fun n x (c : Int64) M => f_X3_countRows_54 k45 n x2 x3 (i3 top) c x7 (i3 x) M)
    (I := fun x fa N => CB R p t st N ∧ Fr cOd M N ∧ spO R N ∧ (∀ c : Nat, c < 3 → phO R p (rxX R p L ls) c m N fa = T c) ∧ ∀ q : Nat, q < x → N.2.1 55 q = 0) top ?_ ?_ FU 0 fa0 M (by omega) (by rw [FU_s]; omega) ⟨hC, Fr.rf, hS, hT, fun q hq => by omega⟩
  · intro n x fa N hx hI hk2
    obtain ⟨i1, fr, i2, i4, i5⟩ := hI
    rw [f_X3_countRows_54]
    rw [show i3 (x : Int) + 1 = i3 ((x + 1 : Nat) : Int) from i3_sn x]
    simp (disch := omega) only [iL2079, i3_le, ck_ok, i3_tn, Int.toNat_natCast]
    rw [if_neg (by omega), if_neg (by omega)]
    by_cases hW : N.2.1 55 x = 0
    · rw [if_pos ((lg_cmp_eq _ _).2 hW)]
      refine hk2 fa N ⟨i1, fr, i2, i4, fun q hq => ?_⟩
      by_cases hqx : q = x
      · subst hqx; exact hW
      · exact i5 q (by omega)
    · rw [if_neg (fun h => hW ((lg_cmp_eq _ _).1 h))]
      have hst : stP R x := Classical.byContradiction (fun h => hW (i2 x (by omega) h).1)
      have hop : opP R x := op_lt.2 ⟨hst, by omega⟩
      refine wp_b _ (k_spread i1 hL (fun s hs => by rw [fr.e1 (by decide)]; exact h49 s hs) hst) (fun r N2 hN => ?_)
      obtain ⟨hC2, f2, hA, hS2⟩ := hN
      rw [wp_v, wp_m]
      have q55 : (sL N2 55 x 0).2.1 55 = vp_updL (N.2.1 55) x 0 := by rw [rL_e, f2.e2 (by decide)]
      have q56 : (sL N2 55 x 0).2.1 56 = N2.2.1 56 := rL_n (by decide)
      have fQ : Fr cOd M (sL N2 55 x 0) := (fr.tr (f2.up (by decide))).l (by decide)
      have hCQ : CB R p t st (sL N2 55 x 0) := hC2.mv (S := [55]) (Fr.rf.l (by decide)) (by decide)
      generalize sL N2 55 x 0 = N3 at q55 q56 fQ hCQ ⊢
      refine hk2 (fa + r) N3 ⟨hCQ, fQ, fun q hq hns => ?_, fun c hc => ?_, fun q hq => ?_⟩
      · rw [q55, q56, uL_n (fun e => hns (by rw [e]; exact hst)), hS2 q hq hns]
        exact i2 q hq hns
      · rw [← i4 c hc]
        unfold phO
        have hup := sumL_up (W := N.2.1 55) (A := ooR R p (rxX R p L ls) c (m + 1)) (q := x) (v := 0) 2079 (by omega)
        rw [Int64.zero_mul, Int64.zero_add] at hup
        have hAc := hA (ooR R p (rxX R p L ls) c m) (cfO c)
        have hoo : ooR R p (rxX R p L ls) c (m + 1) x = sumL (fun i => @ite _ (drX R p (rxX R p L ls) x (loR R p x + (i : Int)) = -2) (Classical.propDecidable _) (cfO c) (ooR R p (rxX R p L ls) c m (drX R p (rxX R p L ls) x (loR R p x + (i : Int))).toNat)) (hiR R p x - loR R p x + 1).toNat := by rw [ooR, if_pos hst, if_neg hop.2]
        rw [← hoo] at hAc
        rw [q55, q56, ← hup, Int64.add_mul]
        generalize sumL (fun i => vp_updL (N.2.1 55) x 0 i * ooR R p (rxX R p L ls) c (m + 1) i) 2079 = a at *
        generalize sumL (fun i => N2.2.1 56 i * ooR R p (rxX R p L ls) c m i) 2079 = b at *
        generalize sumL (fun i => N.2.1 56 i * ooR R p (rxX R p L ls) c m i) 2079 = d at *
        generalize N.2.1 55 x * ooR R p (rxX R p L ls) c (m + 1) x = e at *
        generalize fa * cfO c = f at *
        generalize r * cfO c = g at *
        rw [Int64.add_comm f g, ← Int64.add_assoc b g f, hAc, Int64.add_comm e a, Int64.add_assoc a e, Int64.add_assoc d e f, Int64.add_comm e f, ← Int64.add_assoc d f e, Int64.add_comm (d + f) e]
      · rw [q55]
        by_cases hqx : q = x
        · subst hqx; rw [uL_e]
        · rw [uL_n hqx]; exact i5 q (by omega)
  · intro n fa N hI
    obtain ⟨i1, fr, i2, i4, i5⟩ := hI
    rw [f_X3_countRows_54]
    simp (disch := omega) only [i3_le]
    rw [if_pos (by omega)]
    -- what went on is laid to what stayed
    refine wp_lp (F := fun n x (_ : Unit) M => f_X3_countRows_109 k45 n x2 x3 (i3 top) fa x7 (i3 x) M)
      (I := fun x _ L2 => CB R p t st L2 ∧ Fr [55, 56] N L2 ∧ (∀ q : Nat, q < x → L2.2.1 55 q = N.2.1 55 q + N.2.1 56 q ∧ L2.2.1 56 q = 0) ∧ ∀ q : Nat, x ≤ q → L2.2.1 55 q = N.2.1 55 q ∧ L2.2.1 56 q = N.2.1 56 q) 2079 ?_ ?_ FU 0 () N (by omega) (by rw [FU_s]; omega) ⟨i1, Fr.rf, fun q hq => by omega, fun _ _ => ⟨rfl, rfl⟩⟩
    · intro n x _ L2 hx hI hk2
      obtain ⟨j1, fL, j2, j3⟩ := hI
      rw [f_X3_countRows_109]
      rw [show i3 (x : Int) + 1 = i3 ((x + 1 : Nat) : Int) from i3_sn x]
      simp (disch := omega) only [iL2079, i3_le, ck_ok, i3_tn, Int.toNat_natCast]
      rw [if_neg (by omega), wp_m, wp_m, (j3 x (Nat.le_refl _)).1, (j3 x (Nat.le_refl _)).2]
      refine hk2 () _ ⟨j1.mv (S := [55, 56]) ((Fr.rf.l (by decide)).l (by decide)) (by decide), (fL.l (by decide)).l (by decide), fun q hq => ?_, fun q hq => ?_⟩
      · rw [rL_n (by decide), rL_e, rL_e, rL_n (by decide)]
        by_cases hqx : q = x
        · subst hqx
          rw [uL_e, uL_e]
          exact ⟨rfl, rfl⟩
        · rw [uL_n hqx, uL_n hqx]
          exact j2 q (by omega)
      · rw [rL_n (by decide), rL_e, rL_e, rL_n (by decide), uL_n (by omega), uL_n (by omega)]
        exact j3 q (by omega)
    · intro n _ L2 hI
      obtain ⟨j1, fL, j2, j3⟩ := hI
      rw [f_X3_countRows_109]
      simp (disch := omega) only [iL2079, i3_le]
      rw [if_pos (by omega), htop]
      refine hk fa L2 j1 (fr.tr (fL.up (by decide))) (fun q hq hns => ?_) (fun c hc => ?_) (fun q hq => (j2 q hq).2)
      · rw [(j2 q hq).1, (j2 q hq).2, (i2 q hq hns).1, (i2 q hq hns).2]
        exact ⟨rfl, rfl⟩
      · rw [← i4 c hc]
        unfold phO
        rw [← Int64.add_assoc, ← sumL_add]
        refine congrArg (fun z => z + fa * cfO c) (sumL_c 2079 (fun q hq => ?_))
        rw [(j2 q hq).1, Int64.add_mul]
        refine congrArg (fun z => z + N.2.1 56 q * ooR R p (rxX R p L ls) c m q) ?_
        by_cases hst : stP R q
        · by_cases ho : ovP R q
          · rw [oo_ov hst ho hc, oo_ov hst ho hc]
          · have hq2 : q < top := by have := (op_lt.1 ⟨hst, ho⟩).2; omega
            rw [i5 q hq2, Int64.zero_mul, Int64.zero_mul]
        · rw [(i2 q hq hst).1, Int64.zero_mul, Int64.zero_mul]
theorem k_odds {R : tR} {p : Int} {t st L s0 nn wh : Nat} {ls : Nat → Nat} {M : gM} (hC : CB R p t st M) (hL : lnL R p L ls) (h49 : ∀ s : Nat, s < 2079 → M.1 49 s = i3 (@ite _ (lnP L ls s) (Classical.propDecidable _) (keR R p s + 1) 0)) (hs : stP R s0) (hn : nn ≤ 12) (hw : wh < 3) : wp (f_X3_countRows (i3 s0) (i3 nn) (i3 wh) M) (fun r N => r = ooR R p (rxX R p L ls) wh nn s0 ∧ CB R p t st N ∧ Fr cOd M N) := by
  have hR := hC.1.1
  have hlen := hR.1
  have hlt := st_lt hs
  have hl : M.1 t 0 = i3 (rLen R) := hC.1.2.2.2.2.2.1.1
  obtain ⟨top, htop⟩ : ∃ top : Nat, (top : Int) = rLen R * 231 := ⟨(rLen R * 231).toNat, by omega⟩
  rw [f_X3_countRows, k_or hC, hl, iL231, i3_mul, wp_v]
  refine wp_b _ (k_fillL (c := 55) (n0 := 2079) (v := 0) (by omega) (by omega)) (fun _ M1 hN => ?_)
  obtain ⟨f1, g1⟩ := hN
  refine wp_b _ (k_fillL (c := 56) (n0 := 2079) (v := 0) (by omega) (by omega)) (fun _ M2 hN => ?_)
  obtain ⟨f2, g2⟩ := hN
  rw [ck_ok (by omega) (by omega) (by omega), wp_m, tn_n (by omega)]
  have f3 : Fr cOd M (sL M2 55 s0 1) := ((f1.up (by decide)).tr (f2.up (by decide))).l (by decide)
  have q55 : ∀ q : Nat, q < 2079 → (sL M2 55 s0 1).2.1 55 q = if q = s0 then 1 else 0 := fun q hq => by
    rw [rL_e]
    by_cases h : q = s0
    · rw [h, uL_e, if_pos rfl]
    · rw [uL_n h, if_neg h, f2.e2 (by decide), g1 q hq]
  have q56 : ∀ q : Nat, q < 2079 → (sL M2 55 s0 1).2.1 56 q = 0 := fun q hq => by rw [rL_n (by decide), g2 q hq]
  have hC3 : CB R p t st (sL M2 55 s0 1) := hC.mv (S := [55, 56]) (((f1.up (by decide)).tr (f2.up (by decide))).l (by decide)) (by decide)
  generalize sL M2 55 s0 1 = M3 at f3 q55 q56 hC3 ⊢
  have key : ∀ (m k : Nat) (fa : Int64) (N : gM), k ≤ nn → nn < m + k → CB R p t st N → Fr cOd M N → spO R N → (∀ c : Nat, c < 3 → sumL (fun i => N.2.1 55 i * ooR R p (rxX R p L ls) c (nn - k) i) 2079 + fa * cfO c = ooR R p (rxX R p L ls) c nn s0) → (∀ q : Nat, q < 2079 → N.2.1 56 q = 0) → wp (f_X3_countRows_45 m (i3 nn) (i3 wh) (i3 (rLen R * 231)) fa (i3 k) N) (fun r N => r = ooR R p (rxX R p L ls) wh nn s0 ∧ CB R p t st N ∧ Fr cOd M N) := by
    intro m
    induction m with
    | zero => intro k fa N h1 h2; omega
    | succ m ih =>
      intro k fa N h1 h2 hCN fN hS hT h56
      rw [f_X3_countRows_45]
      simp (disch := omega) only [i3_le]
      refine wp_if (fun hx => ?_) (fun hx => ?_)
      · -- the sums at the end
        have : k = nn := by omega
        subst this
        rw [Nat.sub_self] at hT
        rw [← htop]
        refine wp_lp (F := fun n x (c : Int64 × Int64) M => f_X3_countRows_163 n (i3 wh) (i3 top) fa c.1 c.2 (i3 x) M)
          (I := fun x c L2 => L2 = N ∧ c.1 = sumL (fun i => if i < top then 0 else N.2.1 55 i) x ∧ c.2 = sumL (fun i => if i < top then N.2.1 55 i else 0) x) 2079 ?_ ?_ FU 0 (0, 0) N (by omega) (by rw [FU_s]; omega) ⟨rfl, rfl, rfl⟩
        · rintro n x ⟨ov, op⟩ L2 hx ⟨rfl, i1, i2⟩ hk2
          simp only at i1 i2
          show wp (f_X3_countRows_163 (n + 1) (i3 wh) (i3 top) fa ov op (i3 x) L2) _
          rw [f_X3_countRows_163]
          simp (disch := omega) only [iL2079, i3_le, i3_lt]
          rw [if_neg (by omega)]
          refine wp_if (fun hy => ?_) (fun hy => ?_)
          · rw [f_X3_countRows_191, wp_v]
            rw [show i3 (x : Int) + 1 = i3 ((x + 1 : Nat) : Int) from i3_sn x]
            simp (disch := omega) only [i3_le]
            rw [if_neg (by omega), ck_ok (by omega) (by omega) (by omega), wp_v, tn_n (by omega)]
            exact hk2 (ov + 0, op + L2.2.1 55 x) L2 ⟨rfl, by rw [sumL_s (n := x), if_pos (by omega), i1], by rw [sumL_s (n := x), if_pos (by omega), i2]⟩
          · rw [ck_ok (by omega) (by omega) (by omega), tn_n (by omega), f_X3_countRows_191, wp_v]
            rw [show i3 (x : Int) + 1 = i3 ((x + 1 : Nat) : Int) from i3_sn x]
            simp (disch := omega) only [i3_le]
            rw [if_pos (by omega), wp_v]
            exact hk2 (ov + L2.2.1 55 x, op + 0) L2 ⟨rfl, by rw [sumL_s (n := x), if_neg (by omega), i1], by rw [sumL_s (n := x), if_neg (by omega), i2]⟩
        · rintro n ⟨ov, op⟩ L2 ⟨rfl, i1, i2⟩
          simp only at i1 i2
          show wp (f_X3_countRows_163 (n + 1) (i3 wh) (i3 top) fa ov op (i3 ((2079 : Nat) : Int)) L2) _
          rw [f_X3_countRows_163]
          simp (disch := omega) only [iL2079, iL0, iL1, i3_le, i3_eq]
          rw [if_pos (by omega)]
          have hT0 := hT wh hw
          have c : wh = 0 ∨ wh = 1 ∨ wh = 2 := by omega
          rcases c with rfl | rfl | rfl
          · rw [if_pos (by omega), wp_some]
            refine ⟨?_, hCN, fN⟩
            rw [← hT0, sumL_0 2079 (fun i _ => by rw [oo_00, Int64.mul_zero]), Int64.zero_add]
            show fa = fa * 1
            rw [Int64.mul_one]
          · rw [if_neg (by omega), if_pos (by omega), wp_some]
            refine ⟨?_, hCN, fN⟩
            rw [← hT0, i1]
            show _ = _ + fa * 0
            rw [Int64.mul_zero, Int64.add_zero]
            refine sumL_c 2079 (fun q hq => ?_)
            rw [oo_10]
            by_cases hst : stP R q
            · by_cases ho : ovP R q
              · have : ¬ q < top := fun hlt => (op_lt.2 ⟨hst, by omega⟩ : opP R q).2 ho
                rw [if_neg this, if_pos ⟨hst, ho⟩, Int64.mul_one]
              · have := (op_lt.1 ⟨hst, ho⟩).2
                rw [if_pos (by omega), if_neg (fun h => ho h.2), Int64.mul_zero]
            · rw [(hS q hq hst).1, Int64.zero_mul]
              split <;> rfl
          · rw [if_neg (by omega), if_neg (by omega), wp_some]
            refine ⟨?_, hCN, fN⟩
            rw [← hT0, i1, i2]
            show _ = _ + fa * 1
            rw [Int64.mul_one, Int64.add_assoc, ← sumL_add, Int64.add_comm fa]
            refine congrArg (fun z => z + fa) (sumL_c 2079 (fun q hq => ?_))
            rw [oo_20, Int64.mul_one]
            split
            · rw [Int64.zero_add]
            · rw [Int64.add_zero]
      · refine k_o54 (m := nn - k - 1) (T := fun c => ooR R p (rxX R p L ls) c nn s0) hCN hL (fun s hs => by rw [fN.e1 (by decide)]; exact h49 s hs) hS (fun c hc => ?_) (fun fa2 N2 u1 u2 u3 u4 u5 => ?_)
        · unfold phO
          rw [sumL_0 (f := fun i => N.2.1 56 i * ooR R p (rxX R p L ls) c (nn - k - 1) i) 2079 (fun i hi => by rw [h56 i hi, Int64.zero_mul]), Int64.zero_add, show nn - k - 1 + 1 = nn - k by omega]
          exact hT c hc
        · rw [i3_sn]
          exact ih (k + 1) fa2 N2 (by omega) (by omega) u1 (fN.tr u2) u3 (fun c hc => by rw [show nn - (k + 1) = nn - k - 1 by omega]; exact u4 c hc) u5
  refine key FU 0 0 M3 (by omega) (by rw [FU_s]; omega) hC3 f3 (fun q hq hns => ⟨?_, q56 q hq⟩) (fun c hc => ?_) q56
  · rw [q55 q hq, if_neg (fun e => hns (by rw [e]; exact hs))]
  · rw [Int64.zero_mul, Int64.add_zero, Nat.sub_zero]
    have hup := sumL_up (W := fun _ => (0 : Int64)) (A := ooR R p (rxX R p L ls) c nn) (q := s0) (v := 1) 2079 hlt
    rw [Int64.zero_mul, Int64.zero_add, Int64.one_mul, sumL_0 (f := fun i => (0 : Int64) * ooR R p (rxX R p L ls) c nn i) 2079 (fun i _ => Int64.zero_mul), Int64.add_zero] at hup
    rw [← hup]
    refine sumL_c 2079 (fun q hq => ?_)
    rw [q55 q hq]
    by_cases h : q = s0
    · rw [if_pos h, h, uL_e]
    · rw [if_neg h, uL_n h]
