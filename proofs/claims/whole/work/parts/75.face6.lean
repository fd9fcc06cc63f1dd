/-! ===== blame, drill, hold, compare, count: the class ===== -/
theorem keO.c {R : tR} {p : Int} {M N : gM} (h : keO R p M) (e1 : N.1 38 = M.1 38) (e2 : N.1 39 = M.1 39) : keO R p N := by
  unfold keO
  rw [e1, e2]
  exact h
theorem CB.mx {R : tR} {p : Int} {t st : Nat} {M M' : gM} {S : List Nat} (h : CB R p t st M) (f : Fr S M M') (hS : ∀ k ∈ S, ¬ (t ≤ k ∧ k ≤ t + 8) ∧ k ≠ 27 ∧ ¬ (31 ≤ k ∧ k ≤ 36)) : CB R p t st M' := by
  obtain ⟨⟨b1, b2, b3, b4, b5, b6⟩, h2, h3, h4, h5⟩ := h
  have hn : ∀ k, (k = 27 ∨ (31 ≤ k ∧ k ≤ 36)) → k ∉ S := fun k hk hs => by
    have := hS k hs
    omega
  refine ⟨⟨b1, b2, b3, by rw [f.e3 (hn 27 (by omega)), b4], by rw [f.e1 (hn 27 (by omega)), b5], b6.mv (fun k hk1 hk2 => f.e1 (fun hs => (hS k hs).1 ⟨hk1, hk2⟩))⟩, h2, ?_, fun s hs => ?_, fun i hi => ?_⟩
  · rw [f.e1 (hn 27 (by omega)), h3]
  · obtain ⟨e, g1, g2, g3⟩ := h4 s hs
    refine ⟨e, g1, by rw [f.e1 (hn 31 (by omega)), g2], fun he => ?_⟩
    have := g3 he
    unfold sG
    rw [f.e1 (hn 32 (by omega)), f.e1 (hn 33 (by omega)), f.e1 (hn 34 (by omega)), f.e1 (hn 35 (by omega))]
    exact this
  · obtain ⟨G, g1, g2, g3⟩ := h5 i hi
    exact ⟨G, g1, by rw [f.e2 (hn 36 (by omega)), g2], g3⟩
theorem CB.m2 {R : tR} {p : Int} {t st : Nat} {M M' : gM} (h : CB R p t st M) (f : Fr [0, 1, 2] M M') : CB R p t st M' := h.mx f (fun k hk => by
  have ht := h.1.2.2.1
  have hk2 : k ≤ 2 := by
    simp only [List.mem_cons, List.not_mem_nil, or_false] at hk
    omega
  omega)
section
variable {S : eT'} {t st mt : Nat} {M N : gM}
def bmP (S : eT') (i : Nat) : Prop := sfR (eR S) (eP S) 0 (eWs S i).toNat ∧ ¬ gdP (eR S) (eP S) (sfR (eR S) (eP S) 0) 0 (eWs S i).toNat (eWa S i).toNat
noncomputable def aBm (S : eT') : Int := @ite _ (eWc S < 0) (Classical.propDecidable _) (-1) (leA (bmP S) (eWc S).toNat (-2))
theorem k_blame_21 (hc : 0 ≤ eWc S) : ∀ (n k : Nat) (M : gM), CI S t st mt M → keO (eR S) (eP S) M → (k : Int) ≤ eWc S → eWc S < n + k → (∀ j, j < k → ¬ bmP S j) → wp (f_X9_blame_21 n (i3 (k : Int)) M) (fun r N => r = i3 (aBm S) ∧ CI S t st mt N) := by
  intro n
  induction n with
  | zero => intro k M h hk h1 h2; omega
  | succ n ih =>
    intro k M h hk h1 h2 h3
    have hw2 := h.1.1.2.2.2.2.1.2.1
    rw [f_X9_blame_21, h.2.2.2.2.1.1]
    simp (disch := omega) only [i3_le]
    refine wp_if (fun h4 => ?_) (fun h4 => ?_)
    · rw [wp_some]
      unfold aBm
      rw [if_neg (by omega), leA_d (fun j hj => h3 j (by omega))]
      exact ⟨rfl, h⟩
    · obtain ⟨q, a, e1, e2, e3, e4, e5, -⟩ := h.1.1.2.2.2.2.1.2.2.1 k (by omega)
      have hq := st_lt e2
      have nx : ∀ (N : gM), CI S t st mt N → keO (eR S) (eP S) N → ¬ bmP S k → wp (f_X9_blame_21 n (i3 (k : Int) + 1) N) (fun r N => r = i3 (aBm S) ∧ CI S t st mt N) := by
        intro N hN hkN hb
        rw [i3_s1]
        refine ih (k + 1) N hN hkN (by omega) (by omega) (fun j hj => ?_)
        by_cases ej : j = k
        · rw [ej]; exact hb
        · exact h3 j (by omega)
      have ew0 : aWk S k 0 = q := by
        unfold aWk
        rw [if_pos (by omega), if_pos rfl, Int.toNat_natCast, e1]
      have ew1 : aWk S k 1 = a := by
        unfold aWk
        rw [if_pos (by omega), if_neg (by omega), if_pos rfl, Int.toNat_natCast, e4]
      rw [iL0, k_told h (by omega) (by omega), ew0, g_b_some, k_safe hk hq, g_b_some, b_if]
      refine wp_if (fun h5 => ?_) (fun h5 => ?_)
      · rw [iL1, k_told h (by omega) (by omega), ew1, g_b_some]
        refine wp_b _ (k_safeAct hq e5.1 h.1.2.1 hk) (fun r N hN => ?_)
        obtain ⟨rfl, u1, u2⟩ := hN
        have hN := h.kp u1 u2 (by decide)
        have hkN := hk.c (u2.e1 (by decide)) (u2.e1 (by decide))
        rw [b_if]
        refine wp_if (fun h6 => ?_) (fun h6 => ?_)
        · refine nx N hN hkN (fun hb => ?_)
          have := hb.2
          rw [e1, e4, Int.toNat_natCast, Int.toNat_natCast] at this
          exact this h6
        · rw [wp_some]
          unfold aBm
          have hb : bmP S k := by
            unfold bmP
            rw [e1, e4, Int.toNat_natCast, Int.toNat_natCast]
            exact ⟨h5, h6⟩
          rw [if_neg (by omega), leA_e (by omega) hb h3]
          exact ⟨rfl, hN⟩
      · refine nx M h hk (fun hb => ?_)
        have := hb.1
        rw [e1, Int.toNat_natCast] at this
        exact h5 this
theorem K_blame (h : CI S t st mt M) : wp (f_X9_blame M) (fun r N => r = i3 (aBm S) ∧ CI S t st mt N) := by
  have hw1 := h.1.1.2.2.2.2.1.1
  have hw2 := h.1.1.2.2.2.2.1.2.1
  rw [f_X9_blame, h.2.2.2.2.1.1]
  simp (disch := omega) only [iL0, i3_le]
  refine wp_if (fun h1 => ?_) (fun h1 => ?_)
  · refine wp_b _ h.fates (fun _ N hN => ?_)
    exact k_blame_21 h1 FU 0 N hN.1 hN.2 (by omega) (by rw [FU_s]; omega) (fun j hj => by omega)
  · rw [wp_some]
    unfold aBm
    rw [if_pos (by omega)]
    exact ⟨rfl, h⟩
/-! drills -/
def drP (S : eT') (s : Nat) (sd : Int32) (nn : Nat) (w : Int) (i : Nat) : Prop := deR (eR S) (eP S) (eX S) (sd + i3 (i : Int)) s nn = w
noncomputable def aDr (S : eT') (z : Int) (sd : Int32) (k n w : Int) : Int := @ite _ (stP (eR S) z ∧ (1 ≤ k ∧ k ≤ 100) ∧ (0 ≤ n ∧ n ≤ 60) ∧ 0 ≤ w ∧ w ≤ 1) (Classical.propDecidable _) ((cN (drP S z.toNat sd n.toNat w) k.toNat : Nat) : Int) (-1)
theorem k_drill_53 {s nn kk : Nat} {sd : Int32} {w : Int} (hs : stP (eR S) s) (hn : nn ≤ 60) (hk : kk ≤ 100) (hw : w = 0 ∨ w = 1) : ∀ (n i : Nat) (M : gM), CI S t st mt M → i ≤ kk → kk < n + i → wp (f_X9_drill_53 n (i3 (s : Int)) sd (i3 (kk : Int)) (i3 (nn : Int)) (i3 w) (i3 ((cN (drP S s sd nn w) i : Nat) : Int)) (i3 (i : Int)) M) (fun r N => r = i3 ((cN (drP S s sd nn w) kk : Nat) : Int) ∧ CI S t st mt N) := by
  intro n
  induction n with
  | zero => intro i M h h1 h2; omega
  | succ n ih =>
    intro i M h h1 h2
    rw [f_X9_drill_53]
    simp (disch := omega) only [i3_le]
    by_cases e : i = kk
    · subst e
      rw [if_pos (by omega), wp_some]
      exact ⟨rfl, h⟩
    · rw [if_neg (by omega)]
      refine wp_b _ (k_drill h.1.2.1 h.2.2.1.1.1 h.2.2.1.1.2.2.2 hs hn) (fun r N hN => ?_)
      obtain ⟨rfl, u1, u2⟩ := hN
      have hN := h.kp u1 u2 (by decide)
      have hyes : drP S s sd nn w i → wp (f_X9_drill_53 n (i3 (s : Int)) sd (i3 (kk : Int)) (i3 (nn : Int)) (i3 w) (i3 ((cN (drP S s sd nn w) i : Nat) : Int) + 1) (i3 (i : Int) + 1) N) (fun r N => r = i3 ((cN (drP S s sd nn w) kk : Nat) : Int) ∧ CI S t st mt N) := by
        intro hp
        have := ih (i + 1) N hN (by omega) (by omega)
        rw [cN_t hp] at this
        rw [i3_s1, i3_s1]
        exact this
      have hno : ¬ drP S s sd nn w i → wp (f_X9_drill_53 n (i3 (s : Int)) sd (i3 (kk : Int)) (i3 (nn : Int)) (i3 w) (i3 ((cN (drP S s sd nn w) i : Nat) : Int)) (i3 (i : Int) + 1) N) (fun r N => r = i3 ((cN (drP S s sd nn w) kk : Nat) : Int) ∧ CI S t st mt N) := by
        intro hp
        have := ih (i + 1) N hN (by omega) (by omega)
        rw [cN_f hp] at this
        rw [i3_s1]
        exact this
      unfold drP deR at hyes hno
      have hx := dl_x h.1.1.1 (p := eP S) (X := eX S) (sd := sd + i3 (i : Int)) hs nn
      rcases hw with rfl | rfl
      · rw [if_pos (show i3 0 = 0 from rfl), show ((-2) : Int32) = i3 (-2) from rfl]
        rcases hx with ex | ⟨q, ex, hq⟩
        · rw [if_pos (by rw [ex])]
          exact hyes (by rw [if_pos ex])
        · have hq2 := st_lt hq
          rw [if_neg (by rw [ex, i3_eq (by omega) (by omega) (by omega) (by omega)]; omega)]
          refine hno (fun g => ?_)
          rw [if_neg (by omega)] at g
          split at g <;> omega
      · rw [if_neg (show ¬ i3 1 = 0 by decide), iL0]
        rcases hx with ex | ⟨q, ex, hq⟩
        · rw [if_pos (by rw [ex]; decide)]
          exact hno (by rw [if_pos ex]; omega)
        · have hq2 := st_lt hq
          rw [ex, if_neg (by rw [i3_lt (by omega) (by omega) (by omega) (by omega)]; omega), hN.or, k_over hN.1.2.1 hq2, g_b_some, b_if]
          rw [ex, if_neg (show ¬ (q : Int) = -2 by omega), Int.toNat_natCast] at hyes hno
          refine wp_if (fun h5 => ?_) (fun h5 => ?_)
          · exact hyes (by rw [if_pos h5])
          · exact hno (by rw [if_neg h5]; omega)
theorem K_drill (h : CI S t st mt M) {z k n w : Int} {sd : Int32} (hz : -2147483648 ≤ z ∧ z < 2147483648) (hk : -2147483648 ≤ k ∧ k < 2147483648) (hn : -2147483648 ≤ n ∧ n < 2147483648) (hw : -2147483648 ≤ w ∧ w < 2147483648) : wp (f_X9_drill (i3 z) sd (i3 k) (i3 n) (i3 w) M) (fun r N => r = i3 (aDr S z sd k n w) ∧ CI S t st mt N) := by
  rw [f_X9_drill, h.or, h.has hz, g_b_some, b_if]
  unfold aDr
  refine wp_if (fun hx => ?_) (fun hx => ?_)
  · obtain ⟨s, e, hs⟩ := st_n hx
    subst e
    simp (disch := omega) only [iL0, iL1, iL60, iL100, i3_lt, i3_le]
    refine wp_if (fun h1 => ?_) (fun h1 => ?_)
    · rw [wp_some, if_neg (fun g => absurd g.2.1.1 (by omega))]
      exact ⟨rfl, h⟩
    refine wp_if (fun h2 => ?_) (fun h2 => ?_)
    · rw [wp_some, if_neg (fun g => absurd g.2.1.2 (by omega))]
      exact ⟨rfl, h⟩
    refine wp_if (fun h3 => ?_) (fun h3 => ?_)
    · rw [wp_some, if_neg (fun g => absurd g.2.2.1.1 (by omega))]
      exact ⟨rfl, h⟩
    refine wp_if (fun h4 => ?_) (fun h4 => ?_)
    · rw [wp_some, if_neg (fun g => absurd g.2.2.1.2 (by omega))]
      exact ⟨rfl, h⟩
    refine wp_if (fun h5 => ?_) (fun h5 => ?_)
    · rw [wp_some, if_neg (fun g => absurd g.2.2.2.1 (by omega))]
      exact ⟨rfl, h⟩
    refine wp_if (fun h6 => ?_) (fun h6 => ?_)
    · rw [if_pos ⟨hx, ⟨by omega, by omega⟩, ⟨by omega, by omega⟩, by omega, by omega⟩, Int.toNat_natCast]
      obtain ⟨kk, rfl⟩ : ∃ b : Nat, k = b := ⟨k.toNat, by omega⟩
      obtain ⟨nn, rfl⟩ : ∃ b : Nat, n = b := ⟨n.toNat, by omega⟩
      rw [Int.toNat_natCast, Int.toNat_natCast]
      exact k_drill_53 hx (by omega) (by omega) (by omega) FU 0 M h (by omega) (by rw [FU_s]; omega)
    · rw [wp_some, if_neg (fun g => absurd g.2.2.2.2 (by omega))]
      exact ⟨rfl, h⟩
  · rw [wp_some, if_neg (fun g => hx g.1)]
    exact ⟨rfl, h⟩
/-! slots -/
def uHo (S : eT') (j : Nat) : eT' := (S.1, S.2.1, S.2.2.1, S.2.2.2.1, (fun j' s => (j' = j ∧ sfR (eR S) (eP S) 0 s) ∨ (j' ≠ j ∧ eSl S j' s)), S.2.2.2.2.2)
def uHz (S : eT') (z : Int) : eT' := if 0 ≤ z ∧ z < 3 then uHo S z.toNat else S
noncomputable def aHo (S : eT') (z : Int) : Int := if 0 ≤ z ∧ z < 3 then ((cN (sfR (eR S) (eP S) 0) 2079 : Nat) : Int) else -1
theorem ok_Ho (h : sOk S) {j : Nat} : sOk (uHo S j) := by
  obtain ⟨o1, o2, o3, o4, o5, o6, o7, o8⟩ := h
  refine ⟨o1, o2, o3, o4, o5, fun j' s hs => ?_, o7, o8⟩
  rcases hs with ⟨-, hs⟩ | ⟨-, hs⟩
  · exact st_lt (sf_st hs)
  · exact o6 j' s hs
theorem K_hold (h : CI S t st mt M) {z : Int} (hz : -2147483648 ≤ z ∧ z < 2147483648) : wp (f_X9_hold (i3 z) M) (fun r N => r = i3 (aHo S z) ∧ CI (uHz S z) t st mt N) := by
  rw [f_X9_hold]
  unfold aHo uHz
  simp (disch := omega) only [iL0, iL3, i3_lt]
  refine wp_if (fun h1 => ?_) (fun h1 => ?_)
  · rw [wp_some, if_neg (by omega), if_neg (by omega)]
    exact ⟨rfl, h⟩
  refine wp_if (fun h2 => ?_) (fun h2 => ?_)
  · rw [if_pos (by omega), if_pos (by omega)]
    obtain ⟨j, rfl⟩ : ∃ b : Nat, z = b := ⟨z.toNat, by omega⟩
    rw [Int.toNat_natCast]
    refine wp_b _ h.fates (fun _ M1 hM1 => ?_)
    obtain ⟨hM1, hk⟩ := hM1
    refine wp_lp (F := fun n (x : Nat) (_ : Unit) M => f_X9_hold_22 n (i3 (j : Int)) (i3 ((cN (sfR (eR S) (eP S) 0) x : Nat) : Int)) (i3 (x : Int)) M) (fun x _ N => Fr [2] M1 N ∧ ∀ s : Nat, s < 2079 → ∀ j' : Nat, j' < 3 → bt (N.1 2 s) j' = b_ (if s < x then eSl (uHo S j) j' s else eSl S j' s)) 2079 ?_ ?_ FU 0 () M1 (by omega) (by rw [FU_s]; omega) ⟨Fr.rf, fun s hs j' hj' => by rw [hM1.2.2.2.2.2.1 s hs j' hj', if_neg (by omega)]⟩
    · intro n x c N hx hI hn
      obtain ⟨f, hI⟩ := hI
      show wp (f_X9_hold_22 (n + 1) (i3 (j : Int)) (i3 ((cN (sfR (eR S) (eP S) 0) x : Nat) : Int)) (i3 (x : Int)) N) _
      have hkN := hk.c (f.e1 (by decide)) (f.e1 (by decide))
      rw [f_X9_hold_22, iL2079]
      simp (disch := omega) only [i3_le]
      rw [if_neg (by omega), k_safe hkN hx, g_b_some, b_if]
      have key : ∀ v : Bool, v = b_ (sfR (eR S) (eP S) 0 x) → wp (f_X9_hold_45 (f_X9_hold_22 n) (i3 (j : Int)) (i3 ((cN (sfR (eR S) (eP S) 0) x : Nat) : Int)) (i3 (x : Int)) (b2i v) N) (fun r N => r = i3 ((cN (sfR (eR S) (eP S) 0) 2079 : Nat) : Int) ∧ CI (uHo S j) t st mt N) := by
        intro v hv
        rw [f_X9_hold_45, ck_ok (by omega) (by omega) (by omega), ck_ok (by omega) (by omega) (by omega), tn_n (by omega), wp_m, wp_v, i3_s1]
        have ec : i3 ((cN (sfR (eR S) (eP S) 0) x : Nat) : Int) + b2i v = i3 ((cN (sfR (eR S) (eP S) 0) (x + 1) : Nat) : Int) := by
          by_cases hs : sfR (eR S) (eP S) 0 x
          · rw [hv, b_t hs, cN_t hs, show b2i true = i3 1 from rfl, i3_add]
            rfl
          · rw [hv, b_f hs, cN_f hs, show b2i false = i3 0 from rfl, i3_add, Int.add_zero]
        rw [ec]
        refine hn () _ ⟨f.i (by decide), fun s hs j' hj' => ?_⟩
        rw [rI_e]
        by_cases es : s = x
        · subst es
          rw [up_e, bt_set (by omega) (by omega), if_pos (show s < s + 1 by omega)]
          by_cases ej : j' = j
          · rw [if_pos ej, hv]
            refine b_e ⟨fun g => Or.inl ⟨ej, g⟩, fun g => ?_⟩
            rcases g with ⟨-, g⟩ | ⟨g, -⟩
            · exact g
            · exact absurd ej g
          · rw [if_neg ej, hI s hs j' hj', if_neg (by omega)]
            refine b_e ⟨fun g => Or.inr ⟨ej, g⟩, fun g => ?_⟩
            rcases g with ⟨g, -⟩ | ⟨-, g⟩
            · exact absurd g ej
            · exact g
        · rw [up_n es, hI s hs j' hj']
          by_cases h3 : s < x
          · rw [if_pos h3, if_pos (by omega)]
          · rw [if_neg h3, if_neg (by omega)]
      refine wp_if (fun h5 => ?_) (fun h5 => ?_)
      · exact key true (b_t h5).symm
      · exact key false (b_f h5).symm
    · intro n c N hI
      obtain ⟨f, hI⟩ := hI
      show wp (f_X9_hold_22 (n + 1) (i3 (j : Int)) (i3 ((cN (sfR (eR S) (eP S) 0) 2079 : Nat) : Int)) (i3 ((2079 : Nat) : Int)) N) _
      rw [f_X9_hold_22, iL2079]
      simp (disch := omega) only [i3_le]
      rw [if_pos (by omega), wp_some]
      obtain ⟨⟨a1, a2, a3, a4, a5⟩, q2, q3, q4, ⟨w1, w2, w3, w4⟩⟩ := id hM1
      refine ⟨rfl, ⟨ok_Ho a1, a2.m2 (f.up (by decide)), by rw [f.e3 (by decide), a3], by rw [f.e3 (by decide), a4], by rw [f.e1 (by decide)]; exact a5⟩, g2_f q2 f (by decide), g3_f q3 f (by decide), g4_f q4 f (by decide), ⟨w1.c (f.e1 (by decide)) (f.e1 (by decide)) (f.e1 (by decide)) (f.e1 (by decide)), fun s hs j' hj' => ?_, w3.c (by rw [f.e1 (by decide)]) (f.e1 (by decide)), by rw [f.e1 (by decide)]; exact w4⟩⟩
      rw [hI s hs j' hj', if_pos hs]
  · rw [wp_some, if_neg (by omega), if_neg (by omega)]
    exact ⟨rfl, h⟩
end
