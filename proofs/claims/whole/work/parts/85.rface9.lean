/-! ===== the reference: count ===== -/
theorem cN_no {P : Nat → Prop} : ∀ n, (∀ i, i < n → ¬ P i) → cN P n = 0 := by
  intro n
  induction n with
  | zero => intro _; rfl
  | succ n ih =>
    intro hp
    rw [cN_f (hp n (by omega)), ih (fun i hi => hp i (by omega))]
theorem cN_pr {A B : Nat → Prop} {n : Nat} (hn : 0 < n) : ∀ m, cN (fun s => A (s / n) ∧ B (s % n)) (m * n) = cN A m * cN B n := by
  intro m
  induction m with
  | zero => rw [Nat.zero_mul, cN, cN, Nat.zero_mul]
  | succ m ih =>
    rw [Nat.succ_mul, cN_sum, ih]
    have e : ∀ i, i < n → ((m * n + i) / n = m ∧ (m * n + i) % n = i) := fun i hi => by
      refine ⟨?_, ?_⟩
      · rw [Nat.mul_comm, Nat.mul_add_div hn, Nat.div_eq_of_lt hi, Nat.add_zero]
      · rw [Nat.mul_comm, Nat.mul_add_mod, Nat.mod_eq_of_lt hi]
    by_cases ha : A m
    · rw [cN_t ha, Nat.succ_mul]
      congr 1
      exact cN_c (fun i hi => by rw [(e i hi).1, (e i hi).2]; exact ⟨fun g => g.2, fun g => ⟨ha, g⟩⟩)
    · rw [cN_f ha, cN_no (P := fun i => A ((m * n + i) / n) ∧ B ((m * n + i) % n)) n (fun i hi g => ha ((e i hi).1 ▸ g.1)), Nat.add_zero]
theorem cN_rg {lo hi : Nat} : ∀ n, cN (fun i => lo ≤ i ∧ i ≤ hi) n = min n (hi + 1) - lo := by
  intro n
  induction n with
  | zero => rw [cN]; omega
  | succ n ih =>
    by_cases g : lo ≤ n ∧ n ≤ hi
    · rw [cN_t (P := fun i => lo ≤ i ∧ i ≤ hi) g, ih]; omega
    · rw [cN_f (P := fun i => lo ≤ i ∧ i ≤ hi) g, ih]; omega
theorem cN_st {R : tR} (hR : tOk R) : ((cN (fun s => stP R (s : Int)) 2079 : Nat) : Int) = (rLen R + 1) * (2 * rWid R + 1) * (2 * rFas R + 1) := by
  have hl := hR.1
  obtain ⟨a, ea⟩ : ∃ a : Nat, rLen R = a := ⟨(rLen R).toNat, by omega⟩
  obtain ⟨b, eb⟩ : ∃ a : Nat, rWid R = a := ⟨(rWid R).toNat, by omega⟩
  obtain ⟨c, ec⟩ : ∃ a : Nat, rFas R = a := ⟨(rFas R).toNat, by omega⟩
  have e1 : cN (fun s => stP R (s : Int)) 2079 = cN (fun s => (fun i => 0 ≤ i ∧ i ≤ a) (s / 231) ∧ (fun r => (fun i => 10 - b ≤ i ∧ i ≤ 10 + b) (r / 11) ∧ (fun i => 5 - c ≤ i ∧ i ≤ 5 + c) (r % 11)) (s % 231)) (9 * 231) := by
    refine cN_c (fun s hs => ?_)
    unfold stP inR gAt gLe gSw
    rw [ea, eb, ec]
    simp only [Int.toNat_natCast]
    omega
  have e3 := cN_pr (A := fun i => 0 ≤ i ∧ i ≤ a) (B := fun r => (fun i => 10 - b ≤ i ∧ i ≤ 10 + b) (r / 11) ∧ (fun i => 5 - c ≤ i ∧ i ≤ 5 + c) (r % 11)) (n := 231) (by decide) 9
  rw [e1, e3]
  have e2 : cN (fun r => (fun i => 10 - b ≤ i ∧ i ≤ 10 + b) (r / 11) ∧ (fun i => 5 - c ≤ i ∧ i ≤ 5 + c) (r % 11)) 231 = cN (fun i => 10 - b ≤ i ∧ i ≤ 10 + b) 21 * cN (fun i => 5 - c ≤ i ∧ i ≤ 5 + c) 11 := cN_pr (A := fun i => 10 - b ≤ i ∧ i ≤ 10 + b) (B := fun i => 5 - c ≤ i ∧ i ≤ 5 + c) (n := 11) (by decide) 21
  rw [e2, cN_rg, cN_rg, cN_rg, ea, eb, ec, show min 9 (a + 1) - 0 = a + 1 by omega, show min 21 (10 + b + 1) - (10 - b) = 2 * b + 1 by omega, show min 11 (5 + c + 1) - (5 - c) = 2 * c + 1 by omega, ← Nat.mul_assoc]
  rfl
section
variable {S : eT'} {h : Nat} {M N : gM}
theorem R_sO0 {R : tR} {p : Int} (H : B2 R p h M) : ∀ (n k : Nat), k ≤ 2079 → 2079 < n + k → f_X10_statesOf_4 n false (i3 ((cN (fun s => stP R (s : Int)) k : Nat) : Int)) (i3 (k : Int)) M = some (i3 ((cN (fun s => stP R (s : Int)) 2079 : Nat) : Int), M) := by
  intro n
  induction n with
  | zero => intro k h1 h2; omega
  | succ n ih =>
    intro k h1 h2
    by_cases e : k = 2079
    · subst e
      rw [f_X10_statesOf_4, if_pos (by decide)]
    · have this := ih (k + 1) (by omega) (by omega)
      rw [f_X10_statesOf_4, iL2079, if_neg (by rw [i3_le (by omega) (by omega) (by omega) (by omega)]; omega), d_state H (by omega), g_b_some, b_if, if_neg (show ¬ (false = true) by decide)]
      by_cases h5 : stP R (k : Int)
      · rw [cN_t (P := fun s => stP R (s : Int)) h5] at this
        rw [if_pos h5, g_v, i3_s1, i3_s1]
        exact this
      · rw [cN_f (P := fun s => stP R (s : Int)) h5] at this
        rw [if_neg h5, g_v, iL0, i3_add, Int.add_zero, i3_s1]
        exact this
theorem R_sO1 {R : tR} {p : Int} (H : B2 R p h M) (hg : gOk R p M) : ∀ (n k : Nat), k ≤ 2079 → 2079 < n + k → f_X10_statesOf_4 n true (i3 ((cN (sfR R p 0) k : Nat) : Int)) (i3 (k : Int)) M = some (i3 ((cN (sfR R p 0) 2079 : Nat) : Int), M) := by
  intro n
  induction n with
  | zero => intro k h1 h2; omega
  | succ n ih =>
    intro k h1 h2
    by_cases e : k = 2079
    · subst e
      rw [f_X10_statesOf_4, if_pos (by decide)]
    · have this := ih (k + 1) (by omega) (by omega)
      have no : ¬ sfR R p 0 k → f_X10_statesOf_4 n true (i3 ((cN (sfR R p 0) k : Nat) : Int) + 0) (i3 (k : Int) + 1) M = some (i3 ((cN (sfR R p 0) 2079 : Nat) : Int), M) := by
        intro hs
        rw [cN_f hs] at this
        rw [iL0, i3_add, Int.add_zero, i3_s1]
        exact this
      rw [f_X10_statesOf_4, iL2079, if_neg (by rw [i3_le (by omega) (by omega) (by omega) (by omega)]; omega), d_state H (by omega), g_b_some, b_if, if_pos rfl]
      by_cases h5 : stP R (k : Int)
      · rw [if_pos h5, d_safe hg h5, g_b_some, b_if]
        by_cases h6 : sfR R p 0 k
        · rw [cN_t h6] at this
          rw [if_pos h6, g_v, i3_s1, i3_s1]
          exact this
        · rw [if_neg h6, g_v]
          exact no h6
      · rw [if_neg h5, g_v]
        exact no (fun g => h5 (sf_st g))
theorem R_count (H : DI S h M) {z : Int} (hz : -2147483648 ≤ z ∧ z < 2147483648) : wp (f_X10_count (i3 z) M) (fun r N => r = i3 (aCn S z) ∧ DI S h N) := by
  obtain ⟨⟨a1, a2⟩, b, c, ⟨d1, d2⟩, e5, ⟨w1, w2, w3, w4⟩⟩ := id H
  obtain ⟨hR, hp, hh, h13, h47, ⟨r0, r1, r2, r6, r7⟩, -⟩ := id a2
  have ck : ∀ o : Option (Int32 × gM), g_ck (M.1 0 13) 2 o = o := fun o => by rw [h13]; exact d_ck hh
  have et : tn (M.1 0 13) = h := by rw [h13]; exact tn_n (by omega)
  rw [f_X10_count]
  unfold aCn
  simp only [ck, et]
  refine wp_if (fun e => ?_) (fun e => ?_)
  · rw [if_pos (i3_c hz (c := 0) (by omega) e), wp_some]; exact ⟨r0, H⟩
  rw [if_neg (show ¬ z = 0 from fun g => e (by rw [g]; rfl))]
  refine wp_if (fun e => ?_) (fun e => ?_)
  · rw [if_pos (i3_c hz (c := 1) (by omega) e), wp_some]; exact ⟨r1, H⟩
  rw [if_neg (show ¬ z = 1 from fun g => e (by rw [g]; rfl))]
  refine wp_if (fun e => ?_) (fun e => ?_)
  · rw [if_pos (i3_c hz (c := 2) (by omega) e), wp_some]; exact ⟨r2, H⟩
  rw [if_neg (show ¬ z = 2 from fun g => e (by rw [g]; rfl))]
  refine wp_if (fun e => ?_) (fun e => ?_)
  · rw [if_pos (i3_c hz (c := 3) (by omega) e), d_acts a2, g_b_some, wp_some]; exact ⟨rfl, H⟩
  rw [if_neg (show ¬ z = 3 from fun g => e (by rw [g]; rfl))]
  refine wp_if (fun e => ?_) (fun e => ?_)
  · rw [if_pos (i3_c hz (c := 4) (by omega) e), wp_some]; exact ⟨r6, H⟩
  rw [if_neg (show ¬ z = 4 from fun g => e (by rw [g]; rfl))]
  refine wp_if (fun e => ?_) (fun e => ?_)
  · rw [if_pos (i3_c hz (c := 5) (by omega) e), wp_some]; exact ⟨r7, H⟩
  rw [if_neg (show ¬ z = 5 from fun g => e (by rw [g]; rfl))]
  refine wp_if (fun e => ?_) (fun e => ?_)
  · rw [if_pos (i3_c hz (c := 6) (by omega) e), wp_some]; exact ⟨h47, H⟩
  rw [if_neg (show ¬ z = 6 from fun g => e (by rw [g]; rfl))]
  refine wp_if (fun e => ?_) (fun e => ?_)
  · rw [if_pos (i3_c hz (c := 7) (by omega) e), wp_some]; exact ⟨e5.2.1, H⟩
  rw [if_neg (show ¬ z = 7 from fun g => e (by rw [g]; rfl))]
  refine wp_if (fun e => ?_) (fun e => ?_)
  · rw [if_pos (i3_c hz (c := 8) (by omega) e), wp_some]; exact ⟨d1.2.1, H⟩
  rw [if_neg (show ¬ z = 8 from fun g => e (by rw [g]; rfl))]
  refine wp_if (fun e => ?_) (fun e => ?_)
  · rw [if_pos (i3_c hz (c := 9) (by omega) e)]
    rcases w1.1 with ⟨q1, q2⟩ | ⟨q1, q2, q3⟩
    · have := a1.2.2.2.2.1.1
      rw [if_pos q1, wp_some, show eWc S = -1 by omega]; exact ⟨rfl, H⟩
    · rw [q1, if_neg (by decide), wp_some]; exact ⟨q3, H⟩
  rw [if_neg (show ¬ z = 9 from fun g => e (by rw [g]; rfl))]
  refine wp_if (fun e => ?_) (fun e => ?_)
  · rw [if_pos (i3_c hz (c := 10) (by omega) e), wp_some]; exact ⟨w3.1, H⟩
  rw [if_neg (show ¬ z = 10 from fun g => e (by rw [g]; rfl))]
  refine wp_if (fun e => ?_) (fun e => ?_)
  · rw [if_pos (i3_c hz (c := 11) (by omega) e), f_X10_statesOf]
    have := R_sO0 a2 FU 0 (by omega) (by rw [FU_s]; omega)
    rw [show i3 ((cN (fun s => stP (eR S) (s : Int)) 0 : Nat) : Int) = 0 from rfl, show i3 ((0 : Nat) : Int) = 0 from rfl] at this
    rw [this, g_b_some, wp_some, cN_st hR]
    exact ⟨rfl, H⟩
  rw [if_neg (show ¬ z = 11 from fun g => e (by rw [g]; rfl))]
  refine wp_if (fun e => ?_) (fun e => ?_)
  · rw [if_pos (i3_c hz (c := 12) (by omega) e)]
    refine wp_b _ H.lay (fun _ N hN => ?_)
    have := R_sO1 hN.1.1.2 hN.2.2.1 FU 0 (by omega) (by rw [FU_s]; omega)
    rw [show i3 ((cN (sfR (eR S) (eP S) 0) 0 : Nat) : Int) = 0 from rfl, show i3 ((0 : Nat) : Int) = 0 from rfl] at this
    rw [f_X10_statesOf, this, g_b_some, wp_some]
    exact ⟨rfl, hN.1⟩
  rw [if_neg (show ¬ z = 12 from fun g => e (by rw [g]; rfl))]
  refine wp_if (fun e => ?_) (fun e => ?_)
  · rw [if_pos (i3_c hz (c := 13) (by omega) e)]
    have hw := a1.2.2.2.2.1
    rcases w1.1 with ⟨q1, q2⟩ | ⟨q1, q2, q3⟩
    · rw [if_pos q1, wp_some, eEn, if_pos q2]; exact ⟨rfl, H⟩
    · rw [q1, if_neg (by decide), q3, ck_ok (by omega) (by omega) (by omega), wp_some, eEn, if_neg (by omega), i3_tn (by omega) (by omega), w1.2.1 _ (by omega)]; exact ⟨rfl, H⟩
  rw [if_neg (show ¬ z = 13 from fun g => e (by rw [g]; rfl)), wp_some]
  exact ⟨rfl, H⟩
/-! edge -/
def edI (P : Nat → Prop) (W : Int) (b : Bool) (k : Nat) (x : Int) : Prop := (x = -100 ∧ ∀ j, j < k → ¬ P j) ∨ ∃ j, j < k ∧ x = (j : Int) - W ∧ P j ∧ (b = true → ∀ i, j < i → i < k → ¬ P i) ∧ (b = false → ∀ i, i < j → ¬ P i)
theorem d_num {a l s : Int} : f_X10_numberOf (i3 a) (i3 l) (i3 s) M = some (i3 (nuZ a l s), M) := by
  rw [f_X10_numberOf]
  simp only [iL21, iL10, iL11, iL5, i3_add, i3_mul]
  rfl
theorem R_edge_33 {R : tR} {p a s : Int} {b : Bool} (H : B2 R p h M) (hg : gOk R p M) (hi : inR R a 0 s) : ∀ (n k : Nat) (x : Int), (k : Int) ≤ 2 * rWid R + 1 → 2 * rWid R + 1 < n + k → edI (fun j => sfR R p 0 (nuZ a ((j : Int) - rWid R) s).toNat) (rWid R) b k x → f_X10_edge_33 n (i3 a) (i3 s) b (i3 x) (i3 ((k : Int) - rWid R)) M = some (i3 (edR R p a s b), M) := by
  obtain ⟨hR, hp, hh, h13, h47, ⟨r0, r1, r2, r6, r7⟩, -⟩ := id H
  have hl := hR.1
  have hin : ∀ l : Int, -rWid R ≤ l → l ≤ rWid R → inR R a l s := fun l l1 l2 => ⟨hi.1, hi.2.1, l1, l2, hi.2.2.2.2.1, hi.2.2.2.2.2⟩
  intro n
  induction n with
  | zero => intro k x h1 h2; omega
  | succ n ih =>
    intro k x h1 h2 hI
    rw [f_X10_edge_33, h13, d_ck hh, tn_n (by omega), r1]
    simp (disch := omega) only [i3_lt]
    by_cases e : (k : Int) = 2 * rWid R + 1
    · rw [if_pos (by omega)]
      unfold edR egR
      rcases hI with ⟨rfl, hI⟩ | ⟨j, j1, rfl, j2, j3, j4⟩
      · rw [if_pos]
        refine leA_d (fun j hj => ?_)
        cases b with
        | false => rw [if_neg (by decide)]; exact hI j (by omega)
        | true =>
          rw [if_pos rfl, show rWid R - (j : Int) = ((2 * rWid R - j).toNat : Int) - rWid R by omega]
          exact hI _ (by omega)
      · cases b with
        | false =>
          have e2 : leA (fun j : Nat => sfR R p 0 (nuZ a (if false = true then rWid R - (j : Int) else (j : Int) - rWid R) s).toNat) (2 * rWid R + 1).toNat (-1) = j := leA_e (by omega) (by rw [if_neg (by decide)]; exact j2) (fun i hi => by rw [if_neg (by decide)]; exact j4 rfl i hi)
          rw [e2, if_neg (by omega), if_neg (by decide)]
        | true =>
          have e2 : leA (fun j : Nat => sfR R p 0 (nuZ a (if true = true then rWid R - (j : Int) else (j : Int) - rWid R) s).toNat) (2 * rWid R + 1).toNat (-1) = ((2 * rWid R - j).toNat : Nat) := by
            refine leA_e (by omega) ?_ (fun i hi => ?_)
            · rw [if_pos rfl, show rWid R - ((2 * rWid R - j).toNat : Int) = (j : Int) - rWid R by omega]
              exact j2
            · rw [if_pos rfl, show rWid R - (i : Int) = ((2 * rWid R - i).toNat : Int) - rWid R by omega]
              exact j3 rfl _ (by omega) (by omega)
          rw [e2, if_neg (by omega), if_pos rfl, show rWid R - ((2 * rWid R - j).toNat : Int) = (j : Int) - rWid R by omega]
    · rw [if_neg (by omega), d_num, g_b_some]
      have hn := ng hR (hin ((k : Int) - rWid R) (by omega) (by omega))
      obtain ⟨q, hq⟩ : ∃ q : Nat, nuZ a ((k : Int) - rWid R) s = q := ⟨(nuZ a ((k : Int) - rWid R) s).toNat, by omega⟩
      have hst : stP R (q : Int) := by rw [← hq]; exact ng_st hR (hin _ (by omega) (by omega))
      have hP : sfR R p 0 (nuZ a ((k : Int) - rWid R) s).toNat = sfR R p 0 q := by rw [hq, Int.toNat_natCast]
      rw [hq, d_safe hg hst, g_b_some, b_if, i3_s1, show (k : Int) - rWid R + 1 = ((k + 1 : Nat) : Int) - rWid R by omega]
      by_cases hs : sfR R p 0 q
      · rw [if_pos hs]
        have hs' : sfR R p 0 (nuZ a ((k : Int) - rWid R) s).toNat := by rw [hP]; exact hs
        cases b with
        | true =>
          rw [if_pos rfl]
          exact ih (k + 1) _ (by omega) (by omega) (Or.inr ⟨k, by omega, rfl, hs', fun _ i h1 h2 => by omega, fun g => by cases g⟩)
        | false =>
          rw [if_neg (by decide), show ((-100) : Int32) = i3 (-100) from rfl]
          rcases hI with ⟨rfl, hI⟩ | ⟨j, j1, rfl, j2, j3, j4⟩
          · rw [if_pos rfl]
            exact ih (k + 1) _ (by omega) (by omega) (Or.inr ⟨k, by omega, rfl, hs', fun g => (by cases g), fun _ i h1 => hI i h1⟩)
          · rw [if_neg (by rw [i3_eq (by omega) (by omega) (by omega) (by omega)]; omega)]
            exact ih (k + 1) _ (by omega) (by omega) (Or.inr ⟨j, by omega, rfl, j2, fun g => (by cases g), j4⟩)
      · rw [if_neg hs]
        have hs' : ¬ sfR R p 0 (nuZ a ((k : Int) - rWid R) s).toNat := by rw [hP]; exact hs
        refine ih (k + 1) _ (by omega) (by omega) ?_
        have ext : ∀ i, i < k + 1 → (i < k → ¬ sfR R p 0 (nuZ a ((i : Int) - rWid R) s).toNat) → ¬ sfR R p 0 (nuZ a ((i : Int) - rWid R) s).toNat := fun i h1 h2 => by
          by_cases ei : i = k
          · rw [ei]; exact hs'
          · exact h2 (by omega)
        rcases hI with ⟨rfl, hI⟩ | ⟨j, j1, rfl, j2, j3, j4⟩
        · exact Or.inl ⟨rfl, fun i h1 => ext i h1 (hI i)⟩
        · exact Or.inr ⟨j, by omega, rfl, j2, fun g i h1 h2 => ext i h2 (j3 g i h1), j4⟩
theorem R_edge (H : DI S h M) {a s : Int} {b : Bool} (ha : -2147483648 ≤ a ∧ a < 2147483648) (hs : -2147483648 ≤ s ∧ s < 2147483648) : wp (f_X10_edge (i3 a) (i3 s) b M) (fun r N => r = i3 (aEd S a s b) ∧ DI S h N) := by
  have hl := H.1.1.1.1
  rw [f_X10_edge, iL0, d_place H.1.2 ha (by omega) hs, g_b_some, b_if]
  unfold aEd
  refine wp_if (fun hi => ?_) (fun hi => ?_)
  · rw [if_pos hi]
    refine wp_b _ H.lay (fun _ N hN => ?_)
    obtain ⟨hR, hp, hh, h13, h47, ⟨r0, r1, r2, r6, r7⟩, -⟩ := id hN.1.1.2
    rw [h13, d_ck hh, tn_n (by omega), r1, wp_v, i3_neg, show -rWid (eR S) = ((0 : Nat) : Int) - rWid (eR S) by omega, show ((-100) : Int32) = i3 (-100) from rfl, R_edge_33 hN.1.1.2 hN.2.2.1 hi FU 0 (-100) (by omega) (by rw [FU_s]; omega) (Or.inl ⟨rfl, fun j hj => by omega⟩), wp_some]
    exact ⟨rfl, hN.1⟩
  · rw [if_neg hi, wp_some]
    exact ⟨rfl, H⟩
end
