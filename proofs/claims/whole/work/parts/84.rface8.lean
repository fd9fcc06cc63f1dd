/-! ===== the reference: compare ===== -/
section
variable {S : eT'} {h : Nat} {M N : gM}
theorem R_cmp_29 {j : Nat} (hj : j < 3) {w : Int} (hw : 0 ≤ w ∧ w ≤ 2) (H : L2 S h M) : ∀ (n k : Nat), k ≤ 2079 → 2079 < n + k → f_X10_compare_29 n (i3 (j : Int)) (i3 w) (i3 ((cN (cmP S j w) k : Nat) : Int)) (i3 (k : Int)) M = some (i3 ((cN (cmP S j w) 2079 : Nat) : Int), M) := by
  obtain ⟨HD, g1, g2, g3⟩ := H
  intro n
  induction n with
  | zero => intro k h1 h2; omega
  | succ n ih =>
    intro k h1 h2
    by_cases e : k = 2079
    · subst e
      rw [f_X10_compare_29, if_pos (by decide)]
    · have hs := HD.2.2.2.2.2.2.1 j hj k (by omega)
      have this := ih (k + 1) (by omega) (by omega)
      have yes : cmP S j w k → f_X10_compare_29 n (i3 (j : Int)) (i3 w) (i3 ((cN (cmP S j w) k : Nat) : Int) + 1) (i3 (k : Int) + 1) M = some (i3 ((cN (cmP S j w) 2079 : Nat) : Int), M) := by
        intro hp
        rw [cN_t hp] at this
        rw [i3_s1, i3_s1]
        exact this
      have no : ¬ cmP S j w k → f_X10_compare_29 n (i3 (j : Int)) (i3 w) (i3 ((cN (cmP S j w) k : Nat) : Int)) (i3 (k : Int) + 1) M = some (i3 ((cN (cmP S j w) 2079 : Nat) : Int), M) := by
        intro hp
        rw [cN_f hp] at this
        rw [i3_s1]
        exact this
      have key : ∀ v : Bool, v = b_ (sfR (eR S) (eP S) 0 k) → f_X10_compare_60 (f_X10_compare_29 n) (i3 (j : Int)) (i3 w) (i3 ((cN (cmP S j w) k : Nat) : Int)) (i3 (k : Int)) (b2i v) M = some (i3 ((cN (cmP S j w) 2079 : Nat) : Int), M) := by
        intro v hv
        unfold cmP at yes no
        rw [f_X10_compare_60, ix_s, ck_ok (by omega) (by omega) (by omega), tn_n (by omega), hs, g_v, hv]
        by_cases h3 : sfR (eR S) (eP S) 0 k <;> by_cases h4 : eSl S j k
        all_goals
          obtain rfl | rfl | rfl : w = 0 ∨ w = 1 ∨ w = 2 := by omega
        all_goals
          simp only [h3, h4, b_t, b_f, not_false_eq_true] at yes no ⊢
          first
          | exact yes (by decide)
          | exact no (by decide)
      rw [f_X10_compare_29, iL2079, if_neg (by rw [i3_le (by omega) (by omega) (by omega) (by omega)]; omega), d_state HD.1.2 (by omega), g_b_some, b_if]
      by_cases h5 : stP (eR S) (k : Int)
      · rw [if_pos h5, d_safe g2 h5, g_b_some, b_if]
        by_cases h6 : sfR (eR S) (eP S) 0 k
        · rw [if_pos h6]
          exact key true (b_t h6).symm
        · rw [if_neg h6]
          exact key false (b_f h6).symm
      · rw [if_neg h5]
        exact key false (b_f (fun g => h5 (sf_st g))).symm
theorem R_compare (H : DI S h M) {z w : Int} (hz : -2147483648 ≤ z ∧ z < 2147483648) (hw : -2147483648 ≤ w ∧ w < 2147483648) : wp (f_X10_compare (i3 z) (i3 w) M) (fun r N => r = i3 (aCm S z w) ∧ DI S h N) := by
  rw [f_X10_compare]
  unfold aCm
  refine wp_if (fun h1 => ?_) (fun h1 => ?_)
  · rw [iL0, i3_lt (by omega) (by omega) (by omega) (by omega)] at h1
    rw [wp_some, if_neg (by omega)]
    exact ⟨rfl, H⟩
  rw [iL0, i3_lt (by omega) (by omega) (by omega) (by omega)] at h1
  refine wp_if (fun h2 => ?_) (fun h2 => ?_)
  · rw [iL2, i3_lt (by omega) (by omega) (by omega) (by omega)] at h2
    rw [wp_some, if_neg (by omega)]
    exact ⟨rfl, H⟩
  rw [iL2, i3_lt (by omega) (by omega) (by omega) (by omega)] at h2
  refine wp_if (fun h3 => ?_) (fun h3 => ?_)
  · rw [iL0, i3_lt (by omega) (by omega) (by omega) (by omega)] at h3
    rw [wp_some, if_neg (by omega)]
    exact ⟨rfl, H⟩
  rw [iL0, i3_lt (by omega) (by omega) (by omega) (by omega)] at h3
  refine wp_if (fun h4 => ?_) (fun h4 => ?_)
  · rw [iL2, i3_le (by omega) (by omega) (by omega) (by omega)] at h4
    rw [if_pos (by omega)]
    obtain ⟨j, rfl⟩ : ∃ b : Nat, z = b := ⟨z.toNat, by omega⟩
    rw [Int.toNat_natCast]
    refine wp_b _ H.lay (fun _ N hN => ?_)
    have := R_cmp_29 (j := j) (by omega) (w := w) (by omega) hN FU 0 (by omega) (by rw [FU_s]; omega)
    rw [show i3 ((cN (cmP S j w) 0 : Nat) : Int) = 0 from rfl, show i3 ((0 : Nat) : Int) = 0 from rfl] at this
    rw [this, wp_some]
    exact ⟨rfl, hN.1⟩
  · rw [iL2, i3_le (by omega) (by omega) (by omega) (by omega)] at h4
    rw [wp_some, if_neg (by omega)]
    exact ⟨rfl, H⟩
end
