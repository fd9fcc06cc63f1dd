/-! ===== the reference: counts over STATES ===== -/
section
variable {S : eT'} {h : Nat} {M N : gM}
theorem R_drill_54 {R : tR} {p : Int} {X : Nat → Int} {s nn kk : Nat} {sd : Int32} {w : Int} (H : D2 R p h M) (hX : XP R p X) (hr : rfI R X M) (hs : stP R s) (hn : nn ≤ 60) (hk : kk ≤ 100) (hw : w = 0 ∨ w = 1) : ∀ (n i : Nat), i ≤ kk → kk < n + i → f_X10_drill_54 n (i3 (s : Int)) sd (i3 (kk : Int)) (i3 (nn : Int)) (i3 w) (i3 ((cN (fun i : Nat => deR R p X (sd + i3 (i : Int)) s nn = w) i : Nat) : Int)) (i3 (i : Int)) M = some (i3 ((cN (fun i : Nat => deR R p X (sd + i3 (i : Int)) s nn = w) kk : Nat) : Int), M) := by
  intro n
  induction n with
  | zero => intro i h1 h2; omega
  | succ n ih =>
    intro i h1 h2
    have hd : 0 ≤ deR R p X (sd + i3 (i : Int)) s nn ∧ deR R p X (sd + i3 (i : Int)) s nn ≤ 2 := by
      unfold deR
      split
      · omega
      · split <;> omega
    rw [f_X10_drill_54]
    simp (disch := omega) only [i3_le]
    by_cases e : i = kk
    · subst e
      rw [if_pos (by omega)]
    · rw [if_neg (by omega), d_drill H hX hr hs hn, g_b_some]
      have := ih (i + 1) (by omega) (by omega)
      by_cases hp : deR R p X (sd + i3 (i : Int)) s nn = w
      · rw [if_pos (by rw [hp]), g_v, i3_s1, i3_s1]
        rw [cN_t (P := fun i : Nat => deR R p X (sd + i3 (i : Int)) s nn = w) hp] at this
        exact this
      · rw [if_neg (by rw [i3_eq (by omega) (by omega) (by omega) (by omega)]; exact hp), g_v, i3_s1, iL0, i3_add, Int.add_zero]
        rw [cN_f (P := fun i : Nat => deR R p X (sd + i3 (i : Int)) s nn = w) hp] at this
        exact this
theorem R_drill (H : DI S h M) {z k n w : Int} {sd : Int32} (hz : -2147483648 ≤ z ∧ z < 2147483648) (hk : -2147483648 ≤ k ∧ k < 2147483648) (hn : -2147483648 ≤ n ∧ n < 2147483648) (hw : -2147483648 ≤ w ∧ w < 2147483648) : wp (f_X10_drill (i3 z) sd (i3 k) (i3 n) (i3 w) M) (fun r N => r = i3 (aDr S z sd k n w) ∧ DI S h N) := by
  rw [f_X10_drill, H.st hz, g_b_some, b_if]
  unfold aDr
  refine wp_if (fun hx => ?_) (fun hx => ?_)
  · obtain ⟨s, e, hs⟩ := st_n hx
    subst e
    refine wp_if (fun h1 => ?_) (fun h1 => ?_)
    · rw [iL1, i3_lt (by omega) (by omega) (by omega) (by omega)] at h1
      rw [wp_some, if_neg (fun g => absurd g.2.1.1 (by omega))]
      exact ⟨rfl, H⟩
    rw [iL1, i3_lt (by omega) (by omega) (by omega) (by omega)] at h1
    refine wp_if (fun h2 => ?_) (fun h2 => ?_)
    · rw [iL100, i3_lt (by omega) (by omega) (by omega) (by omega)] at h2
      rw [wp_some, if_neg (fun g => absurd g.2.1.2 (by omega))]
      exact ⟨rfl, H⟩
    rw [iL100, i3_lt (by omega) (by omega) (by omega) (by omega)] at h2
    refine wp_if (fun h3 => ?_) (fun h3 => ?_)
    · rw [iL0, i3_lt (by omega) (by omega) (by omega) (by omega)] at h3
      rw [wp_some, if_neg (fun g => absurd g.2.2.1.1 (by omega))]
      exact ⟨rfl, H⟩
    rw [iL0, i3_lt (by omega) (by omega) (by omega) (by omega)] at h3
    refine wp_if (fun h4 => ?_) (fun h4 => ?_)
    · rw [iL60, i3_lt (by omega) (by omega) (by omega) (by omega)] at h4
      rw [wp_some, if_neg (fun g => absurd g.2.2.1.2 (by omega))]
      exact ⟨rfl, H⟩
    rw [iL60, i3_lt (by omega) (by omega) (by omega) (by omega)] at h4
    refine wp_if (fun h5 => ?_) (fun h5 => ?_)
    · rw [iL0, i3_lt (by omega) (by omega) (by omega) (by omega)] at h5
      rw [wp_some, if_neg (fun g => absurd g.2.2.2.1 (by omega))]
      exact ⟨rfl, H⟩
    rw [iL0, i3_lt (by omega) (by omega) (by omega) (by omega)] at h5
    refine wp_if (fun h6 => ?_) (fun h6 => ?_)
    · rw [iL1, i3_le (by omega) (by omega) (by omega) (by omega)] at h6
      rw [if_pos ⟨hx, ⟨by omega, by omega⟩, ⟨by omega, by omega⟩, by omega, by omega⟩, Int.toNat_natCast]
      obtain ⟨kk, rfl⟩ : ∃ b : Nat, k = b := ⟨k.toNat, by omega⟩
      obtain ⟨nn, rfl⟩ : ∃ b : Nat, n = b := ⟨n.toNat, by omega⟩
      rw [Int.toNat_natCast, Int.toNat_natCast]
      refine wp_b _ H.all (fun _ N hN => ?_)
      have := R_drill_54 (sd := sd) (kk := kk) (w := w) hN.1.2.1 H.XP hN.2.1 hx (nn := nn) (by omega) (by omega) (by omega) FU 0 (by omega) (by rw [FU_s]; omega)
      have e0 : i3 ((cN (fun i : Nat => deR (eR S) (eP S) (eX S) (sd + i3 (i : Int)) s nn = w) 0 : Nat) : Int) = 0 := rfl
      rw [e0, show i3 ((0 : Nat) : Int) = 0 from rfl] at this
      rw [this, wp_some]
      exact ⟨rfl, hN.1.1⟩
    · rw [iL1, i3_le (by omega) (by omega) (by omega) (by omega)] at h6
      rw [wp_some, if_neg (fun g => absurd g.2.2.2.2 (by omega))]
      exact ⟨rfl, H⟩
  · rw [wp_some, if_neg (fun g => hx g.1)]
    exact ⟨rfl, H⟩
theorem R_safe_31 {R : tR} {p : Int} {a : Nat} (ha : a ≤ 8) (H : B2 R p h M) (hg : gOk R p M) : ∀ (n k : Nat), k ≤ 231 → 231 < n + k → f_X10_safe_31 n (i3 (a : Int)) (i3 ((cN (fun i => sfR R p 0 (231 * a + i)) k : Nat) : Int)) (i3 ((231 * a + k : Nat) : Int)) M = some (i3 ((cN (fun i => sfR R p 0 (231 * a + i)) 231 : Nat) : Int), M) := by
  intro n
  induction n with
  | zero => intro k h1 h2; omega
  | succ n ih =>
    intro k h1 h2
    rw [f_X10_safe_31, iL231, i3_mul, i3_add]
    simp (disch := omega) only [i3_le]
    by_cases e : k = 231
    · subst e
      rw [if_pos (by omega)]
    · rw [if_neg (by omega), d_state H (by omega), g_b_some, b_if, i3_s1 (x := ((231 * a + k : Nat) : Int)), show ((231 * a + k : Nat) : Int) + 1 = ((231 * a + (k + 1) : Nat) : Int) by omega]
      have this := ih (k + 1) (by omega) (by omega)
      have no : ¬ sfR R p 0 (231 * a + k) → f_X10_safe_31 n (i3 (a : Int)) (i3 ((cN (fun i => sfR R p 0 (231 * a + i)) k : Nat) : Int) + 0) (i3 ((231 * a + (k + 1) : Nat) : Int)) M = some (i3 ((cN (fun i => sfR R p 0 (231 * a + i)) 231 : Nat) : Int), M) := by
        intro hs
        rw [cN_f (P := fun i => sfR R p 0 (231 * a + i)) hs] at this
        rw [iL0, i3_add, Int.add_zero]
        exact this
      by_cases hx : stP R ((231 * a + k : Nat) : Int)
      · rw [if_pos hx, d_safe hg hx, g_b_some, b_if]
        by_cases hs : sfR R p 0 (231 * a + k)
        · rw [if_pos hs, g_v, i3_s1]
          rw [cN_t (P := fun i => sfR R p 0 (231 * a + i)) hs] at this
          exact this
        · rw [if_neg hs, g_v]
          exact no hs
      · rw [if_neg hx, g_v]
        exact no (fun g => hx (sf_st g))
theorem R_safe (H : DI S h M) {z : Int} (hz : -2147483648 ≤ z ∧ z < 2147483648) : wp (f_X10_safe (i3 z) M) (fun r N => r = i3 (aSf S z) ∧ DI S h N) := by
  obtain ⟨⟨a1, a2⟩, -⟩ := id H
  have hl := a1.1.1
  rw [f_X10_safe, a2.2.2.2.1, ck_ok (by have := a2.2.2.1; omega) (by have := a2.2.2.1; omega) (by omega), tn_n (by have := a2.2.2.1; omega), a2.2.2.2.2.2.1.1]
  unfold aSf
  simp (disch := omega) only [i3_le]
  refine wp_if (fun h1 => ?_) (fun h1 => ?_)
  · rw [iL0, i3_lt (by omega) (by omega) (by omega) (by omega)] at h1
    rw [wp_some, if_neg (by omega)]
    exact ⟨rfl, H⟩
  rw [iL0, i3_lt (by omega) (by omega) (by omega) (by omega)] at h1
  refine wp_if (fun h2 => ?_) (fun h2 => ?_)
  · rw [if_pos ⟨by omega, h2⟩]
    obtain ⟨a, rfl⟩ : ∃ b : Nat, z = b := ⟨z.toNat, by omega⟩
    rw [Int.toNat_natCast]
    refine wp_b _ H.lay (fun _ N hN => ?_)
    have := R_safe_31 (a := a) (by omega) hN.2.1.1 hN.2.2.1 FU 0 (by omega) (by rw [FU_s]; omega)
    rw [wp_v, iL231, i3_mul, show 231 * (a : Int) = ((231 * a + 0 : Nat) : Int) by omega]
    rw [show i3 ((cN (fun i => sfR (eR S) (eP S) 0 (231 * a + i)) 0 : Nat) : Int) = 0 from rfl] at this
    rw [this, wp_some]
    exact ⟨rfl, hN.1⟩
  · rw [wp_some, if_neg (by omega)]
    exact ⟨rfl, H⟩
theorem R_doom_8 {R : tR} {p : Int} (H : B2 R p h M) (hg : gOk R p M) : ∀ (n k : Nat), k ≤ 2079 → 2079 < n + k → f_X10_doom_8 n (i3 (dmR R p k)) (i3 (k : Int)) M = some (i3 (dmR R p 2079), M) := by
  intro n
  induction n with
  | zero => intro k h1 h2; omega
  | succ n ih =>
    intro k h1 h2
    have hd := dm_r (R := R) (p := p) k
    rw [f_X10_doom_8, iL2079]
    by_cases e : k = 2079
    · subst e
      rw [if_pos (by decide)]
    · rw [if_neg (by rw [i3_le (by omega) (by omega) (by omega) (by omega)]; omega), d_state H (by omega), g_b_some, b_if, i3_s1, show (k : Int) + 1 = ((k + 1 : Nat) : Int) by omega]
      have ihk := ih (k + 1) (by omega) (by omega)
      by_cases hx : stP R (k : Int)
      · have hfr := fa_r (p := p) hx
        rw [if_pos hx, d_safe hg hx, g_b_some, b_if]
        by_cases hs : sfR R p 0 k
        · rw [if_pos hs]
          rw [dmR, if_neg (fun g => by
            rcases fa_x (p := p) hx with ⟨-, e2⟩ | ⟨e1, -⟩
            · omega
            · exact e1 hs)] at ihk
          exact ihk
        · rw [if_neg hs, ck_ok (by omega) (by omega) (by omega), tn_n (by omega), hg k (by omega) hx]
          by_cases hl : faR R p k ≤ dmR R p k
          · rw [if_pos (by rw [i3_le (by omega) (by omega) (by omega) (by omega)]; exact hl)]
            rw [dmR, if_neg (fun g => by omega)] at ihk
            exact ihk
          · rw [if_neg (by rw [i3_le (by omega) (by omega) (by omega) (by omega)]; exact hl), ck_ok (by omega) (by omega) (by omega), g_v]
            rw [dmR, if_pos ⟨hx, by omega⟩] at ihk
            exact ihk
      · rw [if_neg hx]
        rw [dmR, if_neg (fun g => hx g.1)] at ihk
        exact ihk
theorem R_doom (H : DI S h M) : wp (f_X10_doom M) (fun r N => r = i3 (aDm S) ∧ DI S h N) := by
  rw [f_X10_doom]
  refine wp_b _ H.lay (fun _ N hN => ?_)
  have := R_doom_8 hN.2.1.1 hN.2.2.1 FU 0 (by omega) (by rw [FU_s]; omega)
  rw [dmR] at this
  rw [show ((-1) : Int32) = i3 (-1) from rfl, show (0 : Int32) = i3 ((0 : Nat) : Int) from rfl, this, wp_some]
  exact ⟨rfl, hN.1⟩
end
