/-! ===== calls that count ===== -/
theorem i3_s1 {x : Int} : i3 x + 1 = i3 (x + 1) := by rw [iL1, i3_add]
theorem k_among_5 {R : tR} {p : Int} {a m : Nat} (hm : a + m ≤ 2079) {M : gM} (hk : keO R p M) : ∀ (n k : Nat), k ≤ m → m < n + k → f_X5_safeAmong_5 n (i3 ((a + m : Nat) : Int)) (i3 ((cN (fun i => sfR R p 0 (a + i)) k : Nat) : Int)) (i3 ((a + k : Nat) : Int)) M = some (i3 ((cN (fun i => sfR R p 0 (a + i)) m : Nat) : Int), M) := by
  intro n
  induction n with
  | zero => intro k h1 h2; omega
  | succ n ih =>
    intro k h1 h2
    rw [f_X5_safeAmong_5]
    simp (disch := omega) only [i3_le]
    by_cases e : k = m
    · subst e
      rw [if_pos (by omega)]
    · rw [if_neg (by omega), k_safe hk (by omega), g_b_some, b_if]
      rw [i3_s1 (x := ((a + k : Nat) : Int)), show ((a + k : Nat) : Int) + 1 = ((a + (k + 1) : Nat) : Int) by omega]
      by_cases hs : sfR R p 0 (a + k)
      · rw [if_pos hs]
        show f_X5_safeAmong_5 n _ (i3 _ + i3 1) _ M = _
        rw [i3_add, show ((cN (fun i => sfR R p 0 (a + i)) k : Nat) : Int) + 1 = ((cN (fun i => sfR R p 0 (a + i)) (k + 1) : Nat) : Int) by rw [cN_t (P := fun i => sfR R p 0 (a + i)) hs]; omega]
        exact ih (k + 1) (by omega) (by omega)
      · rw [if_neg hs]
        show f_X5_safeAmong_5 n _ (i3 _ + i3 0) _ M = _
        rw [i3_add, show ((cN (fun i => sfR R p 0 (a + i)) k : Nat) : Int) + 0 = ((cN (fun i => sfR R p 0 (a + i)) (k + 1) : Nat) : Int) by rw [cN_f (P := fun i => sfR R p 0 (a + i)) hs]; omega]
        exact ih (k + 1) (by omega) (by omega)
theorem k_among {R : tR} {p : Int} {a m : Nat} (hm : a + m ≤ 2079) {M : gM} (hk : keO R p M) : f_X5_safeAmong (i3 (a : Int)) (i3 ((a + m : Nat) : Int)) M = some (i3 ((cN (fun i => sfR R p 0 (a + i)) m : Nat) : Int), M) := by
  rw [f_X5_safeAmong]
  exact k_among_5 hm hk FU 0 (by omega) (by rw [FU_s]; omega)
noncomputable def dmR (R : tR) (p : Int) : Nat → Int
  | 0 => -1
  | n + 1 => @ite _ (stP R n ∧ dmR R p n < faR R p n) (Classical.propDecidable _) (faR R p n) (dmR R p n)
theorem fa_r {R : tR} {p : Int} {s : Nat} (h : stP R s) : -2 ≤ faR R p s ∧ faR R p s < 2080 := by
  rcases fa_x (p := p) h with ⟨-, e⟩ | ⟨-, n, h1, e, -⟩ <;> omega
theorem dm_r {R : tR} {p : Int} : ∀ n, -1 ≤ dmR R p n ∧ dmR R p n < 2080 := by
  intro n
  induction n with
  | zero => rw [dmR]; omega
  | succ n ih =>
    rw [dmR]
    split
    · rename_i h
      have := fa_r (p := p) h.1
      omega
    · exact ih
theorem k_doom_4 {R : tR} {p : Int} {M : gM} (hk : keO R p M) : ∀ (n k : Nat), k ≤ 2079 → 2079 < n + k → f_X5_greatestDoom_4 n (i3 (dmR R p k)) (i3 (k : Int)) M = some (i3 (dmR R p 2079), M) := by
  intro n
  induction n with
  | zero => intro k h1 h2; omega
  | succ n ih =>
    intro k h1 h2
    have hd := dm_r (R := R) (p := p) k
    have hr := fc_r (R := R) (p := p) (s := k)
    rw [f_X5_greatestDoom_4]
    simp (disch := omega) only [iL2079, i3_le]
    by_cases e : k = 2079
    · subst e
      rw [if_pos (by omega)]
    · rw [if_neg (by omega), ck_ok (by omega) (by omega) (by omega), tn_n (by omega), (hk k (by omega)).1, i3_s1, show (k : Int) + 1 = ((k + 1 : Nat) : Int) by omega]
      simp (disch := omega) only [iL1048576, i3_eq]
      have ihk := ih (k + 1) (by omega) (by omega)
      by_cases hx : stP R k
      · by_cases hs : sfR R p 0 k
        · rw [if_pos (fc_e.2 hs)]
          rw [dmR, if_neg (fun g => by
            rcases fa_x (p := p) hx with ⟨-, e2⟩ | ⟨e1, -⟩
            · omega
            · exact e1 hs)] at ihk
          exact ihk
        · rw [if_neg (fun e => hs (fc_e.1 e)), ck_ok (by omega) (by omega) (by omega)]
          have ef : fcR R p k = faR R p k := by
            unfold fcR
            rw [if_pos hx, if_neg hs]
          simp (disch := omega) only [i3_le]
          by_cases hl : fcR R p k ≤ dmR R p k
          · rw [if_pos hl]
            rw [dmR, if_neg (fun g => by omega)] at ihk
            exact ihk
          · rw [if_neg hl, ck_ok (by omega) (by omega) (by omega)]
            rw [dmR, if_pos ⟨hx, by omega⟩] at ihk
            rw [ef]
            exact ihk
      · have ef : fcR R p k = -1 := by
          unfold fcR
          rw [if_neg hx]
        rw [ef, if_neg (by omega), ck_ok (by omega) (by omega) (by omega)]
        simp (disch := omega) only [i3_le]
        rw [if_pos (by omega)]
        rw [dmR, if_neg (fun g => hx g.1)] at ihk
        exact ihk
section
variable {S : eT'} {t st mt : Nat} {M N : gM}
noncomputable def aDm (S : eT') : Int := dmR (eR S) (eP S) 2079
theorem K_doom (h : CI S t st mt M) : wp (f_X9_doom M) (fun r N => r = i3 (aDm S) ∧ CI S t st mt N) := by
  rw [f_X9_doom]
  refine wp_b _ h.fates (fun _ N hN => ?_)
  rw [f_X5_greatestDoom]
  have := k_doom_4 hN.2 FU 0 (by omega) (by rw [FU_s]; omega)
  rw [dmR] at this
  rw [show ((-1) : Int32) = i3 (-1) from rfl, show (0 : Int32) = i3 ((0 : Nat) : Int) from rfl, this, g_b_some, wp_some]
  exact ⟨rfl, hN.1⟩
noncomputable def aSf (S : eT') (z : Int) : Int := @ite _ (0 ≤ z ∧ z ≤ rLen (eR S)) (Classical.propDecidable _) ((cN (fun i => sfR (eR S) (eP S) 0 (231 * z.toNat + i)) 231 : Nat) : Int) (-1)
theorem K_safe (h : CI S t st mt M) {z : Int} (hz : -2147483648 ≤ z ∧ z < 2147483648) : wp (f_X9_safe (i3 z) M) (fun r N => r = i3 (aSf S z) ∧ CI S t st mt N) := by
  have hl := h.1.1.1.1
  rw [f_X9_safe, h.or, h.1.2.1.1.2.2.2.2.2.1.1]
  unfold aSf
  simp (disch := omega) only [iL0, i3_lt, i3_le]
  refine wp_if (fun h1 => ?_) (fun h1 => ?_)
  · rw [wp_some, if_neg (by omega)]
    exact ⟨rfl, h⟩
  · refine wp_if (fun h2 => ?_) (fun h2 => ?_)
    · rw [if_pos ⟨by omega, h2⟩]
      obtain ⟨a, rfl⟩ : ∃ b : Nat, z = b := ⟨z.toNat, by omega⟩
      rw [Int.toNat_natCast]
      refine wp_b _ h.fates (fun _ N hN => ?_)
      rw [iL231, i3_s1, i3_mul, i3_mul, show (a : Int) * 231 = ((231 * a : Nat) : Int) by omega, show ((a : Int) + 1) * 231 = ((231 * a + 231 : Nat) : Int) by omega, k_among (by omega) hN.2, g_b_some, wp_some]
      exact ⟨rfl, hN.1⟩
    · rw [wp_some, if_neg (by omega)]
      exact ⟨rfl, h⟩
/-- the edge: the first lean from one side that is safe -/
noncomputable def egR (R : tR) (p : Int) (a s : Int) (b : Bool) (k : Nat) : Int := leA (fun j => sfR R p 0 (nuZ a (if b then rWid R - (j : Int) else (j : Int) - rWid R) s).toNat) k (-1)
noncomputable def edR (R : tR) (p : Int) (a s : Int) (b : Bool) : Int := @ite _ (egR R p a s b (2 * rWid R + 1).toNat = -1) (Classical.propDecidable _) (-100) (if b then rWid R - egR R p a s b (2 * rWid R + 1).toNat else egR R p a s b (2 * rWid R + 1).toNat - rWid R)
noncomputable def aEd (S : eT') (a s : Int) (b : Bool) : Int := @ite _ (inR (eR S) a 0 s) (Classical.propDecidable _) (edR (eR S) (eP S) a s b) (-100)
theorem k_edge_34 (h : CI S t st mt M) (hk : keO (eR S) (eP S) M) {a s : Int} (hi : inR (eR S) a 0 s) {b : Bool} : ∀ (n k : Nat), (k : Int) ≤ 2 * rWid (eR S) + 1 → 2 * rWid (eR S) + 1 < n + k → (∀ j, j < k → ¬ sfR (eR S) (eP S) 0 (nuZ a (if b then rWid (eR S) - (j : Int) else (j : Int) - rWid (eR S)) s).toNat) → f_X9_edge_34 n (i3 a) (i3 s) b (i3 ((k : Int) - rWid (eR S))) M = some (i3 (edR (eR S) (eP S) a s b), M) := by
  have hl := h.1.1.1.1
  intro n
  induction n with
  | zero => intro k h1 h2; omega
  | succ n ih =>
    intro k h1 h2 h3
    rw [f_X9_edge_34, h.or, h.1.2.1.1.2.2.2.2.2.1.2.1]
    simp (disch := omega) only [i3_lt]
    by_cases e : (k : Int) = 2 * rWid (eR S) + 1
    · rw [if_pos (by omega)]
      unfold edR
      have e2 : egR (eR S) (eP S) a s b (2 * rWid (eR S) + 1).toNat = -1 := leA_d (fun j hj => h3 j (by omega))
      rw [if_pos e2]
      rfl
    · rw [if_neg (by omega)]
      have hin : ∀ l : Int, -rWid (eR S) ≤ l → l ≤ rWid (eR S) → inR (eR S) a l s := fun l l1 l2 => ⟨hi.1, hi.2.1, l1, l2, hi.2.2.2.2.1, hi.2.2.2.2.2⟩
      have key : ∀ l : Int, -rWid (eR S) ≤ l → l ≤ rWid (eR S) → l = (if b then rWid (eR S) - (k : Int) else (k : Int) - rWid (eR S)) → f_X9_edge_58 (f_X9_edge_34 n) (i3 a) (i3 s) b (i3 ((k : Int) - rWid (eR S))) (i3 l) M = some (i3 (edR (eR S) (eP S) a s b), M) := by
        intro l l1 l2 l3
        have hn := ng h.1.1.1 (hin l l1 l2)
        have ha := hi.1
        have ha2 := hi.2.1
        have hs1 := hi.2.2.2.2
        rw [f_X9_edge_58, h.or, c_number h.1.1.1 h.1.2.1.1.2.2.2.2.2 (by omega) (by omega) (by omega), if_pos (hin l l1 l2), g_b_some]
        obtain ⟨q, hq⟩ : ∃ q : Nat, nuZ a l s = q := ⟨(nuZ a l s).toNat, by omega⟩
        rw [hq, k_safe hk (by omega), g_b_some, b_if]
        by_cases hsf : sfR (eR S) (eP S) 0 q
        · rw [if_pos hsf]
          have e2 : egR (eR S) (eP S) a s b (2 * rWid (eR S) + 1).toNat = k := leA_e (by omega) (by
            rw [← l3, hq, Int.toNat_natCast]
            exact hsf) h3
          unfold edR
          rw [e2, if_neg (show ¬ (k : Int) = -1 by omega), ← l3]
        · rw [if_neg hsf, i3_s1, show (k : Int) - rWid (eR S) + 1 = ((k + 1 : Nat) : Int) - rWid (eR S) by omega]
          refine ih (k + 1) (by omega) (by omega) (fun j hj => ?_)
          by_cases ej : j = k
          · subst ej
            rw [← l3, hq, Int.toNat_natCast]
            exact hsf
          · exact h3 j (by omega)
      cases b with
      | true =>
        rw [if_pos rfl, i3_neg]
        refine key _ (by omega) (by omega) ?_
        rw [if_pos rfl]
        omega
      | false =>
        rw [if_neg (by decide)]
        refine key _ (by omega) (by omega) ?_
        rw [if_neg (by decide)]
theorem K_edge (h : CI S t st mt M) {a s : Int} {b : Bool} (ha : -2147483648 ≤ a ∧ a < 2147483648) (hs : -2147483648 ≤ s ∧ s < 2147483648) : wp (f_X9_edge (i3 a) (i3 s) b M) (fun r N => r = i3 (aEd S a s b) ∧ CI S t st mt N) := by
  have hl := h.1.1.1.1
  rw [f_X9_edge, h.or, iL0, c_number h.1.1.1 h.1.2.1.1.2.2.2.2.2 ha (by omega) hs, g_b_some]
  unfold aEd
  by_cases hi : inR (eR S) a 0 s
  · have hn := ng h.1.1.1 hi
    rw [if_pos hi, if_pos hi, show ((-1) : Int32) = i3 (-1) from rfl]
    simp (disch := omega) only [i3_eq]
    rw [if_neg (by omega)]
    refine wp_b _ h.fates (fun _ N hN => ?_)
    rw [hN.1.or, hN.1.1.2.1.1.2.2.2.2.2.1.2.1, i3_neg, wp_v, show -rWid (eR S) = ((0 : Nat) : Int) - rWid (eR S) by omega, k_edge_34 hN.1 hN.2 hi FU 0 (by omega) (by rw [FU_s]; omega) (fun j hj => by omega), wp_some]
    exact ⟨rfl, hN.1⟩
  · rw [if_neg hi, if_neg hi, if_pos (by rfl), wp_some]
    exact ⟨rfl, h⟩
end
