/-! ===== compare, count, feed: the class ===== -/
theorem bt_cond {m : Int32} {a : Nat} (ha : a < 31) : (((m >>> (i3 (a : Int) &&& 31)) &&& (1 : Int32)) = (1 : Int32)) = (bt m a = true) := bt_i ha
theorem i3_c {z c : Int} (hz : -2147483648 ≤ z ∧ z < 2147483648) (hc : -2147483648 ≤ c ∧ c < 2147483648) (e : i3 z = i3 c) : z = c := by rwa [i3_eq hz.1 hz.2 hc.1 hc.2] at e
section
variable {S : eT'} {t st mt : Nat} {M N : gM}
def cmP (S : eT') (j : Nat) (w : Int) (s : Nat) : Prop := (sfR (eR S) (eP S) 0 s ↔ w ≠ 2) ∧ (eSl S j s ↔ w ≠ 1)
noncomputable def aCm (S : eT') (z w : Int) : Int := @ite _ ((0 ≤ z ∧ z < 3) ∧ 0 ≤ w ∧ w ≤ 2) (Classical.propDecidable _) ((cN (cmP S z.toNat w) 2079 : Nat) : Int) (-1)
theorem k_cmp_32 {j : Nat} (hj : j < 3) {w : Int} (hw : 0 ≤ w ∧ w ≤ 2) (h : CI S t st mt M) (hk : keO (eR S) (eP S) M) : ∀ (n k : Nat), k ≤ 2079 → 2079 < n + k → f_X9_compare_32 n (i3 (j : Int)) (i3 w) (i3 ((cN (cmP S j w) k : Nat) : Int)) (i3 (k : Int)) M = some (i3 ((cN (cmP S j w) 2079 : Nat) : Int), M) := by
  intro n
  induction n with
  | zero => intro k h1 h2; omega
  | succ n ih =>
    intro k h1 h2
    rw [f_X9_compare_32, iL2079]
    simp (disch := omega) only [i3_le]
    by_cases e : k = 2079
    · subst e
      rw [if_pos (by omega)]
    · rw [if_neg (by omega), k_safe hk (by omega), g_b_some, g_v, ck_ok (by omega) (by omega) (by omega), tn_n (by omega)]
      have hbt := bt_i (m := M.1 2 k) (a := j) (by omega)
      have hs := h.2.2.2.2.2.1 k (by omega) j hj
      have yes : cmP S j w k → f_X9_compare_32 n (i3 (j : Int)) (i3 w) (i3 ((cN (cmP S j w) k : Nat) : Int) + 1) (i3 (k : Int) + 1) M = some (i3 ((cN (cmP S j w) 2079 : Nat) : Int), M) := by
        intro hp
        have := ih (k + 1) (by omega) (by omega)
        rw [cN_t hp] at this
        rw [i3_s1, i3_s1]
        exact this
      have no : ¬ cmP S j w k → f_X9_compare_32 n (i3 (j : Int)) (i3 w) (i3 ((cN (cmP S j w) k : Nat) : Int)) (i3 (k : Int) + 1) M = some (i3 ((cN (cmP S j w) 2079 : Nat) : Int), M) := by
        intro hp
        have := ih (k + 1) (by omega) (by omega)
        rw [cN_f hp] at this
        rw [i3_s1]
        exact this
      unfold cmP at yes no
      rw [hs] at hbt
      have hif : ∀ {α : Type} (x y : α), (if M.1 2 k >>> (i3 (j : Int) &&& 31) &&& 1 = 1 then x else y) = @ite _ (eSl S j k) (Classical.propDecidable _) x y := by
        intro α x y
        by_cases h4 : eSl S j k
        · rw [if_pos (hbt.mpr (b_t h4)), if_pos h4]
        · rw [if_neg (fun g => absurd (hbt.mp g) (by rw [b_f h4]; decide)), if_neg h4]
      rw [hif]
      by_cases h3 : sfR (eR S) (eP S) 0 k <;> by_cases h4 : eSl S j k
      all_goals
        simp only [f_X9_compare_71, f_X9_compare_85, f_X9_compare_100]
        obtain rfl | rfl | rfl : w = 0 ∨ w = 1 ∨ w = 2 := by omega
      all_goals
        simp only [h3, h4, if_true, if_false, b_t, b_f, not_false_eq_true] at yes no ⊢
        first
        | exact yes (by decide)
        | exact no (by decide)
theorem K_compare (h : CI S t st mt M) {z w : Int} (hz : -2147483648 ≤ z ∧ z < 2147483648) (hw : -2147483648 ≤ w ∧ w < 2147483648) : wp (f_X9_compare (i3 z) (i3 w) M) (fun r N => r = i3 (aCm S z w) ∧ CI S t st mt N) := by
  rw [f_X9_compare]
  unfold aCm
  simp (disch := omega) only [iL0, iL2, iL3, i3_lt, i3_le]
  refine wp_if (fun h1 => ?_) (fun h1 => ?_)
  · rw [wp_some, if_neg (by omega)]
    exact ⟨rfl, h⟩
  refine wp_if (fun h2 => ?_) (fun h2 => ?_)
  · rw [wp_some, if_neg (by omega)]
    exact ⟨rfl, h⟩
  refine wp_if (fun h3 => ?_) (fun h3 => ?_)
  · rw [wp_some, if_neg (by omega)]
    exact ⟨rfl, h⟩
  refine wp_if (fun h4 => ?_) (fun h4 => ?_)
  · rw [if_pos (by omega)]
    obtain ⟨j, rfl⟩ : ∃ b : Nat, z = b := ⟨z.toNat, by omega⟩
    rw [Int.toNat_natCast]
    refine wp_b _ h.fates (fun _ N hN => ?_)
    have := k_cmp_32 (j := j) (by omega) (w := w) (by omega) hN.1 hN.2 FU 0 (by omega) (by rw [FU_s]; omega)
    have e0 : ((cN (cmP S j w) 0 : Nat) : Int) = 0 := rfl
    rw [e0] at this
    rw [show i3 0 = i3 ((0 : Nat) : Int) from rfl] at this ⊢
    rw [this, wp_some]
    exact ⟨rfl, hN.1⟩
  · rw [wp_some, if_neg (by omega)]
    exact ⟨rfl, h⟩
noncomputable def aCn (S : eT') (z : Int) : Int := if z = 0 then rLen (eR S) else if z = 1 then rWid (eR S) else if z = 2 then rFas (eR S) else if z = 3 then rNa (eR S) else if z = 4 then rNg (eR S) else if z = 5 then rNr (eR S) else if z = 6 then eP S else if z = 7 then eF S else if z = 8 then eL S else if z = 9 then eWc S else if z = 10 then eTp S else if z = 11 then (rLen (eR S) + 1) * (2 * rWid (eR S) + 1) * (2 * rFas (eR S) + 1) else if z = 12 then ((cN (sfR (eR S) (eP S) 0) 2079 : Nat) : Int) else if z = 13 then eEn S else -1
theorem K_count (h : CI S t st mt M) {z : Int} (hz : -2147483648 ≤ z ∧ z < 2147483648) : wp (f_X9_count (i3 z) M) (fun r N => r = i3 (aCn S z) ∧ CI S t st mt N) := by
  obtain ⟨r0, r1, r2, r5, r6, r7⟩ := h.1.2.1.1.2.2.2.2.2.1
  rw [f_X9_count]
  unfold aCn
  simp only [h.or]
  refine wp_if (fun e => ?_) (fun e => ?_)
  · rw [if_pos (i3_c hz (c := 0) (by omega) e), wp_some]; exact ⟨r0, h⟩
  rw [if_neg (show ¬ z = 0 from fun g => e (by rw [g]; rfl))]
  refine wp_if (fun e => ?_) (fun e => ?_)
  · rw [if_pos (i3_c hz (c := 1) (by omega) e), wp_some]; exact ⟨r1, h⟩
  rw [if_neg (show ¬ z = 1 from fun g => e (by rw [g]; rfl))]
  refine wp_if (fun e => ?_) (fun e => ?_)
  · rw [if_pos (i3_c hz (c := 2) (by omega) e), wp_some]; exact ⟨r2, h⟩
  rw [if_neg (show ¬ z = 2 from fun g => e (by rw [g]; rfl))]
  refine wp_if (fun e => ?_) (fun e => ?_)
  · rw [if_pos (i3_c hz (c := 3) (by omega) e), wp_some]; exact ⟨r5, h⟩
  rw [if_neg (show ¬ z = 3 from fun g => e (by rw [g]; rfl))]
  refine wp_if (fun e => ?_) (fun e => ?_)
  · rw [if_pos (i3_c hz (c := 4) (by omega) e), wp_some]; exact ⟨r6, h⟩
  rw [if_neg (show ¬ z = 4 from fun g => e (by rw [g]; rfl))]
  refine wp_if (fun e => ?_) (fun e => ?_)
  · rw [if_pos (i3_c hz (c := 5) (by omega) e), wp_some]; exact ⟨r7, h⟩
  rw [if_neg (show ¬ z = 5 from fun g => e (by rw [g]; rfl))]
  refine wp_if (fun e => ?_) (fun e => ?_)
  · rw [if_pos (i3_c hz (c := 6) (by omega) e), wp_some]; exact ⟨h.1.2.2.2.2, h⟩
  rw [if_neg (show ¬ z = 6 from fun g => e (by rw [g]; rfl))]
  refine wp_if (fun e => ?_) (fun e => ?_)
  · rw [if_pos (i3_c hz (c := 7) (by omega) e), wp_some]; exact ⟨h.2.2.2.1.1.2.1, h⟩
  rw [if_neg (show ¬ z = 7 from fun g => e (by rw [g]; rfl))]
  refine wp_if (fun e => ?_) (fun e => ?_)
  · rw [if_pos (i3_c hz (c := 8) (by omega) e), wp_some]; exact ⟨h.2.2.1.1.2.1, h⟩
  rw [if_neg (show ¬ z = 8 from fun g => e (by rw [g]; rfl))]
  refine wp_if (fun e => ?_) (fun e => ?_)
  · rw [if_pos (i3_c hz (c := 9) (by omega) e), wp_some]; exact ⟨h.2.2.2.2.1.1, h⟩
  rw [if_neg (show ¬ z = 9 from fun g => e (by rw [g]; rfl))]
  refine wp_if (fun e => ?_) (fun e => ?_)
  · rw [if_pos (i3_c hz (c := 10) (by omega) e), wp_some]; exact ⟨h.2.2.2.2.2.2.1.1, h⟩
  rw [if_neg (show ¬ z = 10 from fun g => e (by rw [g]; rfl))]
  refine wp_if (fun e => ?_) (fun e => ?_)
  · rw [if_pos (i3_c hz (c := 11) (by omega) e), wp_some, r0, r1, r2]
    simp only [iL1, iL2, i3_add, i3_mul]
    exact ⟨trivial, h⟩
  rw [if_neg (show ¬ z = 11 from fun g => e (by rw [g]; rfl))]
  refine wp_if (fun e => ?_) (fun e => ?_)
  · rw [if_pos (i3_c hz (c := 12) (by omega) e)]
    refine wp_b _ h.fates (fun _ N hN => ?_)
    have := k_among (a := 0) (m := 2079) (by omega) hN.2
    rw [show (0 : Int32) = i3 ((0 : Nat) : Int) from rfl, iL2079, show i3 2079 = i3 ((0 + 2079 : Nat) : Int) from rfl, this, g_b_some, wp_some]
    refine ⟨?_, hN.1⟩
    rw [show (fun i => sfR (eR S) (eP S) 0 (0 + i)) = sfR (eR S) (eP S) 0 from funext (fun i => by rw [Nat.zero_add])]
  rw [if_neg (show ¬ z = 12 from fun g => e (by rw [g]; rfl))]
  refine wp_if (fun e => ?_) (fun e => ?_)
  · rw [if_pos (i3_c hz (c := 13) (by omega) e), k_stands h, g_b_some, wp_some]; exact ⟨rfl, h⟩
  rw [if_neg (show ¬ z = 13 from fun g => e (by rw [g]; rfl)), wp_some]
  exact ⟨rfl, h⟩
/-! feed -/
end
theorem an_255 (x : Int32) : ∃ n : Nat, n < 256 ∧ x &&& 255 = i3 (n : Int) := by
  have h1 : (x &&& 255).toBitVec.toNat ≤ 255 := by
    rw [Int32.toBitVec_and, BitVec.toNat_and]
    exact Nat.and_le_right
  refine ⟨(x &&& 255).toBitVec.toNat, by omega, ?_⟩
  apply Int32.toInt_inj.1
  rw [i3_toInt (by omega) (by omega)]
  show (x &&& 255).toBitVec.toInt = _
  rw [BitVec.toInt_eq_toNat_of_lt (by omega)]
def byW (w : Int32) (k : Nat) : Int32 := (w.toUInt32 >>> ((nI (24 - 8 * k)).toUInt32 &&& Int32.toUInt32 31)).toInt32 &&& 255
noncomputable def byN (w : Int32) (k : Nat) : Nat := Classical.choose (an_255 ((w.toUInt32 >>> ((nI (24 - 8 * k)).toUInt32 &&& Int32.toUInt32 31)).toInt32))
theorem by_e (w : Int32) (k : Nat) : byN w k < 256 ∧ byW w k = i3 (byN w k : Int) := Classical.choose_spec (an_255 _)
/-- the reference's byte -/
theorem by_r (w : Int32) {k : Nat} (hk : k < 4) : (w >>> ((nI (24 - 8 * k)) &&& 31)) &&& 255 = byW w k := by
  unfold byW
  refine b_ext (fun i hi => ?_)
  rw [b_and, b_and, b_255, b_ushr _ (by omega), b_sshr _ (by omega) _ hi]
  by_cases h8 : i < 8
  · rw [if_pos (by omega)]
  · rw [decide_eq_false h8, Bool.and_false, Bool.and_false]
section
variable {S : eT'} {t st mt : Nat} {M N : gM}
noncomputable def uW (S : eT') (w : Int32) : eT' := (S.1, S.2.1, S.2.2.1, S.2.2.2.1, S.2.2.2.2.1, (eTp S + 4, fun i => if i < eTp S then eTb S i else byN w (i - eTp S)), eFp S)
theorem ok_W (h : sOk S) {w : Int32} (hw : eTp S + 4 ≤ 2000) : sOk (uW S w) := by
  obtain ⟨o1, o2, o3, o4, o5, o6, o7, o8⟩ := h
  refine ⟨o1, o2, o3, o4, o5, o6, ⟨hw, fun i hi => ?_⟩, o8⟩
  show (if i < eTp S then eTb S i else byN w (i - eTp S)) < 256
  split
  · exact o7.2 i (by assumption)
  · exact (by_e w _).1
theorem k_word_3 {w : Int32} {n : Nat} (hn : n + 4 ≤ 2000) {M0 : gM} : ∀ (m k : Nat) (M : gM), k ≤ 4 → 4 < m + k → (Fr [0, 1] M0 M ∧ M.2 = M0.2 ∧ (∀ j, j ≠ 1 → M.1 0 j = M0.1 0 j) ∧ M.1 0 1 = i3 ((n + k : Nat) : Int) ∧ ∀ i : Nat, M.1 1 i = if n ≤ i ∧ i < n + k then i3 (byN w (i - n) : Int) else M0.1 1 i) → wp (f_X9_tapeWord_3 m w (i3 (24 - 8 * (k : Int))) M) (fun _ N => Fr [0, 1] M0 N ∧ N.2 = M0.2 ∧ (∀ j, j ≠ 1 → N.1 0 j = M0.1 0 j) ∧ N.1 0 1 = i3 ((n + 4 : Nat) : Int) ∧ ∀ i : Nat, N.1 1 i = if n ≤ i ∧ i < n + 4 then i3 (byN w (i - n) : Int) else M0.1 1 i) := by
  intro m
  induction m with
  | zero => intro k M h1 h2; omega
  | succ m ih =>
    intro k M h1 h2 hI
    obtain ⟨f, g0, g1, g2, g3⟩ := id hI
    rw [f_X9_tapeWord_3, g2]
    simp (disch := omega) only [iL0, iL2000, i3_lt, i3_le]
    by_cases e : k = 4
    · subst e
      rw [if_pos (by omega), wp_some]
      exact hI
    · rw [if_neg (by omega), if_neg (by omega), ck_ok (by omega) (by omega) (by omega), tn_n (by omega), wp_m, wp_m, rI_n (show (0 : Nat) ≠ 1 by decide), g2, i3_s1, show ((-8) : Int32) = i3 (-8) from rfl, i3_add, show 24 - 8 * (k : Int) + -8 = 24 - 8 * ((k + 1 : Nat) : Int) by omega]
      have eb : (w.toUInt32 >>> ((i3 (24 - 8 * (k : Int))).toUInt32 &&& Int32.toUInt32 31)).toInt32 &&& 255 = i3 (byN w k : Int) := by
        rw [show 24 - 8 * (k : Int) = ((24 - 8 * k : Nat) : Int) by omega, ← i3_nI]
        exact (by_e w k).2
      rw [eb]
      refine ih (k + 1) _ (by omega) (by omega) ⟨(f.i (by decide)).i (by decide), g0, fun j hj => ?_, ?_, fun i => ?_⟩
      · rw [rI_e, up_n hj, rI_n (by decide), g1 j hj]
      · rw [rI_e, up_e]
        rfl
      · rw [rI_n (by decide), rI_e]
        by_cases ei : i = n + k
        · rw [ei, up_e, if_pos (by omega), show n + k - n = k by omega]
        · rw [up_n ei, g3 i]
          by_cases h3 : n ≤ i ∧ i < n + k
          · rw [if_pos h3, if_pos (by omega)]
          · rw [if_neg h3, if_neg (by omega)]
theorem K_word (h : CI S t st mt M) {w : Int32} (hw : eTp S + 4 ≤ 2000) : wp (f_X9_tapeWord w M) (fun _ N => CI (uW S w) t st mt N) := by
  rw [f_X9_tapeWord]
  obtain ⟨⟨a1, a2, a3, a4, a5⟩, q2, q3, q4, ⟨w1, w2, w3, w4⟩⟩ := id h
  refine wp_mono (k_word_3 (n := eTp S) hw FU 0 M (by omega) (by rw [FU_s]; omega) ⟨Fr.rf, rfl, fun _ _ => rfl, w3.1, fun i => by rw [if_neg (by omega)]⟩) (fun _ N hN => ?_)
  obtain ⟨f, g0, g1, g2, g3⟩ := hN
  refine ⟨⟨ok_W a1 hw, a2.m2 (f.up (by decide)), by rw [g0, a3], by rw [g0, a4], by rw [g1 3 (by decide)]; exact a5⟩, g2_f q2 f (by decide), g3_f q3 f (by decide), g4_f q4 f (by decide), ⟨w1.c (f.e1 (by decide)) (f.e1 (by decide)) (f.e1 (by decide)) (f.e1 (by decide)), w2.c (f.e1 (by decide)), ⟨g2, fun i hi => ?_⟩, by rw [g1 2 (by decide)]; exact w4⟩⟩
  have hi : i < eTp S + 4 := hi
  rw [g3 i]
  show _ = i3 ((if i < eTp S then eTb S i else byN w (i - eTp S) : Nat) : Int)
  by_cases h3 : i < eTp S
  · rw [if_neg (by omega), if_pos h3, w3.2 i h3]
  · rw [if_pos (by omega), if_neg h3]
noncomputable def uFd (S : eT') (a b c d e : Int32) : eT' := if eTp S + 20 ≤ 2000 then uW (uW (uW (uW (uW S a) b) c) d) e else S
def aFd (S : eT') : Int := if eTp S + 20 ≤ 2000 then (eTp S : Int) + 20 else -1
theorem K_feed (h : CI S t st mt M) {a b c d e : Int32} : wp (f_X9_feed a b c d e M) (fun r N => r = i3 (aFd S) ∧ CI (uFd S a b c d e) t st mt N) := by
  have hT := h.1.1.2.2.2.2.2.2.1.1
  rw [f_X9_feed, h.2.2.2.2.2.2.1.1, iL20, i3_add]
  unfold uFd aFd
  simp (disch := omega) only [iL2000, i3_le]
  refine wp_if (fun h1 => ?_) (fun h1 => ?_)
  · have h1 : eTp S + 20 ≤ 2000 := by omega
    rw [if_pos h1, if_pos h1]
    refine wp_b _ (K_word h (w := a) (by omega)) (fun _ N1 h1' => ?_)
    refine wp_b _ (K_word h1' (w := b) (by show eTp S + 4 + 4 ≤ 2000; omega)) (fun _ N2 h2 => ?_)
    refine wp_b _ (K_word h2 (w := c) (by show eTp S + 4 + 4 + 4 ≤ 2000; omega)) (fun _ N3 h3 => ?_)
    refine wp_b _ (K_word h3 (w := d) (by show eTp S + 4 + 4 + 4 + 4 ≤ 2000; omega)) (fun _ N4 h4 => ?_)
    refine wp_b _ (K_word h4 (w := e) (by show eTp S + 4 + 4 + 4 + 4 + 4 ≤ 2000; omega)) (fun _ N5 h5 => ?_)
    rw [wp_some]
    exact ⟨h5.2.2.2.2.2.2.1.1, h5⟩
  · rw [wp_some, if_neg (by omega), if_neg (by omega)]
    exact ⟨rfl, h⟩
end
