/-! ===== the reference: the TOKENS ===== -/
def rsT (k : Nat) : Int := [3, 3, 3, 3, 3, 3, 3, 3, 3, 3, 3, 3, 3, 3, 3, 3, 3, 0, 1, 2, 2, 2, 2, 2, 2, 2, 2, 2, 2, 2, 4, 5].getD k 5
def rwT (k : Nat) : Int := [13, 4, 3, 14, 15, 16, 0, 1, 2, 5, 6, 7, 8, 9, 12, 11, 10, -1, 0, 59, 43, 45, 42, 47, 300, 301, 60, 302, 40, 41, 0, 0].getD k 0
section
variable {tb : Nat → Nat} {n : Nat} {M N : gM}
def TY (tb : Nat → Nat) (n : Nat) (M : gM) : Prop := n ≤ 2000 ∧ (∀ i, i < n → tb i < 256) ∧ M.1 0 1 = i3 n ∧ ∀ i : Nat, i < n → M.1 1 i = i3 (tb i)
theorem TY.mv {S J : List Nat} (h : TY tb n M) (f : Fo S J M N) (hS : 1 ∉ S) (hJ : 1 ∉ J) : TY tb n N := ⟨h.1, h.2.1, by rw [f.e0 hJ, h.2.2.1], fun i hi => by rw [f.e1 (by decide) hS, h.2.2.2 i hi]⟩
def ch2 (tb : Nat → Nat) (n i : Nat) : Int := if i < n then (tb i : Int) else 0
theorem ch2_r (h : ∀ i, i < n → tb i < 256) (i : Nat) : 0 ≤ ch2 tb n i ∧ ch2 tb n i < 256 := by
  unfold ch2
  split
  · next g => have := h i g; omega
  · omega
theorem ch2_e (i : Nat) : (i < n ∧ ch2 tb n i = chT tb n i) ∨ (n ≤ i ∧ ch2 tb n i = 0 ∧ chT tb n i = -1) := by
  unfold ch2 chT
  by_cases h : i < n
  · rw [if_pos h, if_pos h]; exact Or.inl ⟨h, rfl⟩
  · rw [if_neg h, if_neg h]; exact Or.inr ⟨by omega, rfl, rfl⟩
theorem r_byte (h : TY tb n M) {k : Nat} (hk : k < 1000000) : f_X10_byteAt (i3 (k : Int)) M = some (i3 (ch2 tb n k), M) := by
  obtain ⟨h1, h2, h3, h4⟩ := h
  rw [f_X10_byteAt, h3]
  simp (disch := omega) only [i3_le]
  unfold ch2
  by_cases g : k < n
  · rw [if_neg (by omega), ck_ok (by omega) (by omega) (by omega), tn_n (by omega), h4 k g, if_pos g]
  · rw [if_pos (by omega), if_neg g]
    rfl
theorem r_lett (h : TY tb n M) {k : Nat} (hk : k < 1000000) : f_X10_isLetter (i3 (k : Int)) M = some (b_ (ltP (chT tb n k)), M) := by
  have hb := ch2_r h.2.1 k
  rw [f_X10_isLetter, r_byte h hk, g_b_some, r_byte h hk, g_b_some, show (97 : Int32) = i3 97 from rfl, show (122 : Int32) = i3 122 from rfl]
  simp (disch := omega) only [i3_lt]
  unfold ltP
  rcases ch2_e (tb := tb) (n := n) k with ⟨g1, g2⟩ | ⟨g1, g2, g3⟩
  · rw [g2]
    by_cases a : chT tb n k < 97
    · rw [if_pos a, b_f (by omega)]
    · rw [if_neg a]
      by_cases c : 122 < chT tb n k
      · rw [if_pos c, b_f (by omega)]
      · rw [if_neg c, b_t (by omega)]
  · rw [g2, g3, if_pos (by omega), b_f (by omega)]
theorem r_digi (h : TY tb n M) {k : Nat} (hk : k < 1000000) : f_X10_isDigit (i3 (k : Int)) M = some (b_ (dgP (chT tb n k)), M) := by
  have hb := ch2_r h.2.1 k
  rw [f_X10_isDigit, r_byte h hk, g_b_some, r_byte h hk, g_b_some, show (48 : Int32) = i3 48 from rfl, show (57 : Int32) = i3 57 from rfl]
  simp (disch := omega) only [i3_lt]
  unfold dgP
  rcases ch2_e (tb := tb) (n := n) k with ⟨g1, g2⟩ | ⟨g1, g2, g3⟩
  · rw [g2]
    by_cases a : chT tb n k < 48
    · rw [if_pos a, b_f (by omega)]
    · rw [if_neg a]
      by_cases c : 57 < chT tb n k
      · rw [if_pos c, b_f (by omega)]
      · rw [if_neg c, b_t (by omega)]
  · rw [g2, g3, if_pos (by omega), b_f (by omega)]
/-- what is written for a TOKEN -/
def wrT (j : Nat) (so fr wh : Int) (M N : gM) : Prop := Fo [2, 3, 4] [3] M N ∧ N.1 0 3 = i3 ((j + 1 : Nat) : Int) ∧ (∀ q, q ≠ j → N.1 2 q = M.1 2 q ∧ N.1 3 q = M.1 3 q ∧ N.1 4 q = M.1 4 q) ∧ N.1 2 j = i3 so ∧ N.1 3 j = i3 fr ∧ N.1 4 j = i3 wh
theorem r_tok {j : Nat} {so fr wh : Int} (hj : j ≤ 2000) (h3 : M.1 0 3 = i3 (j : Int)) : wp (f_X10_token (i3 so) (i3 fr) (i3 wh) M) (fun _ N => wrT j so fr wh M N) := by
  rw [f_X10_token, h3]
  simp (disch := omega) only [ck_ok, wp_m, tn_n, rI_n (show (0 : Nat) ≠ 2 by decide), rI_n (show (0 : Nat) ≠ 3 by decide), rI_n (show (0 : Nat) ≠ 4 by decide), h3]
  rw [wp_some, i3_s1]
  refine ⟨(((Fo.rf.i (by decide) (by decide)).i (by decide) (by decide)).i (by decide) (by decide)).o (by decide), by rw [rI_e, up_e]; rfl, fun q hq => ⟨?_, ?_, ?_⟩, ?_, ?_, ?_⟩
  · rw [rI_n (by decide), rI_n (by decide), rI_n (by decide), rI_e, up_n hq]
  · rw [rI_n (by decide), rI_n (by decide), rI_e, up_n hq, rI_n (by decide)]
  · rw [rI_n (by decide), rI_e, up_n hq, rI_n (by decide), rI_n (by decide)]
  · rw [rI_n (by decide), rI_n (by decide), rI_n (by decide), rI_e, up_e]
  · rw [rI_n (by decide), rI_n (by decide), rI_e, up_e]
  · rw [rI_n (by decide), rI_e, up_e]
theorem lg_i {v c : Int} (h1 : -9223372036854775808 ≤ v) (h2 : v < 9223372036854775808) (h3 : -9223372036854775808 ≤ c) (h4 : c < 9223372036854775808) : (lg_cmp (i6 v) (i6 c) = 0) = (v = c) := by
  rw [propext (lg_cmp_eq _ _), i6_eq h1 h2 h3 h4]
theorem kw_19 (v : Int) : kwV v < 18 := by have := kw_r v; omega
theorem r_wordOf {v : Int} (hv : 0 ≤ v ∧ v < 9223372036854775808) : f_X10_wordOf (i6 v) M = some (i3 (rwT (kwV v)), M) := by
  have key : ∀ w : Nat, w < 17 → v = vwT w → ∀ z : Int, rwT w = z → some (i3 z, M) = some (i3 (rwT (kwV v)), M) := fun w h1 h2 z hz => by rw [kw_e h1 h2, hz]
  rw [f_X10_wordOf, show (365666 : Int64) = i6 365666 from rfl, show (459383 : Int64) = i6 459383 from rfl, show (119360 : Int64) = i6 119360 from rfl, show (10557034 : Int64) = i6 10557034 from rfl, show (239882 : Int64) = i6 239882 from rfl, show (830 : Int64) = i6 830 from rfl, show (4147840 : Int64) = i6 4147840 from rfl, show (261064536 : Int64) = i6 261064536 from rfl, show (249 : Int64) = i6 249 from rfl, show (123 : Int64) = i6 123 from rfl, show (10631 : Int64) = i6 10631 from rfl, show (1111 : Int64) = i6 1111 from rfl, show (423 : Int64) = i6 423 from rfl, show (47 : Int64) = i6 47 from rfl, show (330758 : Int64) = i6 330758 from rfl, show (153623 : Int64) = i6 153623 from rfl, show (326192 : Int64) = i6 326192 from rfl]
  have ne : ∀ c : Int, 0 ≤ c → c < 4611686018427387904 → v ≠ c → ¬ lg_cmp (i6 v) (i6 c) = 0 := fun c c1 c2 c3 g => c3 (by rwa [lg_i (by omega) (by omega) (by omega) (by omega)] at g)
  have eq : ∀ c : Int, v = c → lg_cmp (i6 v) (i6 c) = 0 := fun c c3 => (lg_cmp_eq _ _).2 (by rw [c3])
  by_cases a0 : v = 365666
  · rw [if_pos (eq _ a0)]; exact key 6 (by decide) a0 0 rfl
  rw [if_neg (ne _ (by decide) (by decide) a0)]
  by_cases a1 : v = 459383
  · rw [if_pos (eq _ a1)]; exact key 7 (by decide) a1 1 rfl
  rw [if_neg (ne _ (by decide) (by decide) a1)]
  by_cases a2 : v = 119360
  · rw [if_pos (eq _ a2)]; exact key 8 (by decide) a2 2 rfl
  rw [if_neg (ne _ (by decide) (by decide) a2)]
  by_cases a3 : v = 10557034
  · rw [if_pos (eq _ a3)]; exact key 2 (by decide) a3 3 rfl
  rw [if_neg (ne _ (by decide) (by decide) a3)]
  by_cases a4 : v = 239882
  · rw [if_pos (eq _ a4)]; exact key 1 (by decide) a4 4 rfl
  rw [if_neg (ne _ (by decide) (by decide) a4)]
  by_cases a5 : v = 830
  · rw [if_pos (eq _ a5)]; exact key 9 (by decide) a5 5 rfl
  rw [if_neg (ne _ (by decide) (by decide) a5)]
  by_cases a6 : v = 4147840
  · rw [if_pos (eq _ a6)]; exact key 10 (by decide) a6 6 rfl
  rw [if_neg (ne _ (by decide) (by decide) a6)]
  by_cases a7 : v = 261064536
  · rw [if_pos (eq _ a7)]; exact key 11 (by decide) a7 7 rfl
  rw [if_neg (ne _ (by decide) (by decide) a7)]
  by_cases a8 : v = 249
  · rw [if_pos (eq _ a8)]; exact key 12 (by decide) a8 8 rfl
  rw [if_neg (ne _ (by decide) (by decide) a8)]
  by_cases a9 : v = 123
  · rw [if_pos (eq _ a9)]; exact key 13 (by decide) a9 9 rfl
  rw [if_neg (ne _ (by decide) (by decide) a9)]
  by_cases a10 : v = 10631
  · rw [if_pos (eq _ a10)]; exact key 16 (by decide) a10 10 rfl
  rw [if_neg (ne _ (by decide) (by decide) a10)]
  by_cases a11 : v = 1111
  · rw [if_pos (eq _ a11)]; exact key 15 (by decide) a11 11 rfl
  rw [if_neg (ne _ (by decide) (by decide) a11)]
  by_cases a12 : v = 423
  · rw [if_pos (eq _ a12)]; exact key 14 (by decide) a12 12 rfl
  rw [if_neg (ne _ (by decide) (by decide) a12)]
  by_cases a13 : v = 47
  · rw [if_pos (eq _ a13)]; exact key 0 (by decide) a13 13 rfl
  rw [if_neg (ne _ (by decide) (by decide) a13)]
  by_cases a14 : v = 330758
  · rw [if_pos (eq _ a14)]; exact key 3 (by decide) a14 14 rfl
  rw [if_neg (ne _ (by decide) (by decide) a14)]
  by_cases a15 : v = 153623
  · rw [if_pos (eq _ a15)]; exact key 4 (by decide) a15 15 rfl
  rw [if_neg (ne _ (by decide) (by decide) a15)]
  by_cases a16 : v = 326192
  · rw [if_pos (eq _ a16)]; exact key 5 (by decide) a16 16 rfl
  rw [if_neg (ne _ (by decide) (by decide) a16)]
  rw [kw_n]
  · rfl
  · intro w hw e
    have : w = 0 ∨ w = 1 ∨ w = 2 ∨ w = 3 ∨ w = 4 ∨ w = 5 ∨ w = 6 ∨ w = 7 ∨ w = 8 ∨ w = 9 ∨ w = 10 ∨ w = 11 ∨ w = 12 ∨ w = 13 ∨ w = 14 ∨ w = 15 ∨ w = 16 := by omega
    rcases this with g | g | g | g | g | g | g | g | g | g | g | g | g | g | g | g | g <;> subst g
    · exact a13 e
    · exact a4 e
    · exact a3 e
    · exact a14 e
    · exact a15 e
    · exact a16 e
    · exact a0 e
    · exact a1 e
    · exact a2 e
    · exact a5 e
    · exact a6 e
    · exact a7 e
    · exact a8 e
    · exact a9 e
    · exact a12 e
    · exact a11 e
    · exact a10 e
theorem rw_w : ∀ w : Nat, w < 17 → 0 ≤ rwT w ∧ rwT w < 17 ∧ rsT w = 3 := by decide +kernel
/-- what a scanned TOKEN comes to -/
def scT (tb : Nat → Nat) (n j s : Nat) (r : Int32) (M N : gM) : Prop := Fo [2, 3, 4, 5] [3] M N ∧ N.1 0 3 = i3 ((j + 1 : Nat) : Int) ∧ (∀ q, q ≠ j → (N.1 2 q = M.1 2 q ∧ N.1 3 q = M.1 3 q ∧ N.1 4 q = M.1 4 q) ∧ N.2.1 5 q = M.2.1 5 q) ∧ N.1 2 j = i3 (rsT (tkT tb n s).1) ∧ N.1 3 j = i3 (s : Int) ∧ ((tkT tb n s).1 = 18 → N.1 4 j = i3 (tkT tb n s).2.2) ∧ ((tkT tb n s).1 ≠ 18 → (tkT tb n s).1 ≠ 31 → N.1 4 j = i3 (rwT (tkT tb n s).1)) ∧ ((tkT tb n s).1 < 18 → N.2.1 5 j = i6 (tkT tb n s).2.2) ∧ ((tkT tb n s).1 < 30 → r = i3 (((tkT tb n s).2.1 : Nat) : Int))
theorem r_scan_67 {j s e : Nat} {v w : Int} (hj : j ≤ 2000) (he : e < 1000000) (hse : s ≤ e) (hw : -1 ≤ w ∧ w < 17) (h3 : M.1 0 3 = i3 (j : Int)) : wp (f_X10_scan_67 (i3 (s : Int)) (i3 (e : Int)) (i6 v) (i3 w) M) (fun r N => r = i3 (e : Int) ∧ Fo [2, 3, 4, 5] [3] M N ∧ N.1 0 3 = i3 ((j + 1 : Nat) : Int) ∧ (∀ q, q ≠ j → (N.1 2 q = M.1 2 q ∧ N.1 3 q = M.1 3 q ∧ N.1 4 q = M.1 4 q) ∧ N.2.1 5 q = M.2.1 5 q) ∧ N.1 2 j = i3 (if e - s ≤ 8 then (if w < 0 then 0 else 3) else 5) ∧ N.1 3 j = i3 (s : Int) ∧ N.1 4 j = i3 w ∧ N.2.1 5 j = i6 v) := by
  rw [f_X10_scan_67, h3, ck_ok (by omega) (by omega) (by omega), wp_m, tn_n (by omega), i3_sub, iL8, iL0, iL3, iL5]
  simp (disch := omega) only [i3_le, i3_lt]
  have f0 : Fo [2, 3, 4, 5] [3] M (sL M 5 j (i6 v)) := Fo.rf.l (by decide)
  have key : ∀ so : Int, so = (if e - s ≤ 8 then (if w < 0 then 0 else 3) else 5) → wp (g_b (f_X10_token (i3 so) (i3 (s : Int)) (i3 w) (sL M 5 j (i6 v))) (fun _ M23 => (some (i3 (e : Int), M23)))) (fun r N => r = i3 (e : Int) ∧ Fo [2, 3, 4, 5] [3] M N ∧ N.1 0 3 = i3 ((j + 1 : Nat) : Int) ∧ (∀ q, q ≠ j → (N.1 2 q = M.1 2 q ∧ N.1 3 q = M.1 3 q ∧ N.1 4 q = M.1 4 q) ∧ N.2.1 5 q = M.2.1 5 q) ∧ N.1 2 j = i3 (if e - s ≤ 8 then (if w < 0 then 0 else 3) else 5) ∧ N.1 3 j = i3 (s : Int) ∧ N.1 4 j = i3 w ∧ N.2.1 5 j = i6 v) := by
    intro so hso
    refine wp_b _ (r_tok (M := sL M 5 j (i6 v)) hj h3) (fun _ N hN => ?_)
    obtain ⟨q1, q2, q3, q4, q5, q6⟩ := hN
    rw [wp_some, ← hso]
    refine ⟨rfl, f0.tr (q1.up (by decide) (by decide)), q2, fun q hq => ⟨q3 q hq, ?_⟩, q4, q5, q6, ?_⟩
    · rw [q1.e2 (by decide) (by decide), rL_e, uL_n hq]
    · rw [q1.e2 (by decide) (by decide), rL_e, uL_e]
  refine wp_if (fun g => ?_) (fun g => ?_)
  · refine wp_if (fun g2 => ?_) (fun g2 => ?_)
    · exact key 0 (by rw [if_pos (by omega), if_pos g2])
    · exact key 3 (by rw [if_pos (by omega), if_neg g2])
  · exact key 5 (by rw [if_neg (by omega)])
theorem r_scan_12 {j s e : Nat} (hj : j ≤ 2000) (hs : s < n) (hl : ltP (chT tb n s)) (hr : rnE (fun i => ltP (chT tb n i)) s e) (h3 : M.1 0 3 = i3 (j : Int)) (hT : TY tb n M) : ∀ (m k : Nat), rnE (fun i => ltP (chT tb n i)) (s + k) e → s + k ≤ n → n < m + (s + k) → wp (f_X10_scan_12 m (i3 (s : Int)) (i3 ((s + k : Nat) : Int)) (i6 (nmV (fun i => chT tb n (s + i)) (min k 8))) M) (fun r N => scT tb n j s r M N) := by
  have hn := hT.1
  intro m
  induction m with
  | zero => intro k _ h1 h2; omega
  | succ m ih =>
    intro k hk h1 h2
    rw [f_X10_scan_12, r_lett hT (by omega), g_b_some, b_if, i3_sub, show ((s + k : Nat) : Int) - (s : Int) = (k : Int) by omega, iL8]
    simp (disch := omega) only [i3_le]
    refine wp_if (fun hp => ?_) (fun hp => ?_)
    · have hlt := ch_l hp
      refine wp_if (fun g => ?_) (fun g => ?_)
      · rw [i3_s1, show ((s + k : Nat) : Int) + 1 = ((s + (k + 1) : Nat) : Int) by omega]
        have := ih (k + 1) (rn_s hk hp) (by omega) (by omega)
        rw [show min (k + 1) 8 = min k 8 by omega] at this
        exact this
      · have hb := ch_r hT.2.1 (s + k)
        have e2 : ch2 tb n (s + k) = chT tb n (s + k) := by
          rcases ch2_e (tb := tb) (n := n) (s + k) with g | g
          · exact g.2
          · omega
        rw [r_byte hT (by omega), g_b_some, wp_v, e2, i3_64 (by omega) (by omega), i3_s1, show ((s + k : Nat) : Int) + 1 = ((s + (k + 1) : Nat) : Int) by omega]
        have ev : i6 (nmV (fun i => chT tb n (s + i)) (min k 8)) * 27 + i6 (chT tb n (s + k)) - 96 = i6 (nmV (fun i => chT tb n (s + i)) (min (k + 1) 8)) := by
          rw [show (27 : Int64) = i6 27 from rfl, show (96 : Int64) = i6 96 from rfl, i6_mul, i6_add, i6_sub, show min k 8 = k by omega, show min (k + 1) 8 = k + 1 by omega, nmV]
          congr 1
          omega
        rw [ev]
        exact ih (k + 1) (rn_s hk hp) (by omega) (by omega)
    · have ee : e = s + k := rn_t hk hp
      have hk0 : 0 < k := by
        rcases Nat.eq_zero_or_pos k with g | g
        · subst g; exact absurd hl hp
        · exact g
      have et : rnF (fun i => ltP (chT tb n i)) s = e := rn_e hr
      have eks : e - s = k := by omega
      have htk : tkT tb n s = if k ≤ 8 then (kwV (nmV (fun i => chT tb n (s + i)) k), e, nmV (fun i => chT tb n (s + i)) k) else (31, e, 0) := by
        unfold tkT
        rw [if_neg (by unfold ltP at hl; omega), if_pos hl, et, eks]
      have hnm := nm_b (f := fun i => chT tb n (s + i)) (min k 8) (fun i hi => hr.2.1 (s + i) (by omega) (by omega))
      have hp27 := p27 (l := min k 8) (by omega)
      refine wp_if (fun g => ?_) (fun g => ?_)
      · rw [if_pos (by omega)] at htk
        rw [r_wordOf ⟨hnm.1, by omega⟩, g_b_some, ← ee]
        rw [show min k 8 = k by omega]
        have hkw : -1 ≤ rwT (kwV (nmV (fun i => chT tb n (s + i)) k)) ∧ rwT (kwV (nmV (fun i => chT tb n (s + i)) k)) < 17 ∧ (rwT (kwV (nmV (fun i => chT tb n (s + i)) k)) < 0 ↔ kwV (nmV (fun i => chT tb n (s + i)) k) = 17) := by
          have h17 := kw_r (nmV (fun i => chT tb n (s + i)) k)
          generalize kwV (nmV (fun i => chT tb n (s + i)) k) = w at *
          by_cases hw : w = 17
          · subst hw; decide
          · have := rw_w w (by omega); omega
        refine wp_mono (r_scan_67 (v := nmV (fun i => chT tb n (s + i)) k) (w := rwT (kwV (nmV (fun i => chT tb n (s + i)) k))) hj (by omega) (by omega) ⟨hkw.1, hkw.2.1⟩ h3) (fun r N hN => ?_)
        obtain ⟨rfl, q2, q3, q4, q5, q6, q7, q8⟩ := hN
        unfold scT
        rw [htk]
        have h18 := kw_19 (nmV (fun i => chT tb n (s + i)) k)
        refine ⟨q2, q3, q4, ?_, q6, fun g => ?_, fun _ _ => q7, fun _ => q8, fun _ => rfl⟩
        · rw [q5, if_pos (by omega)]
          congr 1
          show _ = rsT (kwV (nmV (fun i => chT tb n (s + i)) k))
          have h17 := kw_r (nmV (fun i => chT tb n (s + i)) k)
          by_cases hw : kwV (nmV (fun i => chT tb n (s + i)) k) = 17
          · rw [if_pos (hkw.2.2.2 hw), hw]; rfl
          · rw [if_neg (fun g => hw (hkw.2.2.1 g)), (rw_w _ (by omega)).2.2]
        · have g : kwV (nmV (fun i => chT tb n (s + i)) k) = 18 := g
          omega
      · rw [if_neg (by omega)] at htk
        rw [← ee, show ((-1) : Int32) = i3 (-1) from rfl]
        refine wp_mono (r_scan_67 (v := nmV (fun i => chT tb n (s + i)) (min k 8)) (w := -1) hj (by omega) (by omega) ⟨by omega, by omega⟩ h3) (fun r N hN => ?_)
        obtain ⟨rfl, q2, q3, q4, q5, q6, q7, q8⟩ := hN
        unfold scT
        rw [htk]
        refine ⟨q2, q3, q4, ?_, q6, fun g => by simp at g, fun _ g => absurd rfl g, fun g => by simp at g, fun _ => rfl⟩
        rw [q5, if_neg (by omega)]; rfl
theorem wr_sc {j s : Nat} {so wh : Int} {r : Int32} (h : wrT j so (s : Int) wh M N) (h1 : so = rsT (tkT tb n s).1) (h2 : (tkT tb n s).1 = 18 → wh = (tkT tb n s).2.2) (h3 : (tkT tb n s).1 ≠ 18 → (tkT tb n s).1 ≠ 31 → wh = rwT (tkT tb n s).1) (h4 : 18 ≤ (tkT tb n s).1) (h5 : (tkT tb n s).1 < 30 → r = i3 (((tkT tb n s).2.1 : Nat) : Int)) : scT tb n j s r M N := by
  obtain ⟨q1, q2, q3, q4, q5, q6⟩ := h
  exact ⟨q1.up (by decide) (by decide), q2, fun q hq => ⟨q3 q hq, by rw [q1.e2 (by decide) (by decide)]⟩, by rw [q4, h1], q5, fun g => by rw [q6, h2 g], fun g g2 => by rw [q6, h3 g g2], fun g => by omega, h5⟩
theorem r_scan_120 {j s e : Nat} (hj : j ≤ 2000) (hs : s < n) (hd : dgP (chT tb n s)) (hr : rnE (fun i => dgP (chT tb n i)) s e) (h3 : M.1 0 3 = i3 (j : Int)) (hT : TY tb n M) : ∀ (m k : Nat), rnE (fun i => dgP (chT tb n i)) (s + k) e → s + k ≤ n → n < m + (s + k) → wp (f_X10_scan_120 m (i3 (s : Int)) (i3 ((s + k : Nat) : Int)) (i3 (dgV (fun i => chT tb n (s + i)) (min k 4))) M) (fun r N => scT tb n j s r M N) := by
  have hn := hT.1
  intro m
  induction m with
  | zero => intro k _ h1 h2; omega
  | succ m ih =>
    intro k hk h1 h2
    rw [f_X10_scan_120, r_digi hT (by omega), g_b_some, b_if, i3_sub, show ((s + k : Nat) : Int) - (s : Int) = (k : Int) by omega, iL4]
    simp (disch := omega) only [i3_le]
    refine wp_if (fun hp => ?_) (fun hp => ?_)
    · have hlt := ch_d hp
      refine wp_if (fun g => ?_) (fun g => ?_)
      · rw [i3_s1, show ((s + k : Nat) : Int) + 1 = ((s + (k + 1) : Nat) : Int) by omega]
        have := ih (k + 1) (rn_s hk hp) (by omega) (by omega)
        rw [show min (k + 1) 4 = min k 4 by omega] at this
        exact this
      · have e2 : ch2 tb n (s + k) = chT tb n (s + k) := by
          rcases ch2_e (tb := tb) (n := n) (s + k) with g | g
          · exact g.2
          · omega
        rw [r_byte hT (by omega), g_b_some, wp_v, e2, i3_s1, show ((s + k : Nat) : Int) + 1 = ((s + (k + 1) : Nat) : Int) by omega]
        have ev : 10 * i3 (dgV (fun i => chT tb n (s + i)) (min k 4)) + i3 (chT tb n (s + k)) - 48 = i3 (dgV (fun i => chT tb n (s + i)) (min (k + 1) 4)) := by
          rw [iL10, show (48 : Int32) = i3 48 from rfl, i3_mul, i3_add, i3_sub, show min k 4 = k by omega, show min (k + 1) 4 = k + 1 by omega, dgV]
          congr 1
          omega
        rw [ev]
        exact ih (k + 1) (rn_s hk hp) (by omega) (by omega)
    · have ee : e = s + k := rn_t hk hp
      have et : rnF (fun i => dgP (chT tb n i)) s = e := rn_e hr
      have eks : e - s = k := by omega
      have htk : tkT tb n s = if k ≤ 4 then (18, e, dgV (fun i => chT tb n (s + i)) k) else (31, e, 0) := by
        unfold tkT
        rw [if_neg (by unfold dgP at hd; omega), if_neg (by unfold dgP at hd; unfold ltP; omega), if_pos hd, et, eks]
      refine wp_if (fun g => ?_) (fun g => ?_)
      · rw [if_pos (by omega)] at htk
        rw [iL1]
        refine wp_b _ (r_tok hj h3) (fun _ N hN => ?_)
        rw [wp_some]
        refine wr_sc hN ?_ ?_ ?_ ?_ ?_
        · rw [htk]; rfl
        · rw [htk]; intro _; rw [show min k 4 = k by omega]
        · rw [htk]; intro g; exact absurd rfl g
        · rw [htk]; exact Nat.le_refl _
        · rw [htk]; intro _; rw [ee]
      · rw [if_neg (by omega)] at htk
        rw [iL5]
        refine wp_b _ (r_tok hj h3) (fun _ N hN => ?_)
        rw [wp_some]
        refine wr_sc hN ?_ ?_ ?_ ?_ ?_
        · rw [htk]; rfl
        · rw [htk]; intro g; simp at g
        · rw [htk]; intro _ g; exact absurd rfl g
        · rw [htk]; show 18 ≤ 31; omega
        · rw [htk]; intro g; simp at g
theorem r_sg {c : Int} (hc : 0 ≤ c ∧ c < 256) {d : Bool} : f_X10_signAt_23 (i3 c) (b2i d) M = some (i3 (rwT (sgK c d)), M) := by
  have dd : (b2i d = 0) ↔ ¬ d = true := by cases d <;> decide
  rw [f_X10_signAt_23, show (61 : Int32) = i3 61 from rfl, show (33 : Int32) = i3 33 from rfl, iL60, show (59 : Int32) = i3 59 from rfl, show (43 : Int32) = i3 43 from rfl, show (45 : Int32) = i3 45 from rfl, show (42 : Int32) = i3 42 from rfl, show (47 : Int32) = i3 47 from rfl, iL40, show (41 : Int32) = i3 41 from rfl]
  simp (disch := omega) only [i3_eq]
  by_cases a : c = 61
  · subst a; cases d <;> rfl
  rw [if_neg a]
  by_cases a1 : c = 33
  · subst a1; cases d <;> rfl
  rw [if_neg a1]
  by_cases a2 : c = 60
  · subst a2; cases d <;> rfl
  rw [if_neg a2]
  by_cases a3 : c = 59
  · subst a3; rfl
  rw [if_neg a3]
  by_cases a4 : c = 43
  · subst a4; rfl
  rw [if_neg a4]
  by_cases a5 : c = 45
  · subst a5; rfl
  rw [if_neg a5]
  by_cases a6 : c = 42
  · subst a6; rfl
  rw [if_neg a6]
  by_cases a7 : c = 47
  · subst a7; rfl
  rw [if_neg a7]
  by_cases a8 : c = 40
  · subst a8; rfl
  rw [if_neg a8]
  by_cases a9 : c = 41
  · subst a9; rfl
  rw [if_neg a9]
  have : sgK c d = 31 := by simp [sgK, a, a1, a2, a3, a4, a5, a6, a7, a8, a9]
  rw [this]
  rfl
theorem sg_w1 : ∀ k : Nat, k < 32 → 19 ≤ k → k ≠ 30 → (rwT k = 0 ↔ k = 31) := by decide +kernel
theorem sg_w2 : ∀ k : Nat, k < 32 → 19 ≤ k → k ≠ 30 → rsT k = (if k = 31 then 5 else 2) := by decide +kernel
theorem sg_w3 : ∀ k : Nat, k < 32 → 19 ≤ k → k ≠ 30 → k ≠ 31 → sgL k = (if rwT k < 300 then 1 else 2) := by decide +kernel
theorem sg_w4 : ∀ k : Nat, k < 32 → 19 ≤ k → k ≠ 30 → 0 ≤ rwT k ∧ rwT k < 400 := by decide +kernel
theorem sg_w (k : Nat) (h1 : k < 32) (h2 : 19 ≤ k) (h3 : k ≠ 30) : (rwT k = 0 ↔ k = 31) ∧ rsT k = (if k = 31 then 5 else 2) ∧ (k ≠ 31 → sgL k = if rwT k < 300 then 1 else 2) ∧ 0 ≤ rwT k ∧ rwT k < 400 := ⟨sg_w1 k h1 h2 h3, sg_w2 k h1 h2 h3, sg_w3 k h1 h2 h3, sg_w4 k h1 h2 h3⟩
theorem r_scan {j s : Nat} (hj : j ≤ 2000) (hs : s < n) (h3 : M.1 0 3 = i3 (j : Int)) (hT : TY tb n M) : wp (f_X10_scan (i3 (s : Int)) M) (fun r N => scT tb n j s r M N) := by
  have hn := hT.1
  have hlt := rn_n (P := fun i => ltP (chT tb n i)) (n := n) (k := s) (fun i hi => ch_l hi) (by omega)
  have hdg := rn_n (P := fun i => dgP (chT tb n i)) (n := n) (k := s) (fun i hi => ch_d hi) (by omega)
  have hb := ch2_r hT.2.1 s
  rw [f_X10_scan, r_lett hT (by omega), g_b_some, b_if]
  refine wp_if (fun hl => ?_) (fun hl => ?_)
  · have := r_scan_12 hj hs hl hlt.1 h3 hT FU 0 hlt.1 (by omega) (by rw [FU_s]; omega)
    exact this
  rw [r_digi hT (by omega), g_b_some, b_if]
  refine wp_if (fun hd => ?_) (fun hd => ?_)
  · have := r_scan_120 hj hs hd hdg.1 h3 hT FU 0 hdg.1 (by omega) (by rw [FU_s]; omega)
    exact this
  have e1 : ch2 tb n s = chT tb n s := by
    rcases ch2_e (tb := tb) (n := n) s with g | g
    · exact g.2
    · omega
  have hb1 := ch2_r hT.2.1 (s + 1)
  rw [f_X10_signAt, r_byte hT (by omega), g_b_some, i3_s1, show (s : Int) + 1 = ((s + 1 : Nat) : Int) by omega, r_byte hT (by omega), g_b_some, show (61 : Int32) = i3 61 from rfl]
  simp (disch := omega) only [i3_eq]
  have e61 : ch2 tb n (s + 1) = 61 ↔ chT tb n (s + 1) = 61 := by
    rcases ch2_e (tb := tb) (n := n) (s + 1) with g | g
    · rw [g.2]
    · omega
  have htk : tkT tb n s = (sgK (chT tb n s) (decide (chT tb n (s + 1) = 61)), s + sgL (sgK (chT tb n s) (decide (chT tb n (s + 1) = 61))), 0) := by
    unfold tkT
    rw [if_neg (by omega), if_neg hl, if_neg hd]
  have key : ∀ d : Bool, d = decide (chT tb n (s + 1) = 61) → wp (g_b (f_X10_signAt_23 (i3 (ch2 tb n s)) (b2i d) M) (fun r6 M5 => (if r6 = 0 then (f_X10_scan_191 (i3 (s : Int)) r6 (5 : Int32) M5) else (f_X10_scan_191 (i3 (s : Int)) r6 (2 : Int32) M5)))) (fun r N => scT tb n j s r M N) := by
    intro d hdd
    rw [r_sg hb, g_b_some, e1]
    rw [← hdd] at htk
    have hr := sg_r (chT tb n s) d
    have hw := sg_w (sgK (chT tb n s) d) (by omega) hr.1 hr.2.2
    generalize sgK (chT tb n s) d = k at *
    rw [iL0]
    simp (disch := omega) only [i3_eq]
    have go : ∀ so : Int, so = rsT k → wp (f_X10_scan_191 (i3 (s : Int)) (i3 (rwT k)) (i3 so) M) (fun r N => scT tb n j s r M N) := by
      intro so hso
      rw [f_X10_scan_191]
      refine wp_b _ (r_tok hj h3) (fun _ N hN => ?_)
      have fin : ∀ r : Int32, (k ≠ 31 → r = i3 ((s + sgL k : Nat) : Int)) → scT tb n j s r M N := by
        intro r hr2
        refine wr_sc hN ?_ ?_ ?_ ?_ ?_
        · rw [htk]; exact hso
        · rw [htk]; intro g; have g : k = 18 := g; omega
        · rw [htk]; intro _ _; rfl
        · rw [htk]; show 18 ≤ k; omega
        · rw [htk]; intro g; have g : k < 30 := g; exact hr2 (by omega)
      rw [iL300]
      simp (disch := omega) only [i3_lt]
      refine wp_if (fun g => ?_) (fun g => ?_)
      · rw [wp_some, i3_s1]
        exact fin _ (fun g2 => by rw [hw.2.2.1 g2, if_pos g]; rfl)
      · rw [wp_some, iL2, i3_add]
        exact fin _ (fun g2 => by rw [hw.2.2.1 g2, if_neg g]; rfl)
    refine wp_if (fun g => ?_) (fun g => ?_)
    · exact go 5 (by rw [hw.2.1, if_pos (hw.1.1 g)])
    · exact go 2 (by rw [hw.2.1, if_neg (fun e => g (hw.1.2 e))])
  by_cases g : ch2 tb n (s + 1) = 61
  · rw [if_pos g]
    exact key true (by rw [decide_eq_true (e61.1 g)])
  · rw [if_neg g]
    exact key false (by rw [decide_eq_false (fun e => g (e61.2 e))])
def DT (tb : Nat → Nat) (n J : Nat) (M : gM) : Prop := ∀ j : Nat, j < J → j ≤ 2000 → (∀ i, i < j → kdT tb n i < 30) → M.1 2 j = i3 (rsT (kdT tb n j)) ∧ M.1 3 j = i3 ((stT tb n j : Nat) : Int) ∧ (kdT tb n j = 18 → M.1 4 j = i3 (vlT tb n j)) ∧ (kdT tb n j ≠ 18 → kdT tb n j ≠ 31 → M.1 4 j = i3 (rwT (kdT tb n j))) ∧ (kdT tb n j < 18 → M.2.1 5 j = i6 (vlT tb n j))
theorem r_all : ∀ (m k j : Nat) (M : gM), TY tb n M → M.1 0 3 = i3 (j : Int) → j ≤ poT tb n j → poT tb n j ≤ k → k ≤ n → n + 1 < m + k → DT tb n j M → (∀ i, i < j → kdT tb n i < 30) → rnE (fun i => blP (chT tb n i)) k (stT tb n j) → wp (f_X10_scanAll_9 m (i3 (k : Int)) 1 M) (fun _ N => Fo [2, 3, 4, 5] [3] M N ∧ DT tb n 2001 N) := by
  intro m
  induction m with
  | zero => intro k j M _ _ _ _ h1 h2; omega
  | succ m ih =>
    intro k j M hT h3 hjp hpk hk hm hD hlt hr
    have hn := hT.1
    have hb := ch2_r hT.2.1 k
    have step : ∀ N r, scT tb n j (stT tb n j) r M N → DT tb n (j + 1) N := by
      intro N r hN
      obtain ⟨q1, q2, q3, q4, q5, q6, q7, q8, q9⟩ := hN
      intro q g1 g2 g3
      by_cases eq : q = j
      · subst eq
        exact ⟨q4, q5, q6, q7, q8⟩
      · obtain ⟨a1, a2, a3, a4, a5⟩ := hD q (by omega) g2 g3
        obtain ⟨⟨b1, b2, b3⟩, b4⟩ := q3 q eq
        exact ⟨by rw [b1, a1], by rw [b2, a2], fun g => by rw [b3, a3 g], fun g g' => by rw [b3, a4 g g'], fun g => by rw [b4, a5 g]⟩
    have last : ∀ N, DT tb n (j + 1) N → ¬ kdT tb n j < 30 → DT tb n 2001 N := fun N hN hk q g1 g2 g3 => by
      by_cases e : q < j + 1
      · exact hN q e g2 g3
      · exact absurd (g3 j (by omega)) hk
    rw [f_X10_scanAll_9, hT.2.2.1]
    simp (disch := omega) only [i3_le]
    refine wp_if (fun g => ?_) (fun g => ?_)
    · have ek : k = n := by omega
      have es : stT tb n j = n := by rw [rn_t hr (fun hp => by have := ch_b hp; omega)]; exact ek
      have htk : tkT tb n (stT tb n j) = (30, stT tb n j, 0) := by
        unfold tkT
        rw [if_pos (by rw [es]; exact ch_e (Nat.le_refl _))]
      rw [f_X10_scanAll_87, if_neg (by decide), hT.2.2.1, iL4, iL0]
      refine wp_b _ (r_tok (j := j) (by omega) h3) (fun _ N hN => ?_)
      rw [wp_some]
      rw [← es] at hN
      have hs : scT tb n j (stT tb n j) 0 M N := by
        refine wr_sc hN ?_ ?_ ?_ ?_ ?_
        · rw [htk]; rfl
        · rw [htk]; intro g; simp at g
        · rw [htk]; intro _ _; rfl
        · rw [htk]; show 18 ≤ 30; omega
        · rw [htk]; intro g; simp at g
      refine ⟨hs.1, last N (step N _ hs) ?_⟩
      unfold kdT
      rw [htk]
      show ¬ 30 < 30
      omega
    · have e1 : ch2 tb n k = chT tb n k := by
        rcases ch2_e (tb := tb) (n := n) k with g | g
        · exact g.2
        · omega
      rw [if_neg (by decide), r_byte hT (by omega), g_b_some, show (32 : Int32) = i3 32 from rfl, iL9, iL10, show (13 : Int32) = i3 13 from rfl, i3_s1]
      simp (disch := omega) only [i3_eq]
      have bl : blP (chT tb n k) → wp (f_X10_scanAll_9 m (i3 ((k : Int) + 1)) 1 M) (fun _ N => Fo [2, 3, 4, 5] [3] M N ∧ DT tb n 2001 N) := fun hp => ih (k + 1) j M hT h3 hjp (by omega) (by omega) (by omega) hD hlt (rn_s hr hp)
      refine wp_if (fun g1 => bl (Or.inl (by omega))) (fun g1 => ?_)
      refine wp_if (fun g2 => bl (Or.inr (Or.inl (by omega)))) (fun g2 => ?_)
      refine wp_if (fun g3 => bl (Or.inr (Or.inr (Or.inl (by omega))))) (fun g3 => ?_)
      refine wp_if (fun g4 => bl (Or.inr (Or.inr (Or.inr (by omega))))) (fun g4 => ?_)
      have es : stT tb n j = k := rn_t hr (by unfold blP; omega)
      have hsc := r_scan (tb := tb) (n := n) (j := j) (s := k) (by omega) (by omega) h3 hT
      rw [← es] at hsc
      rw [← es]
      refine wp_b _ hsc (fun r N hN => ?_)
      have hd := step N r hN
      obtain ⟨q1, q2, q3, q4, q5, q6, q7, q8, q9⟩ := id hN
      have hk := tk_r (tb := tb) (n := n) (s := stT tb n j) (by omega) hT.2.1
      rw [q2, iL1, i3_sub, show ((j + 1 : Nat) : Int) - 1 = (j : Int) by omega, ck_ok (by omega) (by omega) (by omega), tn_n (by omega), q4, iL5]
      have hk' : kdT tb n j ≤ 31 := hk.1
      have hrs : rsT (kdT tb n j) = 5 ↔ kdT tb n j = 31 := by
        have : ∀ q : Nat, q < 32 → (rsT q = 5 ↔ q = 31) := by decide +kernel
        exact this _ (by omega)
      have hrr : 0 ≤ rsT (kdT tb n j) ∧ rsT (kdT tb n j) < 6 := by
        have : ∀ q : Nat, q < 32 → 0 ≤ rsT q ∧ rsT q < 6 := by decide +kernel
        exact this _ (by omega)
      change wp (if i3 (rsT (kdT tb n j)) = i3 5 then _ else _) _
      simp (disch := omega) only [i3_eq]
      refine wp_if (fun g5 => ?_) (fun g5 => ?_)
      · have h31 := hrs.1 g5
        cases m with
        | zero => omega
        | succ m =>
          rw [f_X10_scanAll_9, f_X10_scanAll_87, if_pos rfl, if_pos rfl, ite_self, wp_some]
          exact ⟨q1, last N hd (by omega)⟩
      · have h30 : kdT tb n j < 30 := by
          rcases Nat.lt_or_ge (kdT tb n j) 30 with g | g
          · exact g
          · have : kdT tb n j = 30 := by
              have : kdT tb n j ≠ 31 := fun e => g5 (hrs.2 e)
              omega
            have := hk.2.2.2 this
            omega
        have hk2 := hk.2.1 h30
        have ep : poT tb n (j + 1) = (tkT tb n (stT tb n j)).2.1 := rfl
        rw [q9 h30, ← ep]
        rw [← ep] at hk2
        have hT2 : TY tb n N := hT.mv q1 (by decide) (by decide)
        have := ih (poT tb n (j + 1)) (j + 1) N hT2 q2 (by omega) (Nat.le_refl _) hk2.2.2 (by omega) hd (fun i hi => by
          by_cases ei : i = j
          · rw [ei]; exact h30
          · exact hlt i (by omega)) (st_n2 hk2.2.2).1
        rw [iL1] at this
        exact wp_mono this (fun _ N2 hN2 => ⟨q1.tr hN2.1, hN2.2⟩)
theorem r_scanAll (hT : TY tb n M) : wp (f_X10_scanAll M) (fun _ N => Fo [2, 3, 4, 5] [3] M N ∧ DT tb n 2001 N) := by
  rw [f_X10_scanAll, wp_m]
  have f0 : Fo [2, 3, 4, 5] [3] M (sI M 0 3 0) := Fo.rf.o (by decide)
  have hT0 : TY tb n (sI M 0 3 0) := hT.mv f0 (by decide) (by decide)
  have hn := hT.1
  have := r_all (tb := tb) (n := n) FU 0 0 (sI M 0 3 0) hT0 (by rw [rI_e, up_e]; rfl) (by rw [poT]; omega) (by rw [poT]; omega) (by omega) (by rw [FU_s]; omega) (fun j hj => by omega) (fun i hi => by omega) (st_n2 (tb := tb) (n := n) (j := 0) (by rw [poT]; omega)).1
  exact wp_mono this (fun _ N hN => ⟨f0.tr hN.1, hN.2⟩)
end
