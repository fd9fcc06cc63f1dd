/-! ===== the class: the TOKENS ===== -/
section
variable {tb : Nat → Nat} {n : Nat} {M N : gM}
def TX (tb : Nat → Nat) (n : Nat) (M : gM) : Prop := n ≤ 2000 ∧ (∀ i, i < n → tb i < 256) ∧ M.1 23 4 = i3 n ∧ M.2.2 23 3 = 1 ∧ ∀ i : Nat, i < n → M.1 1 i = i3 (tb i)
theorem TX.c (h : TX tb n M) {x : Int32} : TX tb n (sI M 23 5 x) := by
  obtain ⟨h1, h2, h3, h4, h5⟩ := h
  exact ⟨h1, h2, by rw [rI_e, up_n (by decide), h3], h4, fun i hi => by rw [rI_n (by decide), h5 i hi]⟩
theorem TX.o (h : TX tb n M) {k j : Nat} {x : Int32} (hk : k ≠ 1 ∧ k ≠ 23) : TX tb n (sI M k j x) := by
  obtain ⟨h1, h2, h3, h4, h5⟩ := h
  exact ⟨h1, h2, by rw [rI_n (Ne.symm hk.2), h3], h4, fun i hi => by rw [rI_n (Ne.symm hk.1), h5 i hi]⟩
theorem TX.l (h : TX tb n M) {k j : Nat} {x : Int64} : TX tb n (sL M k j x) := h
theorem t_char (h : TX tb n M) {k : Nat} (hk : k < 1000000) : f_X7_charAt (i3 (k : Int)) M = some (i3 (chT tb n k), M) := by
  obtain ⟨h1, h2, h3, h4, h5⟩ := h
  rw [f_X7_charAt, h3, h4, iL0]
  simp (disch := omega) only [i3_lt, i3_le]
  rw [if_neg (by omega)]
  by_cases g : k < n
  · rw [if_neg (by omega), is_ok, ck_ok (by omega) (by omega) (by omega), tn_n (by omega), h5 k g]
    unfold chT
    rw [if_pos g]
  · rw [if_pos (by omega), ch_e (by omega)]
    rfl
theorem t_blank {c : Int} (hc : -1 ≤ c ∧ c < 256) : f_X7_isBlank (i3 c) M = some (b_ (blP c), M) := by
  rw [f_X7_isBlank, show (32 : Int32) = i3 32 from rfl, iL9, iL10, show (13 : Int32) = i3 13 from rfl]
  simp (disch := omega) only [i3_eq]
  by_cases h1 : c = 32
  · rw [if_pos h1, b_t (show blP c from Or.inl h1)]
  rw [if_neg h1]
  by_cases h2 : c = 9
  · rw [if_pos h2, b_t (show blP c from Or.inr (Or.inl h2))]
  rw [if_neg h2]
  by_cases h3 : c = 10
  · rw [if_pos h3, b_t (show blP c from Or.inr (Or.inr (Or.inl h3)))]
  rw [if_neg h3]
  by_cases h4 : c = 13
  · rw [if_pos h4, b_t (show blP c from Or.inr (Or.inr (Or.inr h4)))]
  rw [if_neg h4, b_f (by unfold blP; omega)]
theorem t_lett {c : Int} (hc : -1 ≤ c ∧ c < 256) : f_X7_isLetter (i3 c) M = some (b_ (ltP c), M) := by
  rw [f_X7_isLetter, show (97 : Int32) = i3 97 from rfl, show (122 : Int32) = i3 122 from rfl]
  simp (disch := omega) only [i3_lt]
  unfold ltP
  by_cases h1 : c < 97
  · rw [if_pos h1, b_f (by omega)]
  rw [if_neg h1]
  by_cases h2 : 122 < c
  · rw [if_pos h2, b_f (by omega)]
  · rw [if_neg h2, b_t (by omega)]
theorem t_digi {c : Int} (hc : -1 ≤ c ∧ c < 256) : f_X7_isDigit (i3 c) M = some (b_ (dgP c), M) := by
  rw [f_X7_isDigit, show (48 : Int32) = i3 48 from rfl, show (57 : Int32) = i3 57 from rfl]
  simp (disch := omega) only [i3_lt]
  unfold dgP
  by_cases h1 : c < 48
  · rw [if_pos h1, b_f (by omega)]
  rw [if_neg h1]
  by_cases h2 : 57 < c
  · rw [if_pos h2, b_f (by omega)]
  · rw [if_neg h2, b_t (by omega)]
/-- the cursor goes over a run -/
theorem t_skip {e : Nat} : ∀ (m k : Nat) (M : gM), TX tb n M → rnE (fun i => blP (chT tb n i)) k e → k ≤ n → n < m + k → M.1 23 5 = i3 (k : Int) → wp (f_X7_skipBlanks_5 m (i3 (k : Int)) M) (fun _ N => Fr [23] M N ∧ TX tb n N ∧ N.1 23 5 = i3 (e : Int)) := by
  intro m
  induction m with
  | zero => intro k M _ _ h1 h2; omega
  | succ m ih =>
    intro k M hT hr h1 h2 hc
    have hn := hT.1
    have hb := ch_r hT.2.1 k
    rw [f_X7_skipBlanks_5, hT.2.2.1]
    simp (disch := omega) only [i3_le]
    refine wp_if (fun g => ?_) (fun g => ?_)
    · rw [wp_some, rn_t hr (fun hp => by have := ch_b hp; omega)]
      exact ⟨Fr.rf, hT, hc⟩
    · rw [t_char hT (by omega), g_b_some, t_blank hb, g_b_some, b_if]
      refine wp_if (fun hp => ?_) (fun hp => ?_)
      · rw [wp_m, i3_s1]
        refine wp_mono (ih (k + 1) (sI M 23 5 (i3 ((k : Int) + 1))) hT.c (rn_s hr hp) (by omega) (by omega) (by rw [rI_e, up_e]; rfl)) (fun _ N hN => ?_)
        exact ⟨(Fr.rf.i (by decide)).tr hN.1, hN.2⟩
      · rw [wp_some, rn_t hr hp]
        exact ⟨Fr.rf, hT, hc⟩
theorem t_run_d {e : Nat} {a s : Int32} {Q : Int32 → gM → Prop} {M0 : gM} (hk : ∀ N, Fr [23] M0 N → TX tb n N → N.1 23 5 = i3 (e : Int) → wp (f_X7_digits_39 a s N) Q) : ∀ (m k : Nat) (M : gM), Fr [23] M0 M → TX tb n M → rnE (fun i => dgP (chT tb n i)) k e → k ≤ n → n < m + k → M.1 23 5 = i3 (k : Int) → wp (f_X7_digits_7 m a s (i3 (k : Int)) M) Q := by
  intro m
  induction m with
  | zero => intro k M _ _ _ h1 h2; omega
  | succ m ih =>
    intro k M f hT hr h1 h2 hc
    have hn := hT.1
    have hb := ch_r hT.2.1 k
    rw [f_X7_digits_7, hT.2.2.1]
    simp (disch := omega) only [i3_le]
    refine wp_if (fun g => ?_) (fun g => ?_)
    · exact hk M f hT (by rw [hc, rn_t hr (fun hp => by have := ch_d hp; omega)])
    · rw [t_char hT (by omega), g_b_some, t_digi hb, g_b_some, b_if]
      refine wp_if (fun hp => ?_) (fun hp => ?_)
      · rw [wp_m, i3_s1]
        exact ih (k + 1) (sI M 23 5 (i3 ((k : Int) + 1))) (f.i (by decide)) hT.c (rn_s hr hp) (by omega) (by omega) (by rw [rI_e, up_e]; rfl)
      · exact hk M f hT (by rw [hc, rn_t hr hp])
theorem t_run_l {e : Nat} {a s : Int32} {Q : Int32 → gM → Prop} {M0 : gM} (hk : ∀ N, Fr [23] M0 N → TX tb n N → N.1 23 5 = i3 (e : Int) → wp (f_X7_letters_39 a s N) Q) : ∀ (m k : Nat) (M : gM), Fr [23] M0 M → TX tb n M → rnE (fun i => ltP (chT tb n i)) k e → k ≤ n → n < m + k → M.1 23 5 = i3 (k : Int) → wp (f_X7_letters_7 m a s (i3 (k : Int)) M) Q := by
  intro m
  induction m with
  | zero => intro k M _ _ _ h1 h2; omega
  | succ m ih =>
    intro k M f hT hr h1 h2 hc
    have hn := hT.1
    have hb := ch_r hT.2.1 k
    rw [f_X7_letters_7, hT.2.2.1]
    simp (disch := omega) only [i3_le]
    refine wp_if (fun g => ?_) (fun g => ?_)
    · exact hk M f hT (by rw [hc, rn_t hr (fun hp => by have := ch_l hp; omega)])
    · rw [t_char hT (by omega), g_b_some, t_lett hb, g_b_some, b_if]
      refine wp_if (fun hp => ?_) (fun hp => ?_)
      · rw [wp_m, i3_s1]
        exact ih (k + 1) (sI M 23 5 (i3 ((k : Int) + 1))) (f.i (by decide)) hT.c (rn_s hr hp) (by omega) (by omega) (by rw [rI_e, up_e]; rfl)
      · exact hk M f hT (by rw [hc, rn_t hr hp])
/-- is it this word? -/
theorem t_word_16 (hT : TX tb n M) {w s l : Nat} (hw : w < 17) (hs : s + 10 < 1000000) (hl : l ≤ 6) : ∀ (m i : Nat) (b : Bool), i ≤ 6 → 6 < m + i → (b = true → ∀ j, j < i → wdE (fun i => chT tb n (s + i)) l w j) → (b = false → ∃ j, j < 6 ∧ ¬ wdE (fun i => chT tb n (s + i)) l w j) → f_X7_isWord_16 m (i3 (w : Int)) (i3 (s : Int)) (i3 (l : Int)) (b2i b) (i3 (i : Int)) M = some (b_ (∀ j, j < 6 → wdE (fun i => chT tb n (s + i)) l w j), M) := by
  intro m
  induction m with
  | zero => intro i b h1 h2; omega
  | succ m ih =>
    intro i b h1 h2 h3 h4
    rw [f_X7_isWord_16, iL6]
    simp (disch := omega) only [i3_le, tb_ok]
    by_cases e : i = 6
    · rw [if_pos (by omega)]
      congr 2
      cases b with
      | true => rw [b_t (fun j hj => h3 rfl j (by omega))]
      | false =>
        obtain ⟨j, j1, j2⟩ := h4 rfl
        rw [b_f (fun g => j2 (g j j1))]
    · rw [if_neg (by omega)]
      cases b with
      | false =>
        obtain ⟨j, j1, j2⟩ := h4 rfl
        rw [if_pos (show b2i false = 0 from rfl), b_f (fun g => j2 (g j j1))]
      | true =>
        rw [if_neg (by decide)]
        have key : ∀ c : Int, -1 ≤ c → c < 256 → c = (if i < l then chT tb n (s + i) else 32) → f_X7_isWord_47 (f_X7_isWord_16 m) (i3 (w : Int)) (i3 (s : Int)) (i3 (l : Int)) (i3 (i : Int)) (i3 c) M = some (b_ (∀ j, j < 6 → wdE (fun i => chT tb n (s + i)) l w j), M) := by
          intro c c1 c2 c3
          have hwc := wc_r (6 * w + i)
          rw [f_X7_isWord_47, iL6, i3_mul, i3_add, g_v, show (w : Int) * 6 + i = ((6 * w + i : Nat) : Int) by omega, iL0, show (102 : Int32) = i3 102 from rfl]
          simp (disch := omega) only [i3_lt, i3_le]
          rw [if_neg (by omega), if_neg (by omega), ck_ok (by omega) (by omega) (by omega), tn_n (by omega), wc_e, i3_s1]
          simp (disch := omega) only [i3_eq]
          by_cases g : wcI (6 * w + i) = c
          · rw [if_pos g]
            refine ih (i + 1) true (by omega) (by omega) (fun _ j hj => ?_) (fun g => by cases g)
            by_cases ej : j = i
            · subst ej
              unfold wdE
              rw [g, c3]
            · exact h3 rfl j (by omega)
          · rw [if_neg g]
            refine ih (i + 1) false (by omega) (by omega) (fun g => by cases g) (fun _ => ⟨i, by omega, fun g2 => g ?_⟩)
            unfold wdE at g2
            rw [← g2, c3]
        by_cases g : i < l
        · have hb := ch_r hT.2.1 (s + i)
          rw [if_neg (by omega), i3_add, show (s : Int) + i = ((s + i : Nat) : Int) by omega, t_char hT (by omega), g_b_some]
          exact key _ hb.1 hb.2 (by rw [if_pos g])
        · rw [if_pos (by omega), show (32 : Int32) = i3 32 from rfl]
          exact key 32 (by omega) (by omega) (by rw [if_neg g])
theorem t_word (hT : TX tb n M) {w s l : Nat} (hw : w < 17) (hs : s + 10 < 1000000) (hl : l ≤ 8) (hf : ∀ i, i < l → ltP (chT tb n (s + i))) : f_X7_isWord (i3 (w : Int)) (i3 (s : Int)) (i3 (l : Int)) M = some (b_ (nmV (fun i => chT tb n (s + i)) l = vwT w), M) := by
  rw [f_X7_isWord, iL6]
  simp (disch := omega) only [i3_lt]
  rw [← b_e (wd_v hw hf)]
  by_cases g : 6 < l
  · rw [if_pos (by omega), b_f (fun h => by omega), f_X7_isWord_16.eq_def, FU_s]
    rfl
  · rw [if_neg (by omega), ← b_e (⟨fun h => ⟨by omega, h⟩, fun h => h.2⟩ : (∀ j, j < 6 → wdE (fun i => chT tb n (s + i)) l w j) ↔ (l ≤ 6 ∧ ∀ j, j < 6 → wdE (fun i => chT tb n (s + i)) l w j))]
    exact t_word_16 hT hw hs (by omega) FU 0 true (by omega) (by rw [FU_s]; omega) (fun _ j hj => by omega) (fun g => by cases g)
theorem t_words (hT : TX tb n M) {s l : Nat} (hs : s + 10 < 1000000) (hl : l ≤ 8) (hf : ∀ i, i < l → ltP (chT tb n (s + i))) : ∀ (m w : Nat), w ≤ 17 → 17 < m + w → (∀ b, b < w → nmV (fun i => chT tb n (s + i)) l ≠ vwT b) → f_X7_letters_106 m (i3 (s : Int)) (i3 (l : Int)) (i3 (w : Int)) M = some (i3 ((kwV (nmV (fun i => chT tb n (s + i)) l) : Nat) : Int), M) := by
  intro m
  induction m with
  | zero => intro w h1 h2; omega
  | succ m ih =>
    intro w h1 h2 h3
    rw [f_X7_letters_106, show (17 : Int32) = i3 17 from rfl]
    simp (disch := omega) only [i3_le]
    by_cases e : w = 17
    · subst e
      rw [if_pos (by omega), kw_n h3]
      rfl
    · rw [if_neg (by omega), t_word hT (by omega) hs hl hf, g_b_some, b_if]
      by_cases g : nmV (fun i => chT tb n (s + i)) l = vwT w
      · rw [if_pos g, kw_e (by omega) g]
      · rw [if_neg g, i3_s1]
        refine ih (w + 1) (by omega) (by omega) (fun b hb => ?_)
        by_cases eb : b = w
        · rw [eb]; exact g
        · exact h3 b (by omega)
theorem p27 {l : Nat} (h : l ≤ 8) : (27 : Int) ^ l ≤ 282429536481 := by
  have : l = 0 ∨ l = 1 ∨ l = 2 ∨ l = 3 ∨ l = 4 ∨ l = 5 ∨ l = 6 ∨ l = 7 ∨ l = 8 := by omega
  rcases this with g | g | g | g | g | g | g | g | g <;> rw [g] <;> decide
/-- a name's number -/
theorem t_name {a s e : Nat} (ha : a ≤ 400) (hs : s + 10 < 1000000) (hl : e ≤ s + 8) (hse : s ≤ e) (hf : ∀ i, i < e - s → ltP (chT tb n (s + i))) : ∀ (m j : Nat) (M : gM), TX tb n M → s + j ≤ e → e < m + (s + j) → M.1 23 5 = i3 (e : Int) → M.2.1 26 a = i6 (nmV (fun i => chT tb n (s + i)) j) → wp (f_X7_letters_58 m (i3 (a : Int)) (i3 (s : Int)) (i3 ((e - s : Nat) : Int)) (i3 ((s + j : Nat) : Int)) M) (fun r N => r = i3 ((kwV (nmV (fun i => chT tb n (s + i)) (e - s)) : Nat) : Int) ∧ Fr [26] M N ∧ TX tb n N ∧ (∀ q, q ≠ a → N.2.1 26 q = M.2.1 26 q) ∧ N.2.1 26 a = i6 (nmV (fun i => chT tb n (s + i)) (e - s))) := by
  intro m
  induction m with
  | zero => intro j M _ h1 h2; omega
  | succ m ih =>
    intro j M hT h1 h2 hc hv
    have hn := hT.1
    rw [f_X7_letters_58, hc]
    simp (disch := omega) only [i3_le]
    refine wp_if (fun g => ?_) (fun g => ?_)
    · have ej : j = e - s := by omega
      subst ej
      rw [show (0 : Int32) = i3 ((0 : Nat) : Int) from rfl, t_words hT hs (by omega) hf FU 0 (by omega) (by rw [FU_s]; omega) (fun b hb => by omega), wp_some]
      exact ⟨rfl, Fr.rf, hT, fun _ _ => rfl, hv⟩
    · have hb := ch_r hT.2.1 (s + j)
      rw [ck_ok (by omega) (by omega) (by omega), t_char hT (by omega), g_b_some, ck_ok (by omega) (by omega) (by omega), wp_m, tn_n (by omega), hv, i3_64 (by omega) (by omega), i3_s1]
      have ev : i6 (nmV (fun i => chT tb n (s + i)) j) * 27 + i6 (chT tb n (s + j)) - 97 + 1 = i6 (nmV (fun i => chT tb n (s + i)) (j + 1)) := by
        rw [show (27 : Int64) = i6 27 from rfl, show (97 : Int64) = i6 97 from rfl, show (1 : Int64) = i6 1 from rfl, i6_mul, i6_add, i6_sub, i6_add, nmV]
        congr 1
        omega
      rw [ev, show ((s + j : Nat) : Int) + 1 = ((s + (j + 1) : Nat) : Int) by omega]
      refine wp_mono (ih (j + 1) (sL M 26 a (i6 (nmV (fun i => chT tb n (s + i)) (j + 1)))) hT.l (by omega) (by omega) hc (by rw [rL_e, uL_e])) (fun r N hN => ?_)
      obtain ⟨q1, q2, q3, q4, q5⟩ := hN
      exact ⟨q1, (Fr.rf.l (by decide)).tr q2, q3, fun q hq => by rw [q4 q hq, rL_e, uL_n hq], q5⟩
theorem t_numb {a s e : Nat} (ha : a ≤ 400) (hl : e ≤ s + 8) (hse : s ≤ e) : ∀ (m j : Nat) (M : gM), TX tb n M → s + 10 < 1000000 → s + j ≤ e → e < m + (s + j) → M.1 23 5 = i3 (e : Int) → M.2.1 26 a = i6 (dgV (fun i => chT tb n (s + i)) j) → wp (f_X7_digits_54 m (i3 (a : Int)) (i3 ((s + j : Nat) : Int)) M) (fun r N => r = i3 ((18 : Nat) : Int) ∧ Fr [26] M N ∧ TX tb n N ∧ (∀ q, q ≠ a → N.2.1 26 q = M.2.1 26 q) ∧ N.2.1 26 a = i6 (dgV (fun i => chT tb n (s + i)) (e - s))) := by
  intro m
  induction m with
  | zero => intro j M _ _ h1 h2; omega
  | succ m ih =>
    intro j M hT hs h1 h2 hc hv
    have hn := hT.1
    rw [f_X7_digits_54, hc]
    simp (disch := omega) only [i3_le]
    refine wp_if (fun g => ?_) (fun g => ?_)
    · have ej : j = e - s := by omega
      subst ej
      rw [wp_some]
      exact ⟨rfl, Fr.rf, hT, fun _ _ => rfl, hv⟩
    · have hb := ch_r hT.2.1 (s + j)
      rw [ck_ok (by omega) (by omega) (by omega), t_char hT (by omega), g_b_some, ck_ok (by omega) (by omega) (by omega), wp_m, tn_n (by omega), hv, i3_64 (by omega) (by omega), i3_s1]
      have ev : i6 (dgV (fun i => chT tb n (s + i)) j) * 10 + i6 (chT tb n (s + j)) - 48 = i6 (dgV (fun i => chT tb n (s + i)) (j + 1)) := by
        rw [show (10 : Int64) = i6 10 from rfl, show (48 : Int64) = i6 48 from rfl, i6_mul, i6_add, i6_sub, dgV]
        congr 1
        omega
      rw [ev, show ((s + j : Nat) : Int) + 1 = ((s + (j + 1) : Nat) : Int) by omega]
      refine wp_mono (ih (j + 1) (sL M 26 a (i6 (dgV (fun i => chT tb n (s + i)) (j + 1)))) hT.l hs (by omega) (by omega) hc (by rw [rL_e, uL_e])) (fun r N hN => ?_)
      obtain ⟨q1, q2, q3, q4, q5⟩ := hN
      exact ⟨q1, (Fr.rf.l (by decide)).tr q2, q3, fun q hq => by rw [q4 q hq, rL_e, uL_n hq], q5⟩
/-- one TOKEN of the class -/
theorem t_sign_20 {c : Int} (hc : -1 ≤ c ∧ c < 256) {d : Bool} {s : Nat} (hs : s < 1000000) (hT : TX tb n M) (h5 : M.1 23 5 = i3 (s : Int)) : wp (f_X7_sign_20 (i3 c) (b2i d) M) (fun r N => r = i3 ((sgK c d : Nat) : Int) ∧ Fr [23] M N ∧ TX tb n N ∧ (sgK c d < 30 → N.1 23 5 = i3 ((s + sgL (sgK c d) : Nat) : Int))) := by
  rw [f_X7_sign_20, wp_m, h5, i3_s1]
  have hM : Fr [23] M (sI M 23 5 (i3 ((s : Int) + 1))) := Fr.rf.i (by decide)
  have hT1 : TX tb n (sI M 23 5 (i3 ((s : Int) + 1))) := hT.c
  have h51 : (sI M 23 5 (i3 ((s : Int) + 1))).1 23 5 = i3 ((s + 1 : Nat) : Int) := by rw [rI_e, up_e]; rfl
  generalize sI M 23 5 (i3 ((s : Int) + 1)) = M1 at hM hT1 h51
  have two : ∀ k : Nat, wp (g_b (f_X7_second (i3 (k : Int)) M1) (fun r5 M4 => (some (r5, M4)))) (fun r N => r = i3 (k : Int) ∧ Fr [23] M N ∧ TX tb n N ∧ N.1 23 5 = i3 ((s + 2 : Nat) : Int)) := by
    intro k
    rw [f_X7_second, h51, g_m, g_b_some, wp_some, i3_s1]
    exact ⟨rfl, hM.i (by decide), hT1.c, by rw [rI_e, up_e]; rfl⟩
  have one : ∀ k : Nat, wp (some (i3 (k : Int), M1)) (fun r N => r = i3 (k : Int) ∧ Fr [23] M N ∧ TX tb n N ∧ N.1 23 5 = i3 ((s + 1 : Nat) : Int)) := by
    intro k
    rw [wp_some]
    exact ⟨rfl, hM, hT1, h51⟩
  have fin1 : ∀ k : Nat, k = sgK c d → sgL k = 1 → wp (some (i3 (k : Int), M1)) (fun r N => r = i3 ((sgK c d : Nat) : Int) ∧ Fr [23] M N ∧ TX tb n N ∧ (sgK c d < 30 → N.1 23 5 = i3 ((s + sgL (sgK c d) : Nat) : Int))) := by
    intro k e1 e2
    refine wp_mono (one k) (fun r N hN => ?_)
    rw [← e1, e2]
    exact ⟨hN.1, hN.2.1, hN.2.2.1, fun _ => hN.2.2.2⟩
  have fin2 : ∀ k : Nat, k = sgK c d → sgL k = 2 → wp (g_b (f_X7_second (i3 (k : Int)) M1) (fun r5 M4 => (some (r5, M4)))) (fun r N => r = i3 ((sgK c d : Nat) : Int) ∧ Fr [23] M N ∧ TX tb n N ∧ (sgK c d < 30 → N.1 23 5 = i3 ((s + sgL (sgK c d) : Nat) : Int))) := by
    intro k e1 e2
    refine wp_mono (two k) (fun r N hN => ?_)
    rw [← e1, e2]
    exact ⟨hN.1, hN.2.1, hN.2.2.1, fun _ => hN.2.2.2⟩
  have eq : ∀ v : Int, -1 ≤ v → v < 256 → (i3 c = i3 v ↔ c = v) := fun v v1 v2 => by rw [i3_eq (by omega) (by omega) (by omega) (by omega)]
  have dd : (b2i d = 0) ↔ ¬ d = true := by cases d <;> decide
  refine wp_if (fun g => ?_) (fun g1 => ?_)
  · obtain rfl := (eq 33 (by omega) (by omega)).1 g
    refine wp_if (fun g => ?_) (fun g => ?_)
    · exact fin1 31 (by simp [sgK, dd.1 g]) rfl
    · have : d = true := by rw [dd] at g; exact Classical.not_not.1 g
      exact fin2 25 (by simp [sgK, this]) rfl
  refine wp_if (fun g => ?_) (fun g2 => ?_)
  · obtain rfl := (eq 40 (by omega) (by omega)).1 g
    exact fin1 28 rfl rfl
  refine wp_if (fun g => ?_) (fun g3 => ?_)
  · obtain rfl := (eq 41 (by omega) (by omega)).1 g
    exact fin1 29 rfl rfl
  refine wp_if (fun g => ?_) (fun g4 => ?_)
  · obtain rfl := (eq 42 (by omega) (by omega)).1 g
    exact fin1 22 rfl rfl
  refine wp_if (fun g => ?_) (fun g5 => ?_)
  · obtain rfl := (eq 43 (by omega) (by omega)).1 g
    exact fin1 20 rfl rfl
  refine wp_if (fun g => ?_) (fun g6 => ?_)
  · obtain rfl := (eq 45 (by omega) (by omega)).1 g
    exact fin1 21 rfl rfl
  refine wp_if (fun g => ?_) (fun g7 => ?_)
  · obtain rfl := (eq 47 (by omega) (by omega)).1 g
    exact fin1 23 rfl rfl
  refine wp_if (fun g => ?_) (fun g8 => ?_)
  · obtain rfl := (eq 59 (by omega) (by omega)).1 g
    exact fin1 19 rfl rfl
  refine wp_if (fun g => ?_) (fun g9 => ?_)
  · obtain rfl := (eq 60 (by omega) (by omega)).1 g
    refine wp_if (fun g => ?_) (fun g => ?_)
    · exact fin1 26 (by simp [sgK, dd.1 g]) rfl
    · have : d = true := by rw [dd] at g; exact Classical.not_not.1 g
      exact fin2 27 (by simp [sgK, this]) rfl
  refine wp_if (fun g => ?_) (fun g10 => ?_)
  · obtain rfl := (eq 61 (by omega) (by omega)).1 g
    refine wp_if (fun g => ?_) (fun g => ?_)
    · exact fin1 31 (by simp [sgK, dd.1 g]) rfl
    · have : d = true := by rw [dd] at g; exact Classical.not_not.1 g
      exact fin2 24 (by simp [sgK, this]) rfl
  · have n1 : c ≠ 33 := fun e => g1 ((eq 33 (by omega) (by omega)).2 e)
    have n2 : c ≠ 40 := fun e => g2 ((eq 40 (by omega) (by omega)).2 e)
    have n3 : c ≠ 41 := fun e => g3 ((eq 41 (by omega) (by omega)).2 e)
    have n4 : c ≠ 42 := fun e => g4 ((eq 42 (by omega) (by omega)).2 e)
    have n5 : c ≠ 43 := fun e => g5 ((eq 43 (by omega) (by omega)).2 e)
    have n6 : c ≠ 45 := fun e => g6 ((eq 45 (by omega) (by omega)).2 e)
    have n7 : c ≠ 47 := fun e => g7 ((eq 47 (by omega) (by omega)).2 e)
    have n8 : c ≠ 59 := fun e => g8 ((eq 59 (by omega) (by omega)).2 e)
    have n9 : c ≠ 60 := fun e => g9 ((eq 60 (by omega) (by omega)).2 e)
    have n10 : c ≠ 61 := fun e => g10 ((eq 61 (by omega) (by omega)).2 e)
    exact fin1 31 (by simp [sgK, n1, n2, n3, n4, n5, n6, n7, n8, n9, n10]) rfl
theorem t_token (hT : TX tb n M) {a s : Nat} (ha : a ≤ 400) (hs : s ≤ n) (h5 : M.1 23 5 = i3 (s : Int)) (h26 : M.2.1 26 a = i6 0) : wp (f_X7_token (i3 (a : Int)) M) (fun r N => r = i3 (((tkT tb n s).1 : Nat) : Int) ∧ Fr [23, 26] M N ∧ TX tb n N ∧ (∀ q, q ≠ a → N.2.1 26 q = M.2.1 26 q) ∧ ((tkT tb n s).1 < 30 → N.1 23 5 = i3 (((tkT tb n s).2.1 : Nat) : Int)) ∧ ((tkT tb n s).1 < 19 → N.2.1 26 a = i6 (tkT tb n s).2.2)) := by
  have hn := hT.1
  have hb := ch_r hT.2.1 s
  have hb1 := ch_r hT.2.1 (s + 1)
  have hlt := rn_n (P := fun i => ltP (chT tb n i)) (n := n) (k := s) (fun i hi => ch_l hi) hs
  have hdg := rn_n (P := fun i => dgP (chT tb n i)) (n := n) (k := s) (fun i hi => ch_d hi) hs
  rw [f_X7_token, h5, t_char hT (by omega), g_b_some, show ((-1) : Int32) = i3 (-1) from rfl]
  simp (disch := omega) only [i3_eq]
  unfold tkT
  by_cases h0 : chT tb n s = -1
  · rw [if_pos h0, if_pos h0, wp_some]
    exact ⟨rfl, Fr.rf, hT, fun _ _ => rfl, fun g => by simp at g, fun g => by simp at g⟩
  rw [if_neg h0, if_neg h0, t_lett hb, g_b_some, b_if]
  by_cases h1 : ltP (chT tb n s)
  · rw [if_pos h1, if_pos h1, f_X7_letters, h5, g_v]
    obtain ⟨hr, hr2⟩ := hlt
    generalize rnF (fun i => ltP (chT tb n i)) s = e at *
    have hse := hr.1
    refine wp_b (fun r N => r = i3 (((if e - s ≤ 8 then kwV (nmV (fun i => chT tb n (s + i)) (e - s)) else 31) : Nat) : Int) ∧ Fr [23, 26] M N ∧ TX tb n N ∧ (∀ q, q ≠ a → N.2.1 26 q = M.2.1 26 q) ∧ N.1 23 5 = i3 (e : Int) ∧ (e - s ≤ 8 → N.2.1 26 a = i6 (nmV (fun i => chT tb n (s + i)) (e - s)))) (t_run_l (e := e) (fun N f hN hc => ?_) FU s M Fr.rf hT hr hs (by rw [FU_s]; omega) h5) (fun r N hN => ?_)
    · rw [f_X7_letters_39, hc, wp_v, iL8, i3_sub]
      simp (disch := omega) only [i3_le]
      have e26 : N.2.1 26 = M.2.1 26 := f.e2 (by decide)
      refine wp_if (fun g => ?_) (fun g => ?_)
      · rw [if_pos (by omega), show (e : Int) - s = ((e - s : Nat) : Int) by omega]
        refine wp_mono (t_name (j := 0) ha (by omega) (by omega) hse (fun i hi => hr.2.1 (s + i) (by omega) (by omega)) FU N hN (by omega) (by rw [FU_s]; omega) hc (by rw [e26, h26]; rfl)) (fun r N2 hN2 => ?_)
        obtain ⟨q1, q2, q3, q4, q5⟩ := hN2
        exact ⟨q1, (f.up (by decide)).tr (q2.up (by decide)), q3, fun q hq => by rw [q4 q hq, e26], by rw [q2.e1 (by decide), hc], fun _ => q5⟩
      · rw [wp_some, if_neg (by omega)]
        exact ⟨rfl, f.up (by decide), hN, fun q hq => by rw [e26], hc, fun g2 => by omega⟩
    · rw [wp_some]
      obtain ⟨q1, q2, q3, q4, q5, q6⟩ := hN
      by_cases g : e - s ≤ 8
      · rw [if_pos g] at q1 ⊢
        exact ⟨q1, q2, q3, q4, fun _ => q5, fun _ => q6 g⟩
      · rw [if_neg g] at q1 ⊢
        exact ⟨q1, q2, q3, q4, fun _ => q5, fun g => by simp at g⟩
  rw [if_neg h1, if_neg h1, t_digi hb, g_b_some, b_if]
  by_cases h2 : dgP (chT tb n s)
  · rw [if_pos h2, if_pos h2, f_X7_digits, h5, g_v]
    obtain ⟨hr, hr2⟩ := hdg
    generalize rnF (fun i => dgP (chT tb n i)) s = e at *
    have hse := hr.1
    refine wp_b (fun r N => r = i3 (((if e - s ≤ 4 then 18 else 31) : Nat) : Int) ∧ Fr [23, 26] M N ∧ TX tb n N ∧ (∀ q, q ≠ a → N.2.1 26 q = M.2.1 26 q) ∧ N.1 23 5 = i3 (e : Int) ∧ (e - s ≤ 4 → N.2.1 26 a = i6 (dgV (fun i => chT tb n (s + i)) (e - s)))) (t_run_d (e := e) (fun N f hN hc => ?_) FU s M Fr.rf hT hr hs (by rw [FU_s]; omega) h5) (fun r N hN => ?_)
    · rw [f_X7_digits_39, hc, iL4, i3_sub]
      simp (disch := omega) only [i3_le]
      have e26 : N.2.1 26 = M.2.1 26 := f.e2 (by decide)
      refine wp_if (fun g => ?_) (fun g => ?_)
      · rw [if_pos (by omega)]
        have := t_numb (tb := tb) (n := n) (a := a) (s := s) (e := e) ha (by omega) hse FU 0 N hN (by omega) (by omega) (by rw [FU_s]; omega) hc (by rw [e26, h26]; rfl)
        refine wp_mono this (fun r N2 hN2 => ?_)
        obtain ⟨q1, q2, q3, q4, q5⟩ := hN2
        exact ⟨q1, (f.up (by decide)).tr (q2.up (by decide)), q3, fun q hq => by rw [q4 q hq, e26], by rw [q2.e1 (by decide), hc], fun _ => q5⟩
      · rw [wp_some, if_neg (by omega)]
        exact ⟨rfl, f.up (by decide), hN, fun q hq => by rw [e26], hc, fun g2 => by omega⟩
    · rw [wp_some]
      obtain ⟨q1, q2, q3, q4, q5, q6⟩ := hN
      by_cases g : e - s ≤ 4
      · rw [if_pos g] at q1 ⊢
        exact ⟨q1, q2, q3, q4, fun _ => q5, fun _ => q6 g⟩
      · rw [if_neg g] at q1 ⊢
        exact ⟨q1, q2, q3, q4, fun _ => q5, fun g => by simp at g⟩
  rw [if_neg h2, if_neg h2, f_X7_sign, h5, i3_s1, show (s : Int) + 1 = ((s + 1 : Nat) : Int) by omega, t_char hT (by omega), g_b_some, show (61 : Int32) = i3 61 from rfl]
  simp (disch := omega) only [i3_eq]
  have key := fun d : Bool => t_sign_20 (c := chT tb n s) hb (d := d) (s := s) (by omega) hT h5
  have fin : ∀ d : Bool, d = decide (chT tb n (s + 1) = 61) → wp (g_b (f_X7_sign_20 (i3 (chT tb n s)) (b2i d) M) (fun r8 M7 => (some (r8, M7)))) (fun r N => r = i3 (((sgK (chT tb n s) (decide (chT tb n (s + 1) = 61)), s + sgL (sgK (chT tb n s) (decide (chT tb n (s + 1) = 61))), (0 : Int)).1 : Nat) : Int) ∧ Fr [23, 26] M N ∧ TX tb n N ∧ (∀ q, q ≠ a → N.2.1 26 q = M.2.1 26 q) ∧ ((sgK (chT tb n s) (decide (chT tb n (s + 1) = 61)), s + sgL (sgK (chT tb n s) (decide (chT tb n (s + 1) = 61))), (0 : Int)).1 < 30 → N.1 23 5 = i3 (((sgK (chT tb n s) (decide (chT tb n (s + 1) = 61)), s + sgL (sgK (chT tb n s) (decide (chT tb n (s + 1) = 61))), (0 : Int)).2.1 : Nat) : Int)) ∧ ((sgK (chT tb n s) (decide (chT tb n (s + 1) = 61)), s + sgL (sgK (chT tb n s) (decide (chT tb n (s + 1) = 61))), (0 : Int)).1 < 19 → N.2.1 26 a = i6 (sgK (chT tb n s) (decide (chT tb n (s + 1) = 61)), s + sgL (sgK (chT tb n s) (decide (chT tb n (s + 1) = 61))), (0 : Int)).2.2)) := by
    intro d hd
    refine wp_b _ (key d) (fun r N hN => ?_)
    rw [wp_some, ← hd]
    obtain ⟨q1, q2, q3, q4⟩ := hN
    have := sg_r (chT tb n s) d
    exact ⟨q1, q2.up (by decide), q3, fun q _ => by rw [q2.e2 (by decide)], q4, fun g => by have g : sgK (chT tb n s) d < 19 := g; omega⟩
  by_cases h6 : chT tb n (s + 1) = 61
  · rw [if_pos h6]
    exact fin true (by rw [decide_eq_true h6])
  · rw [if_neg h6]
    exact fin false (by rw [decide_eq_false h6])
/-- all TOKENS of the class -/
def CT (tb : Nat → Nat) (n J : Nat) (M : gM) : Prop := ∀ j : Nat, j < J → j ≤ 400 → (∀ i, i < j → kdT tb n i < 30) → M.1 24 j = i3 ((kdT tb n j : Nat) : Int) ∧ M.1 25 j = i3 ((stT tb n j : Nat) : Int) ∧ (kdT tb n j < 19 → M.2.1 26 j = i6 (vlT tb n j))
theorem st_n2 {j : Nat} (h : poT tb n j ≤ n) : rnE (fun i => blP (chT tb n i)) (poT tb n j) (stT tb n j) ∧ stT tb n j ≤ n := rn_n (P := fun i => blP (chT tb n i)) (fun i hi => ch_b hi) h
theorem t_scan_31 : ∀ (m j : Nat) (b : Bool) (M : gM), TX tb n M → j ≤ 401 → 401 < m + j → CT tb n j M → (b = true → (∀ i, i < j → kdT tb n i < 30) ∧ poT tb n j ≤ n ∧ M.1 23 5 = i3 ((poT tb n j : Nat) : Int)) → (b = false → ∃ i, i < j ∧ ¬ kdT tb n i < 30) → wp (f_X7_scan_31 m (b2i b) (i3 (j : Int)) M) (fun _ N => Fr [23, 24, 25, 26] M N ∧ TX tb n N ∧ CT tb n 401 N) := by
  intro m
  induction m with
  | zero => intro j b M _ h1 h2; omega
  | succ m ih =>
    intro j b M hT h1 h2 hC h3 h4
    rw [f_X7_scan_31, iL400]
    simp (disch := omega) only [i3_lt]
    refine wp_if (fun g => ?_) (fun g => ?_)
    · rw [wp_some]
      have e : j = 401 := by omega
      subst e
      exact ⟨Fr.rf, hT, hC⟩
    cases b with
    | false =>
      obtain ⟨i, i1, i2⟩ := h4 rfl
      rw [if_pos (show b2i false = 0 from rfl), wp_some]
      refine ⟨Fr.rf, hT, fun q q1 q2 q3 => ?_⟩
      by_cases e : q < j
      · exact hC q e q2 q3
      · exact absurd (q3 i (by omega)) i2
    | true =>
      obtain ⟨k1, k2, k3⟩ := h3 rfl
      obtain ⟨s1, s2⟩ := st_n2 k2
      have hn := hT.1
      rw [if_neg (by decide), f_X7_skipBlanks, k3, g_v]
      refine wp_b _ (t_skip FU (poT tb n j) M hT s1 k2 (by rw [FU_s]; omega) k3) (fun _ N hN => ?_)
      obtain ⟨f1, hT1, c1⟩ := hN
      rw [ck_ok (by omega) (by omega) (by omega), wp_m, ck_ok (by omega) (by omega) (by omega), wp_m, tn_n (by omega), c1]
      have hT2 : TX tb n (sL (sI N 25 j (i3 ((stT tb n j : Nat) : Int))) 26 j 0) := (hT1.o (by decide)).l
      have f2 : Fr [23, 24, 25, 26] M (sL (sI N 25 j (i3 ((stT tb n j : Nat) : Int))) 26 j 0) := ((f1.up (by decide)).i (by decide)).l (by decide)
      have c2 : (sL (sI N 25 j (i3 ((stT tb n j : Nat) : Int))) 26 j 0).1 23 5 = i3 ((stT tb n j : Nat) : Int) := by rw [rL_1, rI_n (by decide), c1]
      have e25 : ∀ q, (sL (sI N 25 j (i3 ((stT tb n j : Nat) : Int))) 26 j 0).1 25 q = if q = j then i3 ((stT tb n j : Nat) : Int) else M.1 25 q := by
        intro q
        rw [rL_1, rI_e, up_x, f1.e1 (by decide)]
      have e24 : (sL (sI N 25 j (i3 ((stT tb n j : Nat) : Int))) 26 j 0).1 24 = M.1 24 := by rw [rL_1, rI_n (by decide), f1.e1 (by decide)]
      have e26 : ∀ q, q ≠ j → (sL (sI N 25 j (i3 ((stT tb n j : Nat) : Int))) 26 j 0).2.1 26 q = M.2.1 26 q := by
        intro q hq
        rw [rL_e, uL_n hq, rI_2, f1.e2 (by decide)]
      have e26b : (sL (sI N 25 j (i3 ((stT tb n j : Nat) : Int))) 26 j 0).2.1 26 j = i6 0 := by rw [rL_e, uL_e]; rfl
      generalize sL (sI N 25 j (i3 ((stT tb n j : Nat) : Int))) 26 j 0 = M2 at hT2 f2 c2 e24 e25 e26 e26b ⊢
      refine wp_b _ (t_token hT2 (by omega) s2 c2 e26b) (fun r N3 hN => ?_)
      obtain ⟨rfl, f3, hT3, q4, q5, q6⟩ := hN
      rw [ck_ok (by omega) (by omega) (by omega), wp_m, ck_ok (by omega) (by omega) (by omega), ck_ok (by omega) (by omega) (by omega), rI_e, up_e, show (30 : Int32) = i3 30 from rfl, show (31 : Int32) = i3 31 from rfl, i3_s1]
      have hk := tk_r (tb := tb) s2 hT.2.1
      change (kdT tb n j ≤ 31 ∧ (kdT tb n j < 30 → _) ∧ _) at hk
      have hk1 := hk.1
      change wp (if i3 ((kdT tb n j : Nat) : Int) = i3 30 then _ else if i3 ((kdT tb n j : Nat) : Int) = i3 31 then _ else _) _
      simp (disch := omega) only [i3_eq]
      have f4 : Fr [23, 24, 25, 26] M (sI N3 24 j (i3 ((kdT tb n j : Nat) : Int))) := (f2.tr (f3.up (by decide))).i (by decide)
      have hT4 : TX tb n (sI N3 24 j (i3 ((kdT tb n j : Nat) : Int))) := hT3.o (by decide)
      have hC4 : CT tb n (j + 1) (sI N3 24 j (i3 ((kdT tb n j : Nat) : Int))) := by
        intro q g1 g2 g3
        by_cases eq : q = j
        · subst eq
          refine ⟨by rw [rI_e, up_e], ?_, fun g => ?_⟩
          · rw [rI_n (by decide), f3.e1 (by decide), e25, if_pos rfl]
          · rw [rI_2]; exact q6 g
        · obtain ⟨a1, a2, a3⟩ := hC q (by omega) g2 g3
          refine ⟨?_, ?_, fun g => ?_⟩
          · rw [rI_e, up_n eq, f3.e1 (by decide), e24, a1]
          · rw [rI_n (by decide), f3.e1 (by decide), e25, if_neg eq, a2]
          · rw [rI_2, q4 q eq, e26 q eq, a3 g]
      have go : ∀ b : Bool, b = decide (kdT tb n j < 30) → wp (f_X7_scan_31 m (b2i b) (i3 ((j : Int) + 1)) (sI N3 24 j (i3 ((kdT tb n j : Nat) : Int)))) (fun _ N => Fr [23, 24, 25, 26] M N ∧ TX tb n N ∧ CT tb n 401 N) := by
        intro b hb
        refine wp_mono (ih (j + 1) b _ hT4 (by omega) (by omega) hC4 (fun e => ?_) (fun e => ?_)) (fun _ N hN => ⟨f4.tr hN.1, hN.2⟩)
        · rw [e] at hb
          have hlt : kdT tb n j < 30 := of_decide_eq_true hb.symm
          refine ⟨fun i hi => ?_, (hk.2.1 hlt).2.2, ?_⟩
          · by_cases ei : i = j
            · rw [ei]; exact hlt
            · exact k1 i (by omega)
          · rw [rI_n (by decide)]
            exact q5 hlt
        · rw [e] at hb
          exact ⟨j, by omega, of_decide_eq_false hb.symm⟩
      refine wp_if (fun g5 => ?_) (fun g5 => wp_if (fun g6 => ?_) (fun g6 => ?_))
      · exact go false (by rw [decide_eq_false (by omega)])
      · exact go false (by rw [decide_eq_false (by omega)])
      · exact go true (by rw [decide_eq_true (by omega)])
theorem t_scan (hn : n ≤ 2000) (hb : ∀ i, i < n → tb i < 256) (ht : ∀ i : Nat, i < n → M.1 1 i = i3 (tb i)) : wp (f_X7_scan (i3 (n : Int)) M) (fun _ N => Fr [23, 24, 25, 26] M N ∧ CT tb n 401 N) := by
  have e23 : (sR M 23 3 1).2.2 23 3 = 1 := by rw [rR_e, uR_e]
  have f0 : Fr [23, 24, 25, 26] M (sR M 23 3 1) := fun q hq => by
    have : q ≠ 23 := fun e => hq (by rw [e]; decide)
    exact ⟨rfl, rfl, by rw [rR_n this]⟩
  have key : wp (f_X7_scan_31 FU (b2i true) (i3 ((0 : Nat) : Int)) (sI (sI (sR M 23 3 1) 23 4 (i3 (n : Int))) 23 5 0)) (fun _ N => Fr [23, 24, 25, 26] M N ∧ CT tb n 401 N) := by
    refine wp_mono (t_scan_31 (tb := tb) (n := n) FU 0 true _ ⟨hn, hb, ?_, ?_, fun i hi => ?_⟩ (by omega) (by rw [FU_s]; omega) (fun j hj => by omega) (fun _ => ⟨fun i hi => by omega, by rw [poT]; omega, ?_⟩) (fun g => by cases g)) (fun _ N hN => ⟨((f0.i (by decide)).i (by decide)).tr hN.1, hN.2.2⟩)
    · rw [rI_e, up_n (by decide), rI_e, up_e]
    · exact e23
    · rw [rI_n (by decide), rI_n (by decide)]
      exact ht i hi
    · rw [rI_e, up_e]; rfl
  rw [f_X7_scan, wp_m, iL2000]
  simp (disch := omega) only [i3_le]
  refine wp_if (fun g => ?_) (fun g => ?_)
  · have e : n = 2000 := by omega
    subst e
    rw [wp_m, wp_m]
    exact key
  · rw [wp_m, wp_m]
    exact key
end
