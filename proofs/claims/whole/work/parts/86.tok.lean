/-! ===== the text cut into TOKENS ===== -/
def i6 (z : Int) : Int64 := Int64.ofInt z
theorem i6_add (a b : Int) : i6 a + i6 b = i6 (a + b) := (Int64.ofInt_add a b).symm
theorem i6_sub (a b : Int) : i6 a - i6 b = i6 (a - b) := (Int64.ofInt_sub a b).symm
theorem i6_mul (a b : Int) : i6 a * i6 b = i6 (a * b) := (Int64.ofInt_mul a b).symm
theorem i6_eq {a b : Int} (h1 : -9223372036854775808 ≤ a) (h2 : a < 9223372036854775808) (h3 : -9223372036854775808 ≤ b) (h4 : b < 9223372036854775808) : (i6 a = i6 b) = (a = b) := by
  apply propext
  constructor
  · intro h
    have := congrArg Int64.toInt h
    unfold i6 at this
    rwa [Int64.toInt_ofInt_of_le h1 h2, Int64.toInt_ofInt_of_le h3 h4] at this
  · intro h; rw [h]
theorem i3_64 {z : Int} (h1 : -2147483648 ≤ z) (h2 : z < 2147483648) : (i3 z).toInt64 = i6 z := Int32.toInt64_ofInt (by exact h1) (Int.le_of_lt_add_one (by exact h2))
theorem i6_32 {z : Int} : (i6 z).toInt32 = i3 z := Int64.toInt32_ofInt
def chT (tb : Nat → Nat) (n i : Nat) : Int := if i < n then (tb i : Int) else -1
theorem ch_r {tb : Nat → Nat} {n : Nat} (h : ∀ i, i < n → tb i < 256) (i : Nat) : -1 ≤ chT tb n i ∧ chT tb n i < 256 := by
  unfold chT
  split
  · next g => have := h i g; omega
  · omega
def blP (c : Int) : Prop := c = 32 ∨ c = 9 ∨ c = 10 ∨ c = 13
def ltP (c : Int) : Prop := 97 ≤ c ∧ c ≤ 122
def dgP (c : Int) : Prop := 48 ≤ c ∧ c ≤ 57
/-- a run of signs of one sort from k to e -/
def rnE (P : Nat → Prop) (k e : Nat) : Prop := k ≤ e ∧ (∀ i, k ≤ i → i < e → P i) ∧ ¬ P e
theorem rn_s {P : Nat → Prop} {k e : Nat} (h : rnE P k e) (hp : P k) : rnE P (k + 1) e := by
  obtain ⟨h1, h2, h3⟩ := h
  refine ⟨?_, fun i g1 g2 => h2 i (by omega) g2, h3⟩
  rcases Nat.lt_or_ge k e with g | g
  · omega
  · have : e = k := by omega
    subst this
    exact absurd hp h3
theorem rn_t {P : Nat → Prop} {k e : Nat} (h : rnE P k e) (hp : ¬ P k) : e = k := by
  obtain ⟨h1, h2, h3⟩ := h
  rcases Nat.lt_or_ge k e with g | g
  · exact absurd (h2 k (Nat.le_refl _) g) hp
  · omega
theorem rn_x {P : Nat → Prop} {m : Nat} (h : ∀ i, m ≤ i → ¬ P i) : ∀ d k, d + k = m → ∃ e, e ≤ m ∧ rnE P k e := by
  intro d
  induction d with
  | zero => intro k hk; exact ⟨k, by omega, Nat.le_refl _, fun i g1 g2 => by omega, h k (by omega)⟩
  | succ d ih =>
    intro k hk
    by_cases hp : P k
    · obtain ⟨e, g1, g2, g3, g4⟩ := ih (k + 1) (by omega)
      refine ⟨e, g1, by omega, fun i a1 a2 => ?_, g4⟩
      by_cases e1 : i = k
      · rw [e1]; exact hp
      · exact g3 i (by omega) a2
    · exact ⟨k, by omega, Nat.le_refl _, fun i g1 g2 => by omega, hp⟩
noncomputable def rnF (P : Nat → Prop) (k : Nat) : Nat := @dite _ (∃ e, rnE P k e) (Classical.propDecidable _) (fun h => Classical.choose h) (fun _ => k)
theorem rn_u {P : Nat → Prop} {k e e' : Nat} (h : rnE P k e) (h' : rnE P k e') : e = e' := by
  rcases Nat.lt_trichotomy e e' with g | g | g
  · exact absurd (h'.2.1 e h.1 g) h.2.2
  · exact g
  · exact absurd (h.2.1 e' h'.1 g) h'.2.2
theorem rn_e {P : Nat → Prop} {k e : Nat} (h : rnE P k e) : rnF P k = e := by
  unfold rnF
  rw [dif_pos ⟨e, h⟩]
  exact rn_u (Classical.choose_spec (⟨e, h⟩ : ∃ e, rnE P k e)) h
/-! names as numbers -/
def nmV (f : Nat → Int) : Nat → Int
  | 0 => 0
  | j + 1 => nmV f j * 27 + (f j - 96)
def dgV (f : Nat → Int) : Nat → Int
  | 0 => 0
  | j + 1 => dgV f j * 10 + (f j - 48)
theorem nm_b {f : Nat → Int} : ∀ m, (∀ i, i < m → ltP (f i)) → 0 ≤ nmV f m ∧ nmV f m < 27 ^ m ∧ (0 < m → 0 < nmV f m) := by
  intro m
  induction m with
  | zero => intro _; exact ⟨by rw [nmV]; omega, by rw [nmV]; decide, fun h => by omega⟩
  | succ m ih =>
    intro h
    obtain ⟨h1, h2, -⟩ := ih (fun i hi => h i (by omega))
    have h3 := h m (by omega)
    unfold ltP at h3
    have h4 : (27 : Int) ^ (m + 1) = 27 ^ m * 27 := by rw [Int.pow_succ]
    rw [nmV, h4]
    generalize (27 : Int) ^ m = q at *
    omega
theorem nm_i {f g : Nat → Int} : ∀ m l, (∀ i, i < m → ltP (f i)) → (∀ i, i < l → ltP (g i)) → nmV f m = nmV g l → m = l ∧ ∀ i, i < m → f i = g i := by
  intro m
  induction m with
  | zero =>
    intro l _ hg e
    have := (nm_b l hg).2.2
    rw [nmV] at e
    exact ⟨by omega, fun i hi => by omega⟩
  | succ m ih =>
    intro l hf hg e
    cases l with
    | zero =>
      have := (nm_b (m + 1) hf).2.2 (by omega)
      rw [e, nmV] at this
      omega
    | succ l =>
      have a := hf m (by omega)
      have b := hg l (by omega)
      unfold ltP at a b
      rw [nmV, nmV] at e
      obtain ⟨e1, e2⟩ := ih l (fun i hi => hf i (by omega)) (fun i hi => hg i (by omega)) (by omega)
      have e3 : f m = g l := by omega
      refine ⟨by omega, fun i hi => ?_⟩
      by_cases ei : i = m
      · subst ei; rw [e3, e1]
      · exact e2 i (by omega)
theorem nm_c {f g : Nat → Int} : ∀ m, (∀ i, i < m → f i = g i) → nmV f m = nmV g m := by
  intro m
  induction m with
  | zero => intro _; rfl
  | succ m ih => intro h; rw [nmV, nmV, ih (fun i hi => h i (by omega)), h m (by omega)]
theorem dg_b {f : Nat → Int} : ∀ m, (∀ i, i < m → dgP (f i)) → 0 ≤ dgV f m ∧ dgV f m < 10 ^ m := by
  intro m
  induction m with
  | zero => intro _; exact ⟨by rw [dgV]; omega, by rw [dgV]; decide⟩
  | succ m ih =>
    intro h
    obtain ⟨h1, h2⟩ := ih (fun i hi => h i (by omega))
    have h3 := h m (by omega)
    unfold dgP at h3
    have h4 : (10 : Int) ^ (m + 1) = 10 ^ m * 10 := by rw [Int.pow_succ]
    rw [dgV, h4]
    generalize (10 : Int) ^ m = q at *
    omega
def vwT (w : Nat) : Int := [47, 239882, 10557034, 330758, 153623, 326192, 365666, 459383, 119360, 830, 4147840, 261064536, 249, 123, 423, 1111, 10631].getD w 0
def wln (w : Nat) : Nat := [2, 4, 5, 4, 4, 4, 4, 4, 4, 3, 5, 6, 2, 2, 2, 3, 3].getD w 0
def wcI (k : Nat) : Int := (wch k).toInt
theorem wc_r (k : Nat) : -2147483648 ≤ wcI k ∧ wcI k < 2147483648 := ⟨Int32.le_toInt _, Int32.toInt_lt _⟩
theorem wc_e (k : Nat) : wch k = i3 (wcI k) := (i3_self _).symm
theorem vw_n : ∀ w : Nat, w < 17 → nmV (fun i => wcI (6 * w + i)) (wln w) = vwT w := by decide +kernel
theorem vw_l : ∀ w : Nat, w < 17 → ∀ i : Nat, i < wln w → 97 ≤ wcI (6 * w + i) ∧ wcI (6 * w + i) ≤ 122 := by decide +kernel
theorem vw_b : ∀ w : Nat, w < 17 → ∀ i : Nat, i < 6 → wln w ≤ i → wcI (6 * w + i) = 32 := by decide +kernel
theorem vw_6 : ∀ w : Nat, w < 17 → wln w ≤ 6 := by decide +kernel
theorem vw_d : ∀ w : Nat, w < 17 → ∀ b : Nat, b < w → vwT w ≠ vwT b := by decide +kernel
noncomputable def kwV (v : Int) : Nat := (leA (fun w => v = vwT w) 17 17).toNat
theorem kw_e {v : Int} {w : Nat} (h : w < 17) (e : v = vwT w) : kwV v = w := by
  unfold kwV
  rw [leA_e (P := fun w => v = vwT w) h e (fun b hb g => vw_d w h b hb (e.symm.trans g)), Int.toNat_natCast]
theorem kw_n {v : Int} (h : ∀ w, w < 17 → v ≠ vwT w) : kwV v = 17 := by
  unfold kwV
  rw [leA_d (P := fun w => v = vwT w) h]
  rfl
theorem kw_r (v : Int) : kwV v ≤ 17 := by
  by_cases h : ∃ w, w < 17 ∧ v = vwT w
  · obtain ⟨w, h1, h2⟩ := h
    rw [kw_e h1 h2]; omega
  · rw [kw_n (fun w h1 h2 => h ⟨w, h1, h2⟩)]; omega
def wdE (f : Nat → Int) (m w i : Nat) : Prop := (if i < m then f i else 32) = wcI (6 * w + i)
theorem wd_v {f : Nat → Int} {m w : Nat} (hw : w < 17) (hf : ∀ i, i < m → ltP (f i)) : (m ≤ 6 ∧ ∀ i, i < 6 → wdE f m w i) ↔ nmV f m = vwT w := by
  have h6 := vw_6 w hw
  constructor
  · rintro ⟨h1, h2⟩
    have e : m = wln w := by
      rcases Nat.lt_trichotomy m (wln w) with g | g | g
      · have a := h2 m (by omega)
        unfold wdE at a
        rw [if_neg (by omega)] at a
        have := vw_l w hw m g
        omega
      · exact g
      · have a := h2 (wln w) (by omega)
        unfold wdE at a
        rw [if_pos g, vw_b w hw _ (by omega) (Nat.le_refl _)] at a
        have := hf _ g
        unfold ltP at this
        omega
    rw [← vw_n w hw, ← e]
    refine nm_c m (fun i hi => ?_)
    have a := h2 i (by omega)
    unfold wdE at a
    rwa [if_pos hi] at a
  · intro h
    rw [← vw_n w hw] at h
    obtain ⟨e1, e2⟩ := nm_i m (wln w) hf (fun i hi => vw_l w hw i hi) h
    refine ⟨by omega, fun i hi => ?_⟩
    unfold wdE
    by_cases g : i < m
    · rw [if_pos g]; exact e2 i g
    · rw [if_neg g, vw_b w hw i hi (by omega)]
/-! one TOKEN -/
def sgK (c : Int) (d : Bool) : Nat := if c = 59 then 19 else if c = 43 then 20 else if c = 45 then 21 else if c = 42 then 22 else if c = 47 then 23 else if c = 40 then 28 else if c = 41 then 29 else if c = 61 then (if d then 24 else 31) else if c = 33 then (if d then 25 else 31) else if c = 60 then (if d then 27 else 26) else 31
def sgL (k : Nat) : Nat := if k = 24 ∨ k = 25 ∨ k = 27 then 2 else 1
noncomputable def tkT (tb : Nat → Nat) (n s : Nat) : Nat × Nat × Int :=
  @ite _ (chT tb n s = -1) (Classical.propDecidable _) (30, s, 0)
    (@ite _ (ltP (chT tb n s)) (Classical.propDecidable _)
      (if rnF (fun i => ltP (chT tb n i)) s - s ≤ 8 then (kwV (nmV (fun i => chT tb n (s + i)) (rnF (fun i => ltP (chT tb n i)) s - s)), rnF (fun i => ltP (chT tb n i)) s, nmV (fun i => chT tb n (s + i)) (rnF (fun i => ltP (chT tb n i)) s - s)) else (31, rnF (fun i => ltP (chT tb n i)) s, 0))
      (@ite _ (dgP (chT tb n s)) (Classical.propDecidable _)
        (if rnF (fun i => dgP (chT tb n i)) s - s ≤ 4 then (18, rnF (fun i => dgP (chT tb n i)) s, dgV (fun i => chT tb n (s + i)) (rnF (fun i => dgP (chT tb n i)) s - s)) else (31, rnF (fun i => dgP (chT tb n i)) s, 0))
        (sgK (chT tb n s) (decide (chT tb n (s + 1) = 61)), s + sgL (sgK (chT tb n s) (decide (chT tb n (s + 1) = 61))), 0)))
noncomputable def poT (tb : Nat → Nat) (n : Nat) : Nat → Nat
  | 0 => 0
  | j + 1 => (tkT tb n (rnF (fun i => blP (chT tb n i)) (poT tb n j))).2.1
noncomputable def stT (tb : Nat → Nat) (n j : Nat) : Nat := rnF (fun i => blP (chT tb n i)) (poT tb n j)
noncomputable def kdT (tb : Nat → Nat) (n j : Nat) : Nat := (tkT tb n (stT tb n j)).1
noncomputable def vlT (tb : Nat → Nat) (n j : Nat) : Int := (tkT tb n (stT tb n j)).2.2
theorem ch_e {tb : Nat → Nat} {n i : Nat} (h : n ≤ i) : chT tb n i = -1 := if_neg (by omega)
theorem ch_l {tb : Nat → Nat} {n i : Nat} (h : ltP (chT tb n i)) : i < n := by
  rcases Nat.lt_or_ge i n with g | g
  · exact g
  · rw [ch_e g] at h; unfold ltP at h; omega
theorem ch_d {tb : Nat → Nat} {n i : Nat} (h : dgP (chT tb n i)) : i < n := by
  rcases Nat.lt_or_ge i n with g | g
  · exact g
  · rw [ch_e g] at h; unfold dgP at h; omega
theorem ch_b {tb : Nat → Nat} {n i : Nat} (h : blP (chT tb n i)) : i < n := by
  rcases Nat.lt_or_ge i n with g | g
  · exact g
  · rw [ch_e g] at h; unfold blP at h; omega
theorem rn_n {P : Nat → Prop} {n k : Nat} (h : ∀ i, P i → i < n) (hk : k ≤ n) : rnE P k (rnF P k) ∧ rnF P k ≤ n := by
  obtain ⟨e, h1, h2⟩ := rn_x (P := P) (m := n) (fun i hi hp => by have := h i hp; omega) (n - k) k (by omega)
  rw [rn_e h2]
  exact ⟨h2, h1⟩
theorem sg_r (c : Int) (d : Bool) : 19 ≤ sgK c d ∧ sgK c d ≤ 31 ∧ sgK c d ≠ 30 := by
  unfold sgK
  cases d <;> (repeat' split) <;> omega
/-- where a TOKEN ends, and how far kinds go -/
theorem tk_r {tb : Nat → Nat} {n s : Nat} (hs : s ≤ n) (hb : ∀ i, i < n → tb i < 256) : (tkT tb n s).1 ≤ 31 ∧ ((tkT tb n s).1 < 30 → s < n ∧ s < (tkT tb n s).2.1 ∧ (tkT tb n s).2.1 ≤ n) ∧ ((tkT tb n s).1 = 18 → 0 ≤ (tkT tb n s).2.2 ∧ (tkT tb n s).2.2 < 10000) ∧ ((tkT tb n s).1 = 30 → s = n) := by
  have hlt := rn_n (P := fun i => ltP (chT tb n i)) (n := n) (k := s) (fun i hi => ch_l hi) hs
  have hdg := rn_n (P := fun i => dgP (chT tb n i)) (n := n) (k := s) (fun i hi => ch_d hi) hs
  unfold tkT
  by_cases h0 : chT tb n s = -1
  · rw [if_pos h0]
    have : ¬ s < n := by
      intro g
      unfold chT at h0
      rw [if_pos g] at h0
      omega
    exact ⟨by simp, fun g => by simp at g, fun g => by simp at g, fun _ => by omega⟩
  · have hsn : s < n := by
      rcases Nat.lt_or_ge s n with g | g
      · exact g
      · exact absurd (ch_e g) h0
    rw [if_neg h0]
    by_cases h1 : ltP (chT tb n s)
    · rw [if_pos h1]
      have := rn_s hlt.1 h1
      have h2 := this.1
      generalize rnF (fun i => ltP (chT tb n i)) s = e at *
      by_cases h3 : e - s ≤ 8
      · rw [if_pos h3]
        have := kw_r (nmV (fun i => chT tb n (s + i)) (e - s))
        refine ⟨?_, fun _ => ⟨hsn, h2, hlt.2⟩, fun g => ?_, fun g => ?_⟩
        · show kwV _ ≤ 31; omega
        · have g : kwV (nmV (fun i => chT tb n (s + i)) (e - s)) = 18 := g; omega
        · have g : kwV (nmV (fun i => chT tb n (s + i)) (e - s)) = 30 := g; omega
      · rw [if_neg h3]
        exact ⟨by simp, fun g => by simp at g, fun g => by simp at g, fun g => by simp at g⟩
    · rw [if_neg h1]
      by_cases h2 : dgP (chT tb n s)
      · rw [if_pos h2]
        have := rn_s hdg.1 h2
        have h4 := this.1
        generalize rnF (fun i => dgP (chT tb n i)) s = e at *
        by_cases h3 : e - s ≤ 4
        · rw [if_pos h3]
          have hd := dg_b (f := fun i => chT tb n (s + i)) (e - s) (fun i hi => hdg.1.2.1 (s + i) (by omega) (by omega))
          have h10 : (10 : Int) ^ (e - s) ≤ 10000 := by
            have : e - s = 0 ∨ e - s = 1 ∨ e - s = 2 ∨ e - s = 3 ∨ e - s = 4 := by omega
            rcases this with g | g | g | g | g <;> rw [g] <;> decide
          refine ⟨by simp, fun _ => ⟨hsn, h4, hdg.2⟩, fun _ => ⟨hd.1, ?_⟩, fun g => by simp at g⟩
          show dgV _ _ < 10000
          omega
        · rw [if_neg h3]
          exact ⟨by simp, fun g => by simp at g, fun g => by simp at g, fun g => by simp at g⟩
      · rw [if_neg h2]
        have hr := sg_r (chT tb n s) (decide (chT tb n (s + 1) = 61))
        have hl : sgL (sgK (chT tb n s) (decide (chT tb n (s + 1) = 61))) = 1 ∨ (sgL (sgK (chT tb n s) (decide (chT tb n (s + 1) = 61))) = 2 ∧ s + 1 < n) := by
          by_cases h5 : chT tb n (s + 1) = 61
          · have : s + 1 < n := by
              rcases Nat.lt_or_ge (s + 1) n with g | g
              · exact g
              · rw [ch_e g] at h5; omega
            unfold sgL
            split <;> omega
          · left
            rw [decide_eq_false h5]
            unfold sgL sgK
            simp only [Bool.false_eq_true, if_false]
            repeat' split
            all_goals first
              | rfl
              | omega
        generalize sgK (chT tb n s) (decide (chT tb n (s + 1) = 61)) = k at *
        refine ⟨hr.2.1, fun _ => ⟨hsn, ?_, ?_⟩, fun g => ?_, fun g => absurd g hr.2.2⟩
        · show s < s + sgL k; omega
        · show s + sgL k ≤ n; omega
        · have g : k = 18 := g; omega
