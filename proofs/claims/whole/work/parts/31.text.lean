/-! ===== what a text tells, as the game sees it ===== -/
abbrev V6 (α : Type) : Type := Int32 → Int32 → Int32 → Int32 → Int32 → Int32 → α
abbrev tR : Type := (Int × Int × Int) × (Nat × (Nat → Int) × (Nat → Int) × (Nat → V6 Bool)) × (Nat × (Nat → Int × Int × Int × Int) × (Nat → V6 Bool)) × (Nat × (Nat → Nat) × (Nat → V6 Bool)) × V6 (Option Int32) × V6 (Option Int32)
abbrev rLen (R : tR) : Int := R.1.1
abbrev rWid (R : tR) : Int := R.1.2.1
abbrev rFas (R : tR) : Int := R.1.2.2
abbrev rNa (R : tR) : Nat := R.2.1.1
abbrev rPu (R : tR) : Nat → Int := R.2.1.2.1
abbrev rSt (R : tR) : Nat → Int := R.2.1.2.2.1
abbrev rCA (R : tR) : Nat → V6 Bool := R.2.1.2.2.2
abbrev rNg (R : tR) : Nat := R.2.2.1.1
abbrev rGu (R : tR) : Nat → Int × Int × Int × Int := R.2.2.1.2.1
abbrev rCG (R : tR) : Nat → V6 Bool := R.2.2.1.2.2
abbrev rNr (R : tR) : Nat := R.2.2.2.1.1
abbrev rRa (R : tR) : Nat → Nat := R.2.2.2.1.2.1
abbrev rCR (R : tR) : Nat → V6 Bool := R.2.2.2.1.2.2
abbrev rSw (R : tR) : V6 (Option Int32) := R.2.2.2.2.1
abbrev rLe (R : tR) : V6 (Option Int32) := R.2.2.2.2.2
/-- the bounds that every text without a FAULT keeps -/
def tOk (R : tR) : Prop := (1 ≤ rLen R ∧ rLen R ≤ 8 ∧ 1 ≤ rWid R ∧ rWid R ≤ 10 ∧ 1 ≤ rFas R ∧ rFas R ≤ 5) ∧ (1 ≤ rNa R ∧ rNa R ≤ 6 ∧ rNg R ≤ 8 ∧ rNr R ≤ 12) ∧ (∀ a, a < rNa R → -9 ≤ rPu R a ∧ rPu R a ≤ 9 ∧ -1 ≤ rSt R a ∧ rSt R a ≤ 1) ∧ (∀ k, k < rNg R → 0 ≤ (rGu R k).1 ∧ (rGu R k).1 ≤ 8 ∧ 0 ≤ (rGu R k).2.1 ∧ (rGu R k).2.1 ≤ 8 ∧ -6 ≤ (rGu R k).2.2.1 ∧ (rGu R k).2.2.1 ≤ (rGu R k).2.2.2 ∧ (rGu R k).2.2.2 ≤ 6) ∧ (∀ r, r < rNr R → rRa R r < rNa R)
def gAt (s : Nat) : Int := ((s / 231 : Nat) : Int)
def gLe (s : Nat) : Int := ((s / 11 % 21 : Nat) : Int) - 10
def gSw (s : Nat) : Int := ((s % 11 : Nat) : Int) - 5
def inR (R : tR) (a l s : Int) : Prop := 0 ≤ a ∧ a ≤ rLen R ∧ -rWid R ≤ l ∧ l ≤ rWid R ∧ -rFas R ≤ s ∧ s ≤ rFas R
def nuZ (a l s : Int) : Int := (a * 21 + l + 10) * 11 + s + 5
def stP (R : tR) (z : Int) : Prop := 0 ≤ z ∧ z < 2079 ∧ inR R (gAt z.toNat) (gLe z.toNat) (gSw z.toNat)
def ovP (R : tR) (s : Nat) : Prop := gAt s = rLen R
noncomputable def b_ (p : Prop) : Bool := @decide p (Classical.propDecidable p)
theorem b_t {p : Prop} (h : p) : b_ p = true := by unfold b_; exact @decide_eq_true _ (Classical.propDecidable p) h
theorem b_f {p : Prop} (h : ¬ p) : b_ p = false := by unfold b_; exact @decide_eq_false _ (Classical.propDecidable p) h
theorem b_i {p : Prop} : (b_ p = true) = p := by
  by_cases h : p
  · rw [b_t h]; simp [h]
  · rw [b_f h]; simp [h]
theorem b_n {p : Prop} : (b_ p = false) = ¬ p := by
  by_cases h : p
  · rw [b_t h]; simp [h]
  · rw [b_f h]; simp [h]
theorem b_if {p : Prop} {α : Type} {x y : α} : (if b_ p = true then x else y) = @ite _ p (Classical.propDecidable p) x y := by
  by_cases h : p
  · rw [b_t h, if_pos rfl, if_pos h]
  · rw [b_f h, if_neg (by decide), if_neg h]
theorem b_e {p q : Prop} (h : p ↔ q) : b_ p = b_ q := by rw [propext h]
def atS {α : Type} (φ : V6 α) (s : Nat) (pu g p : Int) : α := φ (i3 (gAt s)) (i3 (gLe s)) (i3 (gSw s)) (i3 pu) (i3 g) (i3 p)
/-- ACT a CAN be done in STATE s -/
def caP (R : tR) (p : Int) (s a : Nat) : Prop := a < rNa R ∧ ¬ ovP R s ∧ atS (rCA R a) s (rPu R a) 0 p = true
def guP (R : tR) (p : Int) (s k : Nat) : Prop := (rGu R k).1 ≤ gAt s ∧ gAt s ≤ (rGu R k).2.1 ∧ atS (rCG R k) s 0 0 p = true
/-- the gusts of a STATE by the first k GUSTS -/
noncomputable def ghR (R : tR) (p : Int) (s : Nat) : Nat → Int × Int
  | 0 => (0, 0)
  | k + 1 => @ite _ (guP R p s k) (Classical.propDecidable _) ((rGu R k).2.2) (ghR R p s k)
noncomputable def loR (R : tR) (p : Int) (s : Nat) : Int := (ghR R p s (rNg R)).1
noncomputable def hiR (R : tR) (p : Int) (s : Nat) : Int := (ghR R p s (rNg R)).2
/-- where a BEAT leads: a STATE, or -2 -/
noncomputable def tgR (R : tR) (s a : Nat) (sw le : Int32) : Int :=
  @ite _ (inR R (max 0 (gAt s + rSt R a)) le.toInt sw.toInt) (Classical.propDecidable _) (nuZ (max 0 (gAt s + rSt R a)) le.toInt sw.toInt) (-2)
noncomputable def nxR (R : tR) (p : Int) (s a : Nat) (g : Int) : Int := match atS (rSw R) s (rPu R a) g p with
  | none => -2
  | some sw => match rLe R (i3 (gAt s)) (i3 (gLe s)) sw (i3 (rPu R a)) (i3 g) (i3 p) with
    | none => -2
    | some le => tgR R s a sw le
theorem gh_r {R : tR} {p : Int} {s : Nat} (hR : tOk R) : ∀ k, k ≤ rNg R → -6 ≤ (ghR R p s k).1 ∧ (ghR R p s k).1 ≤ (ghR R p s k).2 ∧ (ghR R p s k).2 ≤ 6 := by
  intro k
  induction k with
  | zero => intro _; simp [ghR]
  | succ k ih =>
    intro hk
    have h := hR.2.2.2.1 k (by omega)
    unfold ghR
    split
    · exact ⟨h.2.2.2.2.1, h.2.2.2.2.2.1, h.2.2.2.2.2.2⟩
    · exact ih (by omega)
theorem lh_r {R : tR} {p : Int} {s : Nat} (hR : tOk R) : -6 ≤ loR R p s ∧ loR R p s ≤ hiR R p s ∧ hiR R p s ≤ 6 := gh_r hR _ (Nat.le_refl _)
theorem gx (s : Nat) (h : s < 2079) : 0 ≤ gAt s ∧ gAt s ≤ 8 ∧ -10 ≤ gLe s ∧ gLe s ≤ 10 ∧ -5 ≤ gSw s ∧ gSw s ≤ 5 := by
  unfold gAt gLe gSw
  omega
theorem gn (s : Nat) : nuZ (gAt s) (gLe s) (gSw s) = s := by
  unfold gAt gLe gSw nuZ
  omega
theorem ng {R : tR} {a l s : Int} (hR : tOk R) (h : inR R a l s) : 0 ≤ nuZ a l s ∧ nuZ a l s < 2079 ∧ gAt (nuZ a l s).toNat = a ∧ gLe (nuZ a l s).toNat = l ∧ gSw (nuZ a l s).toNat = s := by
  obtain ⟨⟨h1, h2, h3, h4, h5, h6⟩, -⟩ := hR
  obtain ⟨a1, a2, a3, a4, a5, a6⟩ := h
  unfold gAt gLe gSw nuZ
  omega
theorem ng_st {R : tR} {a l s : Int} (hR : tOk R) (h : inR R a l s) : stP R (nuZ a l s) := by
  obtain ⟨h1, h2, h3, h4, h5⟩ := ng hR h
  refine ⟨h1, h2, ?_⟩
  rw [h3, h4, h5]
  exact h
theorem nx_r {R : tR} (hR : tOk R) (p : Int) (s a : Nat) (g : Int) : nxR R p s a g = -2 ∨ stP R (nxR R p s a g) := by
  unfold nxR
  split
  · exact Or.inl rfl
  · split
    · exact Or.inl rfl
    · unfold tgR
      split
      · next h => exact Or.inr (ng_st hR h)
      · exact Or.inl rfl
/-! ===== the class's rope ===== -/
/-- a COND of the class by its place -/
def Cond1 (M : gM) (t : Nat) (c : Int32) (φ : V6 Bool) : Prop := ∀ N : gM, N.1 (t + 1) = M.1 (t + 1) → wp (f_X2_holds (t + 1) c N) (fun r N' => r = φ (N.1 30 0) (N.1 30 1) (N.1 30 2) (N.1 30 3) (N.1 30 4) (N.1 30 5) ∧ Fr [28, 29] N N')
def Run1 (M : gM) (t : Nat) (c : Int32) (φ : V6 (Option Int32)) : Prop := ∀ N : gM, N.1 (t + 1) = M.1 (t + 1) → wp (f_X2_run (t + 1) c N) (fun _ N' => Fr [28, 29] N N' ∧ match φ (N.1 30 0) (N.1 30 1) (N.1 30 2) (N.1 30 3) (N.1 30 4) (N.1 30 5) with
  | none => N'.1 28 2 = 1
  | some v => N'.1 28 2 = 0 ∧ N'.1 29 0 = v)
def Law1 (M : gM) (t : Nat) (c : Int32) (d φ : V6 (Option Int32)) : Prop := (c = -1 ∧ φ = d) ∨ (c ≠ -1 ∧ Run1 M t c φ)
def dSw : V6 (Option Int32) := fun _ l s pu g p => some (s + l / 4 + g - pu * p)
def dLe : V6 (Option Int32) := fun _ l s _ _ _ => some (l + s)
def Rp1 (M : gM) (t : Nat) (R : tR) : Prop := (M.1 t 0 = i3 (rLen R) ∧ M.1 t 1 = i3 (rWid R) ∧ M.1 t 2 = i3 (rFas R) ∧ M.1 t 5 = i3 (rNa R) ∧ M.1 t 6 = i3 (rNg R) ∧ M.1 t 7 = i3 (rNr R)) ∧ (∀ a, a < rNa R → M.1 (t + 3) a = i3 (rPu R a) ∧ M.1 (t + 4) a = i3 (rSt R a) ∧ Cond1 M t (M.1 (t + 5) a) (rCA R a)) ∧ (∀ k, k < rNg R → M.1 (t + 6) (5 * k) = i3 (rGu R k).1 ∧ M.1 (t + 6) (5 * k + 1) = i3 (rGu R k).2.1 ∧ M.1 (t + 6) (5 * k + 2) = i3 (rGu R k).2.2.1 ∧ M.1 (t + 6) (5 * k + 3) = i3 (rGu R k).2.2.2 ∧ Cond1 M t (M.1 (t + 6) (5 * k + 4)) (rCG R k)) ∧ (∀ r, r < rNr R → M.1 (t + 8) r = i3 (rRa R r) ∧ Cond1 M t (M.1 (t + 7) r) (rCR R r)) ∧ Law1 M t (M.1 t 3) dSw (rSw R) ∧ Law1 M t (M.1 t 4) dLe (rLe R)
theorem Rp1.mv {M M' : gM} {t : Nat} {R : tR} (h : Rp1 M t R) (e : ∀ k, t ≤ k → k ≤ t + 8 → M'.1 k = M.1 k) : Rp1 M' t R := by
  have c1 : ∀ c φ, Cond1 M t c φ → Cond1 M' t c φ := fun c φ h N hN => h N (hN.trans (e _ (by omega) (by omega)))
  have c2 : ∀ c φ, Run1 M t c φ → Run1 M' t c φ := fun c φ h N hN => h N (hN.trans (e _ (by omega) (by omega)))
  have c3 : ∀ c d φ, Law1 M t c d φ → Law1 M' t c d φ := fun c d φ h => h.elim Or.inl (fun h => Or.inr ⟨h.1, c2 _ _ h.2⟩)
  unfold Rp1
  rw [e t (by omega) (by omega), e (t + 3) (by omega) (by omega), e (t + 4) (by omega) (by omega), e (t + 5) (by omega) (by omega), e (t + 6) (by omega) (by omega), e (t + 7) (by omega) (by omega), e (t + 8) (by omega) (by omega)]
  obtain ⟨h1, h2, h3, h4, h5, h6⟩ := h
  exact ⟨h1, fun a ha => ⟨(h2 a ha).1, (h2 a ha).2.1, c1 _ _ (h2 a ha).2.2⟩, fun k hk => ⟨(h3 k hk).1, (h3 k hk).2.1, (h3 k hk).2.2.1, (h3 k hk).2.2.2.1, c1 _ _ (h3 k hk).2.2.2.2⟩, fun r hr => ⟨(h4 r hr).1, c1 _ _ (h4 r hr).2⟩, c3 _ _ _ h5, c3 _ _ _ h6⟩
theorem i3_sn (x : Nat) : i3 (x : Int) + 1 = i3 ((x + 1 : Nat) : Int) := by
  rw [i3_lit, i3_add]
  rfl
theorem tn_n {s : Nat} (h : s < 2147483648) : tn (i3 (s : Int)) = s := by
  rw [i3_tn (by omega) (by omega)]
  omega
theorem e_at {s : Nat} (h : s < 2147483648) : i3 (s : Int) / 231 = i3 (gAt s) := by
  rw [i3_lit, i3_div (by omega) (by omega) (by omega) (by omega)]
  rfl
theorem e_le {s : Nat} (h : s < 2147483648) : i3 (s : Int) / 11 - i3 (s : Int) / 11 / 21 * 21 - 10 = i3 (gLe s) := by
  simp (disch := omega) only [i3_lit, i3_div, i3_mul, i3_sub]
  congr 1
  unfold gLe
  show (s : Int) / 11 - (s : Int) / 11 / 21 * 21 - 10 = _
  omega
theorem e_sw {s : Nat} (h : s < 2147483648) : i3 (s : Int) - i3 (s : Int) / 11 * 11 - 5 = i3 (gSw s) := by
  simp (disch := omega) only [i3_lit, i3_div, i3_mul, i3_sub]
  congr 1
  unfold gSw
  show (s : Int) - (s : Int) / 11 * 11 - 5 = _
  omega
theorem c_at {s : Nat} (h : s < 2147483648) {M : gM} : f_X4_atOf (i3 s) M = some (i3 (gAt s), M) := by rw [f_X4_atOf, e_at h]
theorem c_le {s : Nat} (h : s < 2147483648) {M : gM} : f_X4_leanOf (i3 s) M = some (i3 (gLe s), M) := by rw [f_X4_leanOf, e_le h]
theorem c_sw {s : Nat} (h : s < 2147483648) {M : gM} : f_X4_swingOf (i3 s) M = some (i3 (gSw s), M) := by rw [f_X4_swingOf, e_sw h]
/-- what is asked of numbers that come from outside -/
theorem c_number {M : gM} {t : Nat} {R : tR} (hR : tOk R) (h : Rp1 M t R) {a l s : Int} (ha : -2147483648 ≤ a ∧ a < 2147483648) (hl : -2147483648 ≤ l ∧ l < 2147483648) (hs : -2147483648 ≤ s ∧ s < 2147483648) : f_X4_number t (i3 a) (i3 l) (i3 s) M = some (i3 (@ite _ (inR R a l s) (Classical.propDecidable _) (nuZ a l s) (-1)), M) := by
  obtain ⟨⟨h1, h2, h3, -⟩, -⟩ := h
  obtain ⟨⟨r1, r2, r3, r4, r5, r6⟩, -⟩ := hR
  rw [f_X4_number, h1, h2, h3]
  simp (disch := omega) only [i3_lit, i3_neg, i3_add, i3_sub, i3_mul, i3_lt, i3_le, i3_eq]
  by_cases hi : inR R a l s
  · have hi2 := hi
    obtain ⟨b1, b2, b3, b4, b5, b6⟩ := hi2
    rw [if_neg (by omega), if_neg (by omega), if_neg (by omega), if_neg (by omega), if_neg (by omega), if_pos (by omega), if_pos hi]
    rfl
  · rw [if_neg hi]
    split
    · rfl
    · split
      · rfl
      · split
        · rfl
        · split
          · rfl
          · split
            · rfl
            · split
              · exfalso
                apply hi
                unfold inR
                omega
              · rfl
theorem c_has {M : gM} {t : Nat} {R : tR} (hR : tOk R) (h : Rp1 M t R) {z : Int} (hz : -2147483648 ≤ z ∧ z < 2147483648) : f_X4_has t (i3 z) M = some (b_ (stP R z), M) := by
  rw [f_X4_has]
  simp (disch := omega) only [i3_lit, i3_neg, i3_add, i3_sub, i3_mul, i3_lt, i3_le, i3_eq]
  by_cases h1 : z < 0
  · rw [if_pos h1, b_f (fun h => by have := h.1; omega)]
  · rw [if_neg h1]
    by_cases h2 : 2079 ≤ z
    · rw [if_pos h2, b_f (fun h => by have := h.2.1; omega)]
    · rw [if_neg h2]
      obtain ⟨s, rfl⟩ : ∃ s : Nat, z = s := ⟨z.toNat, by omega⟩
      have g := gx s (by omega)
      have hn := gn s
      rw [c_at (by omega), g_b_some, c_le (by omega), g_b_some, c_sw (by omega), g_b_some, c_number hR h (by omega) (by omega) (by omega), g_b_some]
      by_cases hi : inR R (gAt s) (gLe s) (gSw s)
      · rw [if_pos hi, hn, if_pos rfl, b_t ⟨by omega, by omega, by rw [Int.toNat_natCast]; exact hi⟩]
      · rw [if_neg hi, if_neg, b_f]
        · intro h
          exact hi (by have := h.2.2; rw [Int.toNat_natCast] at this; exact this)
        · rw [i3_eq (by omega) (by omega) (by omega) (by omega)]
          omega
theorem c_over {M : gM} {t : Nat} {R : tR} (hR : tOk R) (h : Rp1 M t R) {s : Nat} (hs : s < 2079) : f_X4_isOver t (i3 s) M = some (b_ (ovP R s), M) := by
  obtain ⟨⟨h1, -⟩, -⟩ := h
  obtain ⟨⟨r1, r2, -⟩, -⟩ := hR
  have g := gx s hs
  rw [f_X4_isOver, c_at (by omega), g_b_some, h1]
  simp (disch := omega) only [i3_eq]
  by_cases h : ovP R s
  · rw [if_pos (show gAt s = rLen R from h), b_t h]
  · rw [if_neg (show ¬ gAt s = rLen R from h), b_f h]
theorem c_hasAct {M : gM} {t : Nat} {R : tR} (hR : tOk R) (h : Rp1 M t R) {z : Int} (hz : -2147483648 ≤ z ∧ z < 2147483648) : f_X4_hasAct t (i3 z) M = some (b_ (0 ≤ z ∧ z < rNa R), M) := by
  obtain ⟨⟨-, -, -, h1, -⟩, -⟩ := h
  obtain ⟨-, ⟨r1, r2, -⟩, -⟩ := hR
  rw [f_X4_hasAct, h1]
  simp (disch := omega) only [i3_lit, i3_neg, i3_add, i3_sub, i3_mul, i3_lt, i3_le, i3_eq]
  by_cases hi : 0 ≤ z ∧ z < rNa R
  · rw [if_neg (by omega), if_neg (by omega), if_neg (by omega), b_t hi]
  · rw [b_f hi]
    by_cases h1 : z < 0
    · rw [if_pos h1]
    · rw [if_neg h1, if_pos (by omega)]
