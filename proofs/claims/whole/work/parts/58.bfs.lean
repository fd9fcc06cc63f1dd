/-! ===== REFLEXES: where a walk by them leads ===== -/
noncomputable def drX (R : tR) (p : Int) (X : Nat → Int) (s : Nat) (g : Int) : Int := @ite _ (X s < 0) (Classical.propDecidable _) (-2) (nxR R p s (X s).toNat g)
def XP (R : tR) (p : Int) (X : Nat → Int) : Prop := ∀ s : Nat, stP R s → X s = -2 ∨ ∃ a : Nat, X s = a ∧ caP R p s a
theorem dr_q {R : tR} (hR : tOk R) (p : Int) (X : Nat → Int) (s : Nat) (g : Int) : drX R p X s g = -2 ∨ ∃ q : Nat, drX R p X s g = q ∧ q < 2079 ∧ stP R q := by
  unfold drX
  split
  · exact Or.inl rfl
  · exact nx_q hR p s _ g
/-- one falls within n BEATS, if gusts will it -/
def fpX (R : tR) (p : Int) (X : Nat → Int) : Nat → Nat → Prop
  | 0, _ => False
  | n + 1, s => fpX R p X n s ∨ (stP R s ∧ ¬ ovP R s ∧ ∃ g : Int, loR R p s ≤ g ∧ g ≤ hiR R p s ∧ (drX R p X s g = -2 ∨ ∃ q : Nat, drX R p X s g = q ∧ fpX R p X n q))
theorem fp_le {R : tR} {p : Int} {X : Nat → Int} {m n s : Nat} (h : m ≤ n) (hx : fpX R p X m s) : fpX R p X n s := by
  induction n with
  | zero => rw [← Nat.le_zero.1 h]; exact hx
  | succ n ih =>
    by_cases hm : m = n + 1
    · rw [← hm]; exact hx
    · exact Or.inl (ih (by omega))
theorem fp_st {R : tR} {p : Int} {X : Nat → Int} : ∀ n s, fpX R p X n s → stP R s ∧ ¬ ovP R s := by
  intro n
  induction n with
  | zero => intro s h; exact h.elim
  | succ n ih => intro s h; exact h.elim (ih s) (fun h => ⟨h.1, h.2.1⟩)
theorem fp_top {R : tR} {p : Int} {X : Nat → Int} {m s : Nat} (h : fpX R p X m s) : fpX R p X 2079 s := by
  apply Classical.byContradiction
  intro hn
  refine ch_st (X := fun n s => ¬ fpX R p X n s) (N := 2079) (fun n s h1 h2 => h1 (Or.inl h2)) (fun n hf s hs h1 h2 => h1 ?_) s (st_lt (fp_st _ _ h).1) hn m h
  rcases h2 with h2 | ⟨g1, g2, g, g3, g4, g5⟩
  · exact h2
  · refine Or.inr ⟨g1, g2, g, g3, g4, g5.imp id (fun ⟨q, q1, q2⟩ => ⟨q, q1, Classical.byContradiction (fun hc => hf q (st_lt (fp_st _ _ q2).1) hc q2)⟩)⟩
/-- PROOF: 0 if none -/
noncomputable def fiX (R : tR) (p : Int) (X : Nat → Int) (s : Nat) : Int := leA (fun n => fpX R p X n s) 2080 0
theorem fi_x {R : tR} {p : Int} {X : Nat → Int} {s : Nat} : (fiX R p X s = 0 ∧ ∀ m, ¬ fpX R p X m s) ∨ ∃ n : Nat, 1 ≤ n ∧ n < 2080 ∧ fiX R p X s = n ∧ fpX R p X n s ∧ ¬ fpX R p X (n - 1) s := by
  rcases leA_x (P := fun n => fpX R p X n s) (n := 2080) 0 with ⟨n, h1, h2, h3, h4⟩ | ⟨h1, h2⟩
  · have hn : n ≠ 0 := fun e => by subst e; exact h2
    exact Or.inr ⟨n, by omega, h1, h4, h2, h3 _ (by omega)⟩
  · exact Or.inl ⟨h2, fun m hm => h1 2079 (by omega) (fp_top hm)⟩
theorem fi_e {R : tR} {p : Int} {X : Nat → Int} {s n : Nat} (h1 : fpX R p X n s) (h2 : ∀ m, fpX R p X m s → n ≤ m) : fiX R p X s = n := by
  have hn : n < 2080 := by have := h2 _ (fp_top h1); omega
  exact leA_e hn h1 (fun b hb hp => by have := h2 b hp; omega)
theorem fi_p {R : tR} {p : Int} {X : Nat → Int} {s n : Nat} (h : fiX R p X s = n) (hn : 1 ≤ n) : fpX R p X n s ∧ ∀ m, fpX R p X m s → n ≤ m := by
  rcases fi_x (R := R) (p := p) (X := X) (s := s) with ⟨h1, -⟩ | ⟨m, h1, h2, h3, h4, h5⟩
  · omega
  · have : m = n := by omega
    subst this
    refine ⟨h4, fun k hk => ?_⟩
    by_cases hkm : m ≤ k
    · exact hkm
    · exact absurd (fp_le (by omega) hk) h5
/-- a gust that brings the fall nearer -/
def fgP (R : tR) (p : Int) (X : Nat → Int) (s : Nat) (g : Int) : Prop := g ≤ hiR R p s ∧ @ite _ (fiX R p X s = 1) (Classical.propDecidable _) (drX R p X s g = -2) (∃ q : Nat, drX R p X s g = q ∧ fiX R p X q = fiX R p X s - 1)
noncomputable def fgX (R : tR) (p : Int) (X : Nat → Int) (s : Nat) : Int := loR R p s + leA (fun j => fgP R p X s (loR R p s + j)) 13 0
theorem fg_e {R : tR} {p : Int} {X : Nat → Int} {s : Nat} {g : Int} (hR : tOk R) (h1 : loR R p s ≤ g) (h2 : fgP R p X s g) (h3 : ∀ x : Int, loR R p s ≤ x → x < g → ¬ fgP R p X s x) : fgX R p X s = g := by
  have hlh := lh_r (p := p) (s := s) hR
  have hg := h2.1
  have e : (((g - loR R p s).toNat : Nat) : Int) = g - loR R p s := by omega
  unfold fgX
  rw [leA_e (a := (g - loR R p s).toNat) (by omega) (by rw [e]; rw [show loR R p s + (g - loR R p s) = g by omega]; exact h2) (fun b hb => h3 _ (by omega) (by omega)), e]
  omega
theorem fg_P {R : tR} {p : Int} {X : Nat → Int} {s n : Nat} (h : fiX R p X s = n) (hn : 1 ≤ n) : stP R s ∧ ¬ ovP R s ∧ ∃ g : Int, loR R p s ≤ g ∧ fgP R p X s g := by
  obtain ⟨h1, h2⟩ := fi_p h hn
  obtain ⟨g1, g2⟩ := fp_st _ _ h1
  refine ⟨g1, g2, ?_⟩
  obtain ⟨n, rfl⟩ : ∃ m, n = m + 1 := ⟨n - 1, by omega⟩
  rcases h1 with h1 | ⟨-, -, g, g3, g4, g5⟩
  · have := h2 _ h1
    omega
  · refine ⟨g, g3, g4, ?_⟩
    rw [h]
    by_cases hn0 : n = 0
    · subst hn0
      rw [if_pos (by omega)]
      rcases g5 with g5 | ⟨q, q1, q2⟩
      · exact g5
      · exact q2.elim
    · rw [if_neg (by omega)]
      rcases g5 with g5 | ⟨q, q1, q2⟩
      · have : fpX R p X 1 s := Or.inr ⟨g1, g2, g, g3, g4, Or.inl g5⟩
        have := h2 _ this
        omega
      · refine ⟨q, q1, ?_⟩
        rw [fi_e (n := n) q2 (fun m hm => ?_)]
        · omega
        · have := h2 _ (show fpX R p X (m + 1) s from Or.inr ⟨g1, g2, g, g3, g4, Or.inr ⟨q, q1, hm⟩⟩)
          omega
theorem fg_x {R : tR} {p : Int} {X : Nat → Int} {s n : Nat} (hR : tOk R) (h : fiX R p X s = n) (hn : 1 ≤ n) : loR R p s ≤ fgX R p X s ∧ fgP R p X s (fgX R p X s) ∧ ∀ x : Int, loR R p s ≤ x → x < fgX R p X s → ¬ fgP R p X s x := by
  have hlh := lh_r (p := p) (s := s) hR
  obtain ⟨-, -, g, g1, g2⟩ := fg_P h hn
  rcases leA_x (P := fun j : Nat => fgP R p X s (loR R p s + j)) (n := 13) 0 with ⟨j, j1, j2, j3, j4⟩ | ⟨j1, -⟩
  · have e : fgX R p X s = loR R p s + j := by unfold fgX; rw [j4]
    rw [e]
    refine ⟨by omega, j2, fun x h1 h2 => ?_⟩
    have := j3 (x - loR R p s).toNat (by omega)
    rw [show loR R p s + (((x - loR R p s).toNat : Nat) : Int) = x by omega] at this
    exact this
  · have hg := g2.1
    exact absurd (by rw [show loR R p s + (((g - loR R p s).toNat : Nat) : Int) = g by omega]; exact g2) (j1 (g - loR R p s).toNat (by omega))
/-- the way of the WITNESS -/
noncomputable def ptX (R : tR) (p : Int) (X : Nat → Int) (s0 : Nat) : Nat → Nat
  | 0 => s0
  | i + 1 => (drX R p X (ptX R p X s0 i) (fgX R p X (ptX R p X s0 i))).toNat
theorem pt_fi {R : tR} {p : Int} {X : Nat → Int} {s0 d : Nat} (hR : tOk R) (h : fiX R p X s0 = d) : ∀ i, i < d → fiX R p X (ptX R p X s0 i) = ((d - i : Nat) : Int) := by
  intro i
  induction i with
  | zero => intro _; exact h
  | succ i ih =>
    intro hi
    have hf := ih (by omega)
    obtain ⟨h1, h2, h3⟩ := fg_x hR hf (by omega)
    have h4 := h2.2
    rw [if_neg (by omega)] at h4
    obtain ⟨q, q1, q2⟩ := h4
    rw [ptX, q1, Int.toNat_natCast, q2, hf]
    omega
/-! the search, nearer STATES and lesser gusts first -/
def bfI (R : tR) (p : Int) (X : Nat → Int) (s0 n K : Nat) (qs key de : Nat → Nat) : Prop :=
  (1 ≤ n ∧ qs 0 = s0 ∧ de 0 = 0) ∧ (∀ i, i < n → stP R (qs i)) ∧ (∀ i j, i < n → j < n → qs i = qs j → i = j) ∧
  (∀ i, 1 ≤ i → i < n → key i < K ∧ key i / 13 < i ∧ ¬ ovP R (qs i) ∧ ¬ ovP R (qs (key i / 13)) ∧ loR R p (qs (key i / 13)) ≤ ((key i % 13 : Nat) : Int) - 6 ∧ ((key i % 13 : Nat) : Int) - 6 ≤ hiR R p (qs (key i / 13)) ∧ drX R p X (qs (key i / 13)) (((key i % 13 : Nat) : Int) - 6) = (qs i : Int) ∧ de i = de (key i / 13) + 1) ∧
  (∀ i j, 1 ≤ i → i < j → j < n → key i < key j) ∧
  (∀ k, k < K → k / 13 < n → ¬ ovP R (qs (k / 13)) → loR R p (qs (k / 13)) ≤ ((k % 13 : Nat) : Int) - 6 → ((k % 13 : Nat) : Int) - 6 ≤ hiR R p (qs (k / 13)) → ∃ t : Nat, drX R p X (qs (k / 13)) (((k % 13 : Nat) : Int) - 6) = (t : Int) ∧ (ovP R t ∨ ∃ i, i < n ∧ qs i = t ∧ (i = 0 ∨ key i ≤ k)))
section
variable {R : tR} {p : Int} {X : Nat → Int} {s0 n K : Nat} {qs key de : Nat → Nat}
theorem bf_mono (h : bfI R p X s0 n K qs key de) : ∀ j i, i ≤ j → j < n → de i ≤ de j := by
  obtain ⟨⟨h1, h2, h3⟩, -, -, h4, h5, -⟩ := h
  intro j
  induction j using Nat.strongRecOn with
  | _ j ih =>
    intro i hij hj
    by_cases hi : i = 0
    · subst hi; omega
    · by_cases hij2 : i = j
      · rw [hij2]; exact Nat.le_refl _
      · have hk := h5 i j (by omega) (by omega) hj
        obtain ⟨-, a2, -, -, -, -, -, a8⟩ := h4 i (by omega) (by omega)
        obtain ⟨-, b2, -, -, -, -, -, b8⟩ := h4 j (by omega) hj
        have := ih (key j / 13) b2 (key i / 13) (by omega) (by omega)
        omega
theorem bf_up (h : bfI R p X s0 n K qs key de) : ∀ i m, i < n → fpX R p X m (qs i) → fpX R p X (de i + m) s0 := by
  obtain ⟨⟨h1, h2, h3⟩, hst, -, h4, -, -⟩ := id h
  intro i
  induction i using Nat.strongRecOn with
  | _ i ih =>
    intro m hi hf
    by_cases h0 : i = 0
    · subst h0
      rw [h3, Nat.zero_add, ← h2]
      exact hf
    · obtain ⟨-, a2, a3, a4, a5, a6, a7, a8⟩ := h4 i (by omega) hi
      have := ih (key i / 13) a2 (m + 1) (by omega) (Or.inr ⟨hst _ (by omega), a4, _, a5, a6, Or.inr ⟨_, a7, hf⟩⟩)
      rw [a8, show de (key i / 13) + 1 + m = de (key i / 13) + (m + 1) by omega]
      exact this
/-- what a step leads to, if it was looked at -/
theorem bf_cov (h : bfI R p X s0 n K qs key de) (hR : tOk R) {i : Nat} {g : Int} (hi : i < n) (ho : ¬ ovP R (qs i)) (hg1 : loR R p (qs i) ≤ g) (hg2 : g ≤ hiR R p (qs i)) (hK : 13 * (i : Int) + g + 6 < K) : ∃ t : Nat, drX R p X (qs i) g = (t : Int) ∧ (ovP R t ∨ ∃ j, j < n ∧ qs j = t ∧ (j = 0 ∨ (key j : Int) ≤ 13 * (i : Int) + g + 6)) := by
  have hlh := lh_r (p := p) (s := qs i) hR
  have e1 : (13 * i + (g + 6).toNat) / 13 = i := by omega
  have e2 : (((13 * i + (g + 6).toNat) % 13 : Nat) : Int) - 6 = g := by omega
  obtain ⟨t, t1, t2⟩ := h.2.2.2.2.2 (13 * i + (g + 6).toNat) (by omega) (by rw [e1]; exact hi) (by rw [e1]; exact ho) (by rw [e1, e2]; exact hg1) (by rw [e1, e2]; exact hg2)
  rw [e1, e2] at t1
  exact ⟨t, t1, t2.imp id (fun ⟨j, j1, j2, j3⟩ => ⟨j, j1, j2, j3.imp id (fun h => by omega)⟩)⟩
/-- no fall was met at all -/
theorem bf_none (h : bfI R p X s0 n K qs key de) (hR : tOk R) (hK : 13 * n ≤ K) : ∀ m i, i < n → ¬ fpX R p X m (qs i) := by
  intro m
  induction m with
  | zero => intro i _ hf; exact hf
  | succ m ih =>
    rintro i hi (hf | ⟨g1, g2, g, g3, g4, g5⟩)
    · exact ih i hi hf
    · have hlh := lh_r (p := p) (s := qs i) hR
      obtain ⟨t, t1, t2⟩ := bf_cov h hR hi g2 g3 g4 (by omega)
      rcases g5 with g5 | ⟨q, q1, q2⟩
      · omega
      · have : q = t := by omega
        subst this
        rcases t2 with t2 | ⟨j, j1, j2, -⟩
        · exact (fp_st _ _ q2).2 t2
        · rw [← j2] at q2
          exact ih j j1 q2
/-- the fall that was met first is the nearest -/
theorem bf_low (h : bfI R p X s0 n K qs key de) (hR : tOk R) {H : Nat} (hH : K / 13 = H) (hHn : H < n) : ∀ m i, i < n → fpX R p X m (qs i) → de H + 1 ≤ de i + m := by
  intro m
  induction m with
  | zero => intro i _ hf; exact hf.elim
  | succ m ih =>
    rintro i hi (hf | ⟨g1, g2, g, g3, g4, g5⟩)
    · have := ih i hi hf
      omega
    · have hlh := lh_r (p := p) (s := qs i) hR
      by_cases hK : 13 * (i : Int) + g + 6 < K
      · obtain ⟨t, t1, t2⟩ := bf_cov h hR hi g2 g3 g4 hK
        rcases g5 with g5 | ⟨q, q1, q2⟩
        · omega
        · have : q = t := by omega
          subst this
          rcases t2 with t2 | ⟨j, j1, j2, j3⟩
          · exact absurd t2 (fp_st _ _ q2).2
          · rw [← j2] at q2
            have hj := ih j j1 q2
            have : de j ≤ de i + 1 := by
              by_cases hj0 : j = 0
              · subst hj0
                rw [h.1.2.2]
                omega
              · obtain ⟨-, a2, -, -, -, -, -, a8⟩ := h.2.2.2.1 j (by omega) j1
                have := bf_mono h i (key j / 13) (by omega) hi
                omega
            omega
      · have := bf_mono h i H (by omega) hi
        omega
/-- a STATE on the way, the first of its depth -/
def chI (R : tR) (p : Int) (X : Nat → Int) (n d : Nat) (qs de : Nat → Nat) (i c : Nat) : Prop := c < n ∧ de c = i ∧ fiX R p X (qs c) = ((d - i : Nat) : Int) ∧ ∀ j, j < n → de j = i → fiX R p X (qs j) = ((d - i : Nat) : Int) → c ≤ j
theorem bf_end (h : bfI R p X s0 n K qs key de) (hR : tOk R) {H : Nat} {G : Int} (hH : K / 13 = H) (hG : ((K % 13 : Nat) : Int) - 6 = G) (hHn : H < n) (ho : ¬ ovP R (qs H)) (hg1 : loR R p (qs H) ≤ G) (hg2 : G ≤ hiR R p (qs H)) (hf : drX R p X (qs H) G = -2) : fiX R p X s0 = ((de H + 1 : Nat) : Int) ∧ chI R p X n (de H + 1) qs de (de H) H ∧ fgX R p X (qs H) = G := by
  obtain ⟨⟨h1, h2, h3⟩, hst, -⟩ := id h
  have hlh := lh_r (p := p) (s := qs H) hR
  have f1 : fpX R p X 1 (qs H) := Or.inr ⟨hst H hHn, ho, G, hg1, hg2, Or.inl hf⟩
  have e1 : fiX R p X (qs H) = ((1 : Nat) : Int) := fi_e f1 (fun m hm => by
    have := bf_low h hR hH hHn m H hHn hm
    omega)
  refine ⟨fi_e (bf_up h H 1 hHn f1) (fun m hm => ?_), ⟨hHn, rfl, ?_, fun j hj1 hj2 hj3 => ?_⟩, ?_⟩
  · rw [← h2] at hm
    have := bf_low h hR hH hHn m 0 (by omega) hm
    omega
  · rw [e1]
    congr 1
    omega
  · have hj4 : fiX R p X (qs j) = ((1 : Nat) : Int) := by rw [hj3]; congr 1; omega
    obtain ⟨g1, g2, g, g3, g4⟩ := fg_P hj4 (Nat.le_refl _)
    have g5 := g4.2
    rw [if_pos (by rw [hj4]; rfl)] at g5
    have hlj := lh_r (p := p) (s := qs j) hR
    by_cases hK : 13 * (j : Int) + g + 6 < K
    · obtain ⟨t, t1, -⟩ := bf_cov h hR hj1 g2 g3 g4.1 hK
      omega
    · have := g4.1
      omega
  · refine fg_e hR hg1 ⟨hg2, ?_⟩ (fun x hx1 hx2 hx3 => ?_)
    · rw [if_pos (by rw [e1]; rfl)]
      exact hf
    · have g5 := hx3.2
      rw [if_pos (by rw [e1]; rfl)] at g5
      obtain ⟨t, t1, -⟩ := bf_cov h hR hHn ho hx1 hx3.1 (by omega)
      omega
theorem bf_par (h : bfI R p X s0 n K qs key de) (hR : tOk R) {H i c : Nat} (hH : K / 13 = H) (hHn : H < n) (hi : i + 1 ≤ de H) (hc : chI R p X n (de H + 1) qs de (i + 1) c) : 1 ≤ c ∧ chI R p X n (de H + 1) qs de i (key c / 13) ∧ fgX R p X (qs (key c / 13)) = ((key c % 13 : Nat) : Int) - 6 := by
  obtain ⟨c1, c2, c3, c4⟩ := hc
  obtain ⟨⟨h1, h2, h3⟩, hst, -⟩ := id h
  have hc0 : 1 ≤ c := by
    by_cases hc0 : c = 0
    · subst hc0; omega
    · omega
  obtain ⟨a1, a2, a3, a4, a5, a6, a7, a8⟩ := h.2.2.2.1 c hc0 c1
  have hdc : de (key c / 13) = i := by omega
  have hb : key c / 13 < n := by omega
  -- how far the fall is
  have fic := fi_p c3 (by omega)
  have fib : fiX R p X (qs (key c / 13)) = ((de H + 1 - i : Nat) : Int) := by
    refine fi_e ?_ (fun m hm => ?_)
    · rw [show de H + 1 - i = (de H + 1 - (i + 1)) + 1 by omega]
      exact Or.inr ⟨hst _ hb, a4, _, a5, a6, Or.inr ⟨_, a7, fic.1⟩⟩
    · have := bf_low h hR hH hHn m _ hb hm
      omega
  -- another STATE of that depth that is as near
  have other : ∀ (j : Nat) (g : Int), j < n → de j = i → ¬ ovP R (qs j) → loR R p (qs j) ≤ g → g ≤ hiR R p (qs j) → (∃ q : Nat, drX R p X (qs j) g = q ∧ fiX R p X q = ((de H + 1 - (i + 1) : Nat) : Int)) → (key c : Int) ≤ 13 * (j : Int) + g + 6 := by
    rintro j g hj1 hj2 hj3 hj4 hj5 ⟨q, q1, q2⟩
    have hlj := lh_r (p := p) (s := qs j) hR
    by_cases hK : 13 * (j : Int) + g + 6 < K
    · obtain ⟨t, t1, t2⟩ := bf_cov h hR hj1 hj3 hj4 hj5 hK
      have : q = t := by omega
      subst this
      have fq := fi_p q2 (by omega)
      rcases t2 with t2 | ⟨m, m1, m2, m3⟩
      · exact absurd t2 (fp_st _ _ fq.1).2
      · rw [← m2] at fq q2
        have hl := bf_low h hR hH hHn _ m m1 fq.1
        have hm0 : m ≠ 0 := fun e => by subst e; omega
        obtain ⟨-, b2, -, -, -, -, -, b8⟩ := h.2.2.2.1 m (by omega) m1
        have hkm : (key m : Int) ≤ 13 * (j : Int) + g + 6 := m3.resolve_left hm0
        have hdm : de m ≤ i + 1 := by
          have := bf_mono h j (key m / 13) (by omega) hj1
          omega
        have hcm := c4 m m1 (by omega) q2
        by_cases hcm2 : c = m
        · rw [hcm2]; exact hkm
        · have := h.2.2.2.2.1 c m hc0 (by omega) m1
          omega
    · omega
  refine ⟨hc0, ⟨hb, hdc, fib, fun j hj1 hj2 hj3 => ?_⟩, ?_⟩
  · obtain ⟨g1, g2, g, g3, g4⟩ := fg_P hj3 (by omega)
    have g5 := g4.2
    rw [if_neg (by omega)] at g5
    obtain ⟨q, q1, q2⟩ := g5
    have hlj := lh_r (p := p) (s := qs j) hR
    have hg4 := g4.1
    have := other j g hj1 hj2 g2 g3 g4.1 ⟨q, q1, by rw [q2, hj3]; omega⟩
    omega
  · refine fg_e hR a5 ⟨a6, ?_⟩ (fun x hx1 hx2 hx3 => ?_)
    · rw [if_neg (by omega)]
      exact ⟨_, a7, by rw [c3, fib]; omega⟩
    · have g5 := hx3.2
      rw [if_neg (by omega)] at g5
      obtain ⟨q, q1, q2⟩ := g5
      have := other _ x hb hdc a4 hx1 hx3.1 ⟨q, q1, by rw [q2, fib]; omega⟩
      omega
/-- the way back is the WITNESS's -/
theorem bf_way (h : bfI R p X s0 n K qs key de) (hR : tOk R) {H : Nat} {G : Int} (hH : K / 13 = H) (hG : ((K % 13 : Nat) : Int) - 6 = G) (hHn : H < n) (ho : ¬ ovP R (qs H)) (hg1 : loR R p (qs H) ≤ G) (hg2 : G ≤ hiR R p (qs H)) (hf : drX R p X (qs H) G = -2) :
    qs H = ptX R p X s0 (de H) ∧ (∀ i, i < de H → ∃ c, 1 ≤ c ∧ c < n ∧ qs c = ptX R p X s0 (i + 1) ∧ qs (key c / 13) = ptX R p X s0 i ∧ ((key c % 13 : Nat) : Int) - 6 = fgX R p X (ptX R p X s0 i)) := by
  obtain ⟨e1, e2, e3⟩ := bf_end h hR hH hG hHn ho hg1 hg2 hf
  obtain ⟨⟨h1, h2, h3⟩, hst, -⟩ := id h
  have all : ∀ j, j ≤ de H → ∃ c, chI R p X n (de H + 1) qs de (de H - j) c := by
    intro j
    induction j with
    | zero => exact fun _ => ⟨H, e2⟩
    | succ j ih =>
      intro hj
      obtain ⟨c, hc⟩ := ih (by omega)
      rw [show de H - j = (de H - (j + 1)) + 1 by omega] at hc
      exact ⟨_, (bf_par h hR hH hHn (by omega) hc).2.1⟩
  have all2 : ∀ i, i ≤ de H → ∃ c, chI R p X n (de H + 1) qs de i c := fun i hi => by
    have := all (de H - i) (by omega)
    rw [show de H - (de H - i) = i by omega] at this
    exact this
  have uni : ∀ i c c', chI R p X n (de H + 1) qs de i c → chI R p X n (de H + 1) qs de i c' → c = c' := fun i c c' a b => Nat.le_antisymm (a.2.2.2 c' b.1 b.2.1 b.2.2.1) (b.2.2.2 c a.1 a.2.1 a.2.2.1)
  have key2 : ∀ i, i ≤ de H → ∀ c, chI R p X n (de H + 1) qs de i c → qs c = ptX R p X s0 i := by
    intro i
    induction i with
    | zero =>
      intro _ c hc
      have : c = 0 := by
        by_cases hc0 : c = 0
        · exact hc0
        · obtain ⟨-, -, -, -, -, -, -, a8⟩ := h.2.2.2.1 c (by omega) hc.1
          have := hc.2.1
          omega
      rw [this, h2]
      rfl
    | succ i ih =>
      intro hi c hc
      obtain ⟨p1, p2, p3⟩ := bf_par h hR hH hHn hi hc
      have hq := ih (by omega) _ p2
      obtain ⟨-, -, -, -, -, -, a7, -⟩ := h.2.2.2.1 c p1 hc.1
      rw [ptX, ← hq, p3, a7, Int.toNat_natCast]
  refine ⟨key2 (de H) (Nat.le_refl _) H e2, fun i hi => ?_⟩
  obtain ⟨c, hc⟩ := all2 (i + 1) (by omega)
  obtain ⟨p1, p2, p3⟩ := bf_par h hR hH hHn (by omega) hc
  have hq := key2 i (by omega) _ p2
  exact ⟨c, p1, hc.1, key2 (i + 1) (by omega) c hc, hq, by rw [← hq, p3]⟩
end
