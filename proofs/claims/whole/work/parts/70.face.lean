/-! ===== one state for both sides ===== -/
abbrev eT' : Type := (tR × Int) × ((Nat → Int) × Nat) × (Nat × (Nat → Nat)) × (Int × (Nat → Int) × (Nat → Int) × (Nat → Int)) × (Nat → Nat → Prop) × (Nat × (Nat → Nat)) × Int
abbrev eR (S : eT') : tR := S.1.1
abbrev eP (S : eT') : Int := S.1.2
abbrev eFc (S : eT') : Nat → Int := S.2.1.1
abbrev eF (S : eT') : Nat := S.2.1.2
abbrev eL (S : eT') : Nat := S.2.2.1.1
abbrev eLs (S : eT') : Nat → Nat := S.2.2.1.2
abbrev eWc (S : eT') : Int := S.2.2.2.1.1
abbrev eWs (S : eT') : Nat → Int := S.2.2.2.1.2.1
abbrev eWa (S : eT') : Nat → Int := S.2.2.2.1.2.2.1
abbrev eWg (S : eT') : Nat → Int := S.2.2.2.1.2.2.2
abbrev eSl (S : eT') : Nat → Nat → Prop := S.2.2.2.2.1
abbrev eTp (S : eT') : Nat := S.2.2.2.2.2.1.1
abbrev eTb (S : eT') : Nat → Nat := S.2.2.2.2.2.1.2
abbrev eFp (S : eT') : Int := S.2.2.2.2.2.2
noncomputable abbrev eX (S : eT') : Nat → Int := rxX (eR S) (eP S) (eL S) (eLs S)
/-- what holds of the state itself -/
def sOk (S : eT') : Prop := tOk (eR S) ∧ (1 ≤ eP S ∧ eP S ≤ 4) ∧ (eF S ≤ 24 ∧ ∀ b : Nat, b < eF S → -12 ≤ eFc S b ∧ eFc S b ≤ 12) ∧ lnL (eR S) (eP S) (eL S) (eLs S) ∧ (-1 ≤ eWc S ∧ eWc S ≤ 200 ∧ (∀ i : Nat, (i : Int) < eWc S → ∃ q a : Nat, eWs S i = q ∧ stP (eR S) q ∧ ¬ ovP (eR S) q ∧ eWa S i = a ∧ caP (eR S) (eP S) q a ∧ -6 ≤ eWg S i ∧ eWg S i ≤ 6) ∧ (0 ≤ eWc S → eWs S (eWc S).toNat = -2 ∨ ∃ q : Nat, eWs S (eWc S).toNat = q ∧ stP (eR S) q)) ∧ (∀ j s, eSl S j s → s < 2079) ∧ (eTp S ≤ 2000 ∧ ∀ i, i < eTp S → eTb S i < 256) ∧ (-1 ≤ eFp S ∧ eFp S ≤ 2000)
/-! the class -/
def wkI (S : eT') (M : gM) : Prop := M.1 66 0 = i3 (eWc S) ∧ (∀ i : Nat, (i : Int) ≤ eWc S → M.1 67 i = i3 (eWs S i)) ∧ ∀ i : Nat, (i : Int) < eWc S → M.1 68 i = i3 (eWa S i) ∧ M.1 69 i = i3 (eWg S i)
def slI (S : eT') (M : gM) : Prop := ∀ s : Nat, s < 2079 → ∀ j : Nat, j < 3 → bt (M.1 2 s) j = b_ (eSl S j s)
def tpI (S : eT') (M : gM) : Prop := M.1 0 1 = i3 (eTp S) ∧ ∀ i : Nat, i < eTp S → M.1 1 i = i3 (eTb S i)
def CI (S : eT') (t st mt : Nat) (M : gM) : Prop := (sOk S ∧ CB (eR S) (eP S) t st M ∧ M.2.2 0 4 = t ∧ M.2.2 0 5 = 15 - t ∧ M.1 0 3 = i3 (eP S)) ∧ (fI (eR S) (eP S) M ∧ rI (eR S) (eP S) M ∧ bI (eR S) (eP S) M ∧ pI (eR S) M) ∧ (lnI (eR S) (eP S) (eL S) (eLs S) M ∧ exI (eR S) (eP S) (eX S) M) ∧ (fcI (eFc S) (eF S) M ∧ kI (eR S) (eP S) (eFc S) (eF S) M ∧ mtI mt M) ∧ (wkI S M ∧ slI S M ∧ tpI S M ∧ M.1 0 2 = i3 (eFp S))
section
variable {R : tR} {p : Int} {M N : gM}
theorem fI.c (h : fI R p M) (e : N.1 37 10 = M.1 37 10) (e1 : N.1 38 = M.1 38) (e2 : N.1 39 = M.1 39) : fI R p N := by
  unfold fI keO
  rw [e, e1, e2]
  exact h
theorem rI.c (h : rI R p M) (e : N.1 37 11 = M.1 37 11) (e1 : N.1 40 = M.1 40) (e2 : N.1 41 = M.1 41) : rI R p N := by
  unfold rI nOk
  rw [e, e1, e2]
  exact h
theorem bI.c (h : bI R p M) (e : N.1 37 12 = M.1 37 12) (e1 : N.1 42 = M.1 42) : bI R p N := by
  unfold bI
  rw [e, e1]
  exact h
theorem pI.c (h : pI R M) (e : N.1 37 13 = M.1 37 13) (e1 : N.1 43 = M.1 43) : pI R N := by
  unfold pI
  rw [e, e1]
  exact h
theorem lnI.c {L : Nat} {ls : Nat → Nat} (h : lnI R p L ls M) (e : N.1 47 2 = M.1 47 2) (e1 : N.1 48 = M.1 48) (e2 : N.1 49 = M.1 49) : lnI R p L ls N := by
  unfold lnI
  rw [e, e1, e2]
  exact h
theorem exI.c {X : Nat → Int} (h : exI R p X M) (e4 : N.1 47 4 = M.1 47 4) (e5 : N.1 47 5 = M.1 47 5) (e6 : N.1 47 6 = M.1 47 6) (e7 : N.1 47 7 = M.1 47 7) (e1 : N.1 50 = M.1 50) (e2 : N.1 51 = M.1 51) (e3 : N.1 52 = M.1 52) (e8 : N.1 53 = M.1 53) : exI R p X N := by
  unfold exI exE bM
  rw [e1, e2, e3, e4, e5, e6, e7, e8]
  exact h
theorem fcI.c {fc : Nat → Int} {F : Nat} (h : fcI fc F M) (e : N.1 57 1 = M.1 57 1) (e1 : N.1 58 = M.1 58) : fcI fc F N := by
  unfold fcI
  rw [e, e1]
  exact h
theorem kI.c {fc : Nat → Int} {F : Nat} (h : kI R p fc F M) (e : N.1 57 3 = M.1 57 3) (e4 : N.1 57 4 = M.1 57 4) (e1 : N.1 59 = M.1 59) : kI R p fc F N := by
  unfold kI plI
  rw [e, e4, e1]
  exact h
theorem mtI.c {mt : Nat} (h : mtI mt M) (e : N.1 57 12 = M.1 57 12) (e1 : N.1 65 = M.1 65) : mtI mt N := by
  unfold mtI
  rw [e, e1]
  exact h
end
section
variable {S : eT'} {t st mt : Nat} {M N : gM}
theorem wkI.c (h : wkI S M) (e : N.1 66 = M.1 66) (e1 : N.1 67 = M.1 67) (e2 : N.1 68 = M.1 68) (e3 : N.1 69 = M.1 69) : wkI S N := by
  unfold wkI
  rw [e, e1, e2, e3]
  exact h
theorem slI.c (h : slI S M) (e : N.1 2 = M.1 2) : slI S N := by
  unfold slI
  rw [e]
  exact h
theorem tpI.c (h : tpI S M) (e : N.1 0 1 = M.1 0 1) (e1 : N.1 1 = M.1 1) : tpI S N := by
  unfold tpI
  rw [e, e1]
  exact h
/-- nothing that is kept has changed -/
theorem CI.kp {st2 : Nat} {T : List Nat} (h : CI S t st mt M) (hC : CB (eR S) (eP S) t st2 N) (f : Fr T M N) (hT : ∀ k ∈ T, ¬ (k ≤ 2 ∨ (37 ≤ k ∧ k ≤ 43) ∨ (47 ≤ k ∧ k ≤ 53) ∨ (57 ≤ k ∧ k ≤ 59) ∨ 65 ≤ k)) : CI S t st2 mt N := by
  obtain ⟨⟨a1, a2, a3, a4, a5⟩, ⟨b1, b2, b3, b4⟩, ⟨c1, c2⟩, ⟨d1, d2, d3⟩, ⟨w1, w2, w3, w4⟩⟩ := h
  have g : ∀ k, (k ≤ 2 ∨ (37 ≤ k ∧ k ≤ 43) ∨ (47 ≤ k ∧ k ≤ 53) ∨ (57 ≤ k ∧ k ≤ 59) ∨ 65 ≤ k) → N.1 k = M.1 k := fun k hk => f.e1 (fun hm => hT k hm hk)
  have g3 : N.2.2 0 = M.2.2 0 := f.e3 (fun hm => hT 0 hm (by omega))
  exact ⟨⟨a1, hC, by rw [g3, a3], by rw [g3, a4], by rw [g 0 (by omega), a5]⟩, ⟨b1.c (by rw [g 37 (by omega)]) (g 38 (by omega)) (g 39 (by omega)), b2.c (by rw [g 37 (by omega)]) (g 40 (by omega)) (g 41 (by omega)), b3.c (by rw [g 37 (by omega)]) (g 42 (by omega)), b4.c (by rw [g 37 (by omega)]) (g 43 (by omega))⟩, ⟨c1.c (by rw [g 47 (by omega)]) (g 48 (by omega)) (g 49 (by omega)), c2.c (by rw [g 47 (by omega)]) (by rw [g 47 (by omega)]) (by rw [g 47 (by omega)]) (by rw [g 47 (by omega)]) (g 50 (by omega)) (g 51 (by omega)) (g 52 (by omega)) (g 53 (by omega))⟩, ⟨d1.c (by rw [g 57 (by omega)]) (g 58 (by omega)), d2.c (by rw [g 57 (by omega)]) (by rw [g 57 (by omega)]) (g 59 (by omega)), d3.c (by rw [g 57 (by omega)]) (g 65 (by omega))⟩, ⟨w1.c (g 66 (by omega)) (g 67 (by omega)) (g 68 (by omega)) (g 69 (by omega)), w2.c (g 2 (by omega)), w3.c (by rw [g 0 (by omega)]) (g 1 (by omega)), by rw [g 0 (by omega), w4]⟩⟩
theorem CI.or {β : Type} {k : Nat → Option β} (h : CI S t st mt M) : g_or 3 12 (M.2.2 0 4) k = k t := by rw [h.1.2.2.1, or_ok h.1.2.1.1.2.2.1]
theorem CI.has (h : CI S t st mt M) {z : Int} (hz : -2147483648 ≤ z ∧ z < 2147483648) : f_X4_has t (i3 z) M = some (b_ (stP (eR S) z), M) := c_has h.1.1.1 h.1.2.1.1.2.2.2.2.2 hz
theorem st_n {R : tR} {z : Int} (h : stP R z) : ∃ s : Nat, z = s ∧ s < 2079 := ⟨z.toNat, by have := h.1; omega, by have h1 := h.1; have h2 := h.2.1; omega⟩
/-- FATES are found -/
theorem CI.fates (h : CI S t st mt M) : wp (f_X5_findFates M) (fun _ N => CI S t st mt N ∧ keO (eR S) (eP S) N) := by
  obtain ⟨⟨a1, a2, a3, a4, a5⟩, ⟨b1, b2, b3, b4⟩, ⟨c1, c2⟩, ⟨d1, d2, d3⟩, ⟨w1, w2, w3, w4⟩⟩ := id h
  refine wp_mono (k_fates a2 b1) (fun _ N hN => ?_)
  obtain ⟨g1, f, g3, g4, g5⟩ := hN
  exact ⟨⟨⟨a1, g1, by rw [f.e3 (by decide), a3], by rw [f.e3 (by decide), a4], by rw [f.e1 (by decide), a5]⟩, ⟨Or.inr ⟨g4, g3⟩, b2.c (g5 11 (by decide)) (f.e1 (by decide)) (f.e1 (by decide)), b3.c (g5 12 (by decide)) (f.e1 (by decide)), b4.c (g5 13 (by decide)) (f.e1 (by decide))⟩, ⟨c1.c (by rw [f.e1 (by decide)]) (f.e1 (by decide)) (f.e1 (by decide)), c2.c (by rw [f.e1 (by decide)]) (by rw [f.e1 (by decide)]) (by rw [f.e1 (by decide)]) (by rw [f.e1 (by decide)]) (f.e1 (by decide)) (f.e1 (by decide)) (f.e1 (by decide)) (f.e1 (by decide))⟩, ⟨d1.c (by rw [f.e1 (by decide)]) (f.e1 (by decide)), d2.c (by rw [f.e1 (by decide)]) (by rw [f.e1 (by decide)]) (f.e1 (by decide)), d3.c (by rw [f.e1 (by decide)]) (f.e1 (by decide))⟩, ⟨w1.c (f.e1 (by decide)) (f.e1 (by decide)) (f.e1 (by decide)) (f.e1 (by decide)), w2.c (f.e1 (by decide)), w3.c (by rw [f.e1 (by decide)]) (f.e1 (by decide)), by rw [f.e1 (by decide), w4]⟩⟩, g3⟩
theorem CI.reaches (h : CI S t st mt M) : wp (f_X5_findReaches M) (fun _ N => CI S t st mt N ∧ nOk (eR S) (eP S) N) := by
  obtain ⟨⟨a1, a2, a3, a4, a5⟩, ⟨b1, b2, b3, b4⟩, ⟨c1, c2⟩, ⟨d1, d2, d3⟩, ⟨w1, w2, w3, w4⟩⟩ := id h
  refine wp_mono (k_reaches a2 b2) (fun _ N hN => ?_)
  obtain ⟨g1, f, g3, g4, g5⟩ := hN
  exact ⟨⟨⟨a1, g1, by rw [f.e3 (by decide), a3], by rw [f.e3 (by decide), a4], by rw [f.e1 (by decide), a5]⟩, ⟨b1.c (g5 10 (by decide)) (f.e1 (by decide)) (f.e1 (by decide)), Or.inr ⟨g4, g3⟩, b3.c (g5 12 (by decide)) (f.e1 (by decide)), b4.c (g5 13 (by decide)) (f.e1 (by decide))⟩, ⟨c1.c (by rw [f.e1 (by decide)]) (f.e1 (by decide)) (f.e1 (by decide)), c2.c (by rw [f.e1 (by decide)]) (by rw [f.e1 (by decide)]) (by rw [f.e1 (by decide)]) (by rw [f.e1 (by decide)]) (f.e1 (by decide)) (f.e1 (by decide)) (f.e1 (by decide)) (f.e1 (by decide))⟩, ⟨d1.c (by rw [f.e1 (by decide)]) (f.e1 (by decide)), d2.c (by rw [f.e1 (by decide)]) (by rw [f.e1 (by decide)]) (f.e1 (by decide)), d3.c (by rw [f.e1 (by decide)]) (f.e1 (by decide))⟩, ⟨w1.c (f.e1 (by decide)) (f.e1 (by decide)) (f.e1 (by decide)) (f.e1 (by decide)), w2.c (f.e1 (by decide)), w3.c (by rw [f.e1 (by decide)]) (f.e1 (by decide)), by rw [f.e1 (by decide), w4]⟩⟩, g3⟩
/-! the calls, by the class -/
theorem K_state (h : CI S t st mt M) {a l s : Int} (ha : -2147483648 ≤ a ∧ a < 2147483648) (hl : -2147483648 ≤ l ∧ l < 2147483648) (hs : -2147483648 ≤ s ∧ s < 2147483648) : wp (f_X9_state (i3 a) (i3 l) (i3 s) M) (fun r N => r = i3 (@ite _ (inR (eR S) a l s) (Classical.propDecidable _) (nuZ a l s) (-1)) ∧ CI S t st mt N) := by
  rw [f_X9_state, h.or, c_number h.1.1.1 h.1.2.1.1.2.2.2.2.2 ha hl hs, g_b_some, wp_some]
  exact ⟨rfl, h⟩
noncomputable def aCan (S : eT') (z a : Int) : Int := @ite _ (stP (eR S) z ∧ 0 ≤ a ∧ a < rNa (eR S)) (Classical.propDecidable _) (@ite _ (caP (eR S) (eP S) z.toNat a.toNat) (Classical.propDecidable _) 1 0) (-1)
theorem K_can (h : CI S t st mt M) {z a : Int} (hz : -2147483648 ≤ z ∧ z < 2147483648) (ha : -2147483648 ≤ a ∧ a < 2147483648) : wp (f_X9_can (i3 z) (i3 a) M) (fun r N => r = i3 (aCan S z a) ∧ CI S t st mt N) := by
  have hna := h.1.1.1.2.1
  rw [f_X9_can, h.or, h.has hz, g_b_some, b_if]
  unfold aCan
  refine wp_if (fun hx => ?_) (fun hx => ?_)
  · obtain ⟨s, rfl, hs⟩ := st_n hx
    rw [h.or, c_hasAct h.1.1.1 h.1.2.1.1.2.2.2.2.2 ha, g_b_some, b_if]
    refine wp_if (fun hy => ?_) (fun hy => ?_)
    · obtain ⟨b, rfl⟩ : ∃ b : Nat, a = b := ⟨a.toNat, by omega⟩
      rw [if_pos ⟨hx, hy⟩, Int.toNat_natCast, Int.toNat_natCast]
      refine wp_b _ (c_allows hs (by omega) h.1.2.1) (fun r N hN => ?_)
      obtain ⟨rfl, g1, g2⟩ := hN
      have hN := h.kp g1 g2 (by decide)
      rw [b_if]
      refine wp_if (fun hc => ?_) (fun hc => ?_)
      · rw [wp_some, if_pos hc]; exact ⟨rfl, hN⟩
      · rw [wp_some, if_neg hc]; exact ⟨rfl, hN⟩
    · rw [wp_some, if_neg (fun g => hy g.2)]
      exact ⟨rfl, h⟩
  · rw [wp_some, if_neg (fun g => hx g.1)]
    exact ⟨rfl, h⟩
noncomputable def aGust (S : eT') (z : Int) (b : Bool) : Int := @ite _ (stP (eR S) z) (Classical.propDecidable _) (if b then hiR (eR S) (eP S) z.toNat else loR (eR S) (eP S) z.toNat) (-100)
theorem K_gust (h : CI S t st mt M) {z : Int} {b : Bool} (hz : -2147483648 ≤ z ∧ z < 2147483648) : wp (f_X9_gust (i3 z) b M) (fun r N => r = i3 (aGust S z b) ∧ CI S t st mt N) := by
  rw [f_X9_gust, h.or, h.has hz, g_b_some, b_if]
  unfold aGust
  refine wp_if (fun hx => ?_) (fun hx => ?_)
  · obtain ⟨s, rfl, hs⟩ := st_n hx
    rw [if_pos hx, Int.toNat_natCast]
    cases b with
    | true =>
      rw [if_pos rfl]
      refine wp_b _ (c_great hs h.1.2.1) (fun r N hN => ?_)
      rw [wp_some]
      exact ⟨hN.1, h.kp hN.2.1 hN.2.2 (by decide)⟩
    | false =>
      rw [if_neg (by decide)]
      refine wp_b _ (c_least hs h.1.2.1) (fun r N hN => ?_)
      rw [wp_some]
      exact ⟨hN.1, h.kp hN.2.1 hN.2.2 (by decide)⟩
  · rw [wp_some, if_neg hx]
    exact ⟨rfl, h⟩
noncomputable def aNext (S : eT') (z a g : Int) : Int := @ite _ (stP (eR S) z ∧ (0 ≤ a ∧ a < rNa (eR S)) ∧ -12 ≤ g ∧ g ≤ 12) (Classical.propDecidable _) (@ite _ (caP (eR S) (eP S) z.toNat a.toNat) (Classical.propDecidable _) (nxR (eR S) (eP S) z.toNat a.toNat g) (-3)) (-1)
theorem k_isF {M : gM} {g : Int} (hg : -2147483648 ≤ g ∧ g < 2147483648) : f_X9_isForecast (i3 g) M = some (b_ (-12 ≤ g ∧ g ≤ 12), M) := by
  rw [f_X9_isForecast, show ((-12) : Int32) = i3 (-12) from rfl]
  simp (disch := omega) only [iL12, i3_lt]
  by_cases h1 : g < -12
  · rw [if_pos h1, b_f (by omega)]
  · rw [if_neg h1]
    by_cases h2 : 12 < g
    · rw [if_pos h2, b_f (by omega)]
    · rw [if_neg h2, b_t (by omega)]
theorem K_next (h : CI S t st mt M) {z a g : Int} (hz : -2147483648 ≤ z ∧ z < 2147483648) (ha : -2147483648 ≤ a ∧ a < 2147483648) (hg : -2147483648 ≤ g ∧ g < 2147483648) : wp (f_X9_next (i3 z) (i3 a) (i3 g) M) (fun r N => r = i3 (aNext S z a g) ∧ CI S t st mt N) := by
  have hna := h.1.1.1.2.1
  rw [f_X9_next, h.or, h.has hz, g_b_some, b_if]
  unfold aNext
  refine wp_if (fun hx => ?_) (fun hx => ?_)
  · obtain ⟨s, rfl, hs⟩ := st_n hx
    rw [h.or, c_hasAct h.1.1.1 h.1.2.1.1.2.2.2.2.2 ha, g_b_some, b_if]
    refine wp_if (fun hy => ?_) (fun hy => ?_)
    · obtain ⟨b, rfl⟩ : ∃ b : Nat, a = b := ⟨a.toNat, by omega⟩
      rw [k_isF hg, g_b_some, b_if]
      refine wp_if (fun hw => ?_) (fun hw => ?_)
      · rw [if_pos ⟨hx, hy, hw⟩, Int.toNat_natCast, Int.toNat_natCast]
        refine wp_b _ (c_allows hs (by omega) h.1.2.1) (fun r N hN => ?_)
        obtain ⟨rfl, g1, g2⟩ := hN
        rw [b_if]
        refine wp_if (fun hc => ?_) (fun hc => ?_)
        · refine wp_b _ (c_after hs hc.1 hw g1) (fun r N2 hN => ?_)
          obtain ⟨rfl, u1, u2⟩ := hN
          rw [wp_some, if_pos hc]
          exact ⟨rfl, (h.kp g1 g2 (by decide)).kp u1 u2 (by decide)⟩
        · rw [wp_some, if_neg hc]
          exact ⟨rfl, h.kp g1 g2 (by decide)⟩
      · rw [wp_some, if_neg (fun g => hw g.2.2)]
        exact ⟨rfl, h⟩
    · rw [wp_some, if_neg (fun g => hy g.2.1)]
      exact ⟨rfl, h⟩
  · rw [wp_some, if_neg (fun g => hx g.1)]
    exact ⟨rfl, h⟩
noncomputable def aSt (S : eT') (z : Int) (f : Nat → Int) : Int := @ite _ (stP (eR S) z) (Classical.propDecidable _) (f z.toNat) (-1)
theorem aSt_t {z : Int} {f : Nat → Int} {s : Nat} (h : stP (eR S) z) (e : z = s) : aSt S z f = f s := by
  unfold aSt
  rw [if_pos h, e, Int.toNat_natCast]
theorem aSt_f {z : Int} {f : Nat → Int} (h : ¬ stP (eR S) z) : aSt S z f = -1 := if_neg h
theorem K_fate (h : CI S t st mt M) {z : Int} (hz : -2147483648 ≤ z ∧ z < 2147483648) : wp (f_X9_fate (i3 z) M) (fun r N => r = i3 (aSt S z (faR (eR S) (eP S))) ∧ CI S t st mt N) := by
  rw [f_X9_fate, h.or, h.has hz, g_b_some, b_if]
  refine wp_if (fun hx => ?_) (fun hx => ?_)
  · obtain ⟨s, e, hs⟩ := st_n hx
    rw [aSt_t hx e]
    subst e
    refine wp_b _ h.fates (fun _ N hN => ?_)
    obtain ⟨hN, hk⟩ := hN
    have hr := fc_r (R := eR S) (p := eP S) (s := s)
    rw [ck_ok (by omega) (by omega) (by omega), wp_v, tn_n (by omega), (hk s hs).1]
    simp (disch := omega) only [iL1048576, i3_eq]
    rcases fa_x (p := eP S) hx with ⟨g1, g2⟩ | ⟨g1, n, g2, g3, -⟩
    · rw [if_pos (fc_e.2 g1), wp_some, g2]
      exact ⟨rfl, hN⟩
    · rw [if_neg (fun e => g1 (fc_e.1 e)), wp_some]
      refine ⟨?_, hN⟩
      unfold fcR
      rw [if_pos hx, if_neg g1]
  · rw [wp_some, aSt_f hx]
    exact ⟨rfl, h⟩
theorem K_keep (h : CI S t st mt M) {z : Int} (hz : -2147483648 ≤ z ∧ z < 2147483648) : wp (f_X9_keep (i3 z) M) (fun r N => r = i3 (aSt S z (keR (eR S) (eP S))) ∧ CI S t st mt N) := by
  rw [f_X9_keep, h.or, h.has hz, g_b_some, b_if]
  refine wp_if (fun hx => ?_) (fun hx => ?_)
  · obtain ⟨s, e, hs⟩ := st_n hx
    rw [aSt_t hx e]
    subst e
    refine wp_b _ h.fates (fun _ N hN => ?_)
    obtain ⟨hN, hk⟩ := hN
    rw [ck_ok (by omega) (by omega) (by omega), wp_some, tn_n (by omega), (hk s hs).2 hx]
    exact ⟨rfl, hN⟩
  · rw [wp_some, aSt_f hx]
    exact ⟨rfl, h⟩
theorem K_reach (h : CI S t st mt M) {z : Int} (hz : -2147483648 ≤ z ∧ z < 2147483648) : wp (f_X9_reach (i3 z) M) (fun r N => r = i3 (aSt S z (reR (eR S) (eP S))) ∧ CI S t st mt N) := by
  rw [f_X9_reach, h.or, h.has hz, g_b_some, b_if]
  refine wp_if (fun hx => ?_) (fun hx => ?_)
  · obtain ⟨s, e, hs⟩ := st_n hx
    rw [aSt_t hx e]
    subst e
    refine wp_b _ h.reaches (fun _ N hN => ?_)
    obtain ⟨hN, hk⟩ := hN
    rw [ck_ok (by omega) (by omega) (by omega), wp_v, tn_n (by omega), (hk s hs hx).1, show ((-1048576) : Int32) = i3 (-1048576) from rfl]
    unfold ncR
    rcases re_x (R := eR S) (p := eP S) (s := s) with ⟨g1, -⟩ | ⟨n, g1, g2, -⟩
    · rw [if_pos g1, if_pos rfl, wp_some, g1]
      exact ⟨rfl, hN⟩
    · rw [g2, if_neg (show ¬ (n : Int) = -2 by omega)]
      simp (disch := omega) only [i3_eq]
      rw [if_neg (by omega), wp_some, i3_neg]
      refine ⟨?_, hN⟩
      congr 1
      omega
  · rw [wp_some, aSt_f hx]
    exact ⟨rfl, h⟩
theorem K_lead (h : CI S t st mt M) {z : Int} (hz : -2147483648 ≤ z ∧ z < 2147483648) : wp (f_X9_lead (i3 z) M) (fun r N => r = i3 (aSt S z (ldR (eR S) (eP S))) ∧ CI S t st mt N) := by
  rw [f_X9_lead, h.or, h.has hz, g_b_some, b_if]
  refine wp_if (fun hx => ?_) (fun hx => ?_)
  · obtain ⟨s, e, hs⟩ := st_n hx
    rw [aSt_t hx e]
    subst e
    refine wp_b _ h.reaches (fun _ N hN => ?_)
    obtain ⟨hN, hk⟩ := hN
    rw [ck_ok (by omega) (by omega) (by omega), wp_some, tn_n (by omega), (hk s hs hx).2]
    exact ⟨rfl, hN⟩
  · rw [wp_some, aSt_f hx]
    exact ⟨rfl, h⟩
theorem K_borne (h : CI S t st mt M) {z : Int} (hz : -2147483648 ≤ z ∧ z < 2147483648) : wp (f_X9_borne (i3 z) M) (fun r N => r = i3 (aSt S z (boR (eR S) (eP S))) ∧ CI S t st mt N) := by
  rw [f_X9_borne, h.or, h.has hz, g_b_some, b_if]
  refine wp_if (fun hx => ?_) (fun hx => ?_)
  · obtain ⟨s, e, hs⟩ := st_n hx
    rw [aSt_t hx e]
    subst e
    refine wp_b _ h.fates (fun _ N hN => ?_)
    obtain ⟨hN, hk⟩ := hN
    obtain ⟨⟨a1, a2, a3, a4, a5⟩, ⟨b1, b2, b3, b4⟩, ⟨c1, c2⟩, ⟨d1, d2, d3⟩, ⟨w1, w2, w3, w4⟩⟩ := id hN
    refine wp_b _ (k_bear hs a2 hk b3) (fun r N2 hN2 => ?_)
    obtain ⟨rfl, g1, f, g3, g5⟩ := hN2
    rw [wp_some]
    exact ⟨rfl, ⟨⟨a1, g1, by rw [f.e3 (by decide), a3], by rw [f.e3 (by decide), a4], by rw [f.e1 (by decide), a5]⟩, ⟨b1.c (g5 10 (by decide)) (f.e1 (by decide)) (f.e1 (by decide)), b2.c (g5 11 (by decide)) (f.e1 (by decide)) (f.e1 (by decide)), g3, b4.c (g5 13 (by decide)) (f.e1 (by decide))⟩, ⟨c1.c (by rw [f.e1 (by decide)]) (f.e1 (by decide)) (f.e1 (by decide)), c2.c (by rw [f.e1 (by decide)]) (by rw [f.e1 (by decide)]) (by rw [f.e1 (by decide)]) (by rw [f.e1 (by decide)]) (f.e1 (by decide)) (f.e1 (by decide)) (f.e1 (by decide)) (f.e1 (by decide))⟩, ⟨d1.c (by rw [f.e1 (by decide)]) (f.e1 (by decide)), d2.c (by rw [f.e1 (by decide)]) (by rw [f.e1 (by decide)]) (f.e1 (by decide)), d3.c (by rw [f.e1 (by decide)]) (f.e1 (by decide))⟩, ⟨w1.c (f.e1 (by decide)) (f.e1 (by decide)) (f.e1 (by decide)) (f.e1 (by decide)), w2.c (f.e1 (by decide)), w3.c (by rw [f.e1 (by decide)]) (f.e1 (by decide)), by rw [f.e1 (by decide), w4]⟩⟩⟩
  · rw [wp_some, aSt_f hx]
    exact ⟨rfl, h⟩
theorem K_poles (h : CI S t st mt M) (hst : st + 5 < 65536) {z : Int} (hz : -2147483648 ≤ z ∧ z < 2147483648) : wp (f_X9_poles (i3 z) M) (fun r N => r = i3 (aSt S z (poR (eR S))) ∧ ∃ st2, st2 ≤ st + 5 ∧ CI S t st2 mt N) := by
  rw [f_X9_poles, h.or, h.has hz, g_b_some, b_if]
  refine wp_if (fun hx => ?_) (fun hx => ?_)
  · obtain ⟨s, e, hs⟩ := st_n hx
    rw [aSt_t hx e]
    subst e
    obtain ⟨⟨a1, a2, a3, a4, a5⟩, ⟨b1, b2, b3, b4⟩, ⟨c1, c2⟩, ⟨d1, d2, d3⟩, ⟨w1, w2, w3, w4⟩⟩ := id h
    refine wp_b _ (k_pole hs hst a2 b4) (fun r N2 hN2 => ?_)
    obtain ⟨rfl, f, g5, g3, st2, g6, g1⟩ := hN2
    rw [wp_some]
    exact ⟨rfl, st2, g6, ⟨⟨a1, g1, by rw [f.e3 (by decide), a3], by rw [f.e3 (by decide), a4], by rw [f.e1 (by decide), a5]⟩, ⟨b1.c (g5 10 (by decide)) (f.e1 (by decide)) (f.e1 (by decide)), b2.c (g5 11 (by decide)) (f.e1 (by decide)) (f.e1 (by decide)), b3.c (g5 12 (by decide)) (f.e1 (by decide)), g3⟩, ⟨c1.c (by rw [f.e1 (by decide)]) (f.e1 (by decide)) (f.e1 (by decide)), c2.c (by rw [f.e1 (by decide)]) (by rw [f.e1 (by decide)]) (by rw [f.e1 (by decide)]) (by rw [f.e1 (by decide)]) (f.e1 (by decide)) (f.e1 (by decide)) (f.e1 (by decide)) (f.e1 (by decide))⟩, ⟨d1.c (by rw [f.e1 (by decide)]) (f.e1 (by decide)), d2.c (by rw [f.e1 (by decide)]) (by rw [f.e1 (by decide)]) (f.e1 (by decide)), d3.c (by rw [f.e1 (by decide)]) (f.e1 (by decide))⟩, ⟨w1.c (f.e1 (by decide)) (f.e1 (by decide)) (f.e1 (by decide)) (f.e1 (by decide)), w2.c (f.e1 (by decide)), w3.c (by rw [f.e1 (by decide)]) (f.e1 (by decide)), by rw [f.e1 (by decide), w4]⟩⟩⟩
  · rw [wp_some, aSt_f hx]
    exact ⟨rfl, st, by omega, h⟩
end
