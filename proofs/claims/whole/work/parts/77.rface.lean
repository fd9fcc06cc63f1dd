/-! ===== the reference: what it keeps ===== -/
def uJ (R : tR) (p : Int) (M : gM) : Prop := M.1 0 72 = 1 → M.1 0 75 = 0 ∨ (M.1 0 75 = 1 ∧ uOk R p M)
def vJ (R : tR) (p : Int) (M : gM) : Prop := M.1 0 72 = 1 → M.1 0 74 = 0 ∨ (M.1 0 74 = 1 ∧ vOk R p M)
def xK (R : tR) (M : gM) : Prop := M.1 0 73 = 0 ∨ (M.1 0 73 = 1 ∧ xOk R M)
def wkJ (S : eT') (M : gM) : Prop := ((M.1 0 53 = 0 ∧ eWc S < 0) ∨ (M.1 0 53 = 1 ∧ 0 ≤ eWc S ∧ M.1 0 54 = i3 (eWc S))) ∧ (∀ i : Nat, (i : Int) ≤ eWc S → M.1 41 i = i3 (eWs S i)) ∧ ∀ i : Nat, (i : Int) < eWc S → M.1 42 i = i3 (eWa S i) ∧ M.1 43 i = i3 (eWg S i)
def slJ (S : eT') (M : gM) : Prop := ∀ j : Nat, j < 3 → ∀ s : Nat, s < 2079 → M.1 44 (2079 * j + s) = b2i (b_ (eSl S j s))
def tpJ (S : eT') (M : gM) : Prop := M.1 0 1 = i3 (eTp S) ∧ ∀ i : Nat, i < eTp S → M.1 1 i = i3 (eTb S i)
def DI (S : eT') (h : Nat) (M : gM) : Prop := (sOk S ∧ B2 (eR S) (eP S) h M) ∧ (lI (eR S) (eP S) M ∧ uJ (eR S) (eP S) M ∧ vJ (eR S) (eP S) M) ∧ xK (eR S) M ∧ (lnJ (eR S) (eP S) (eL S) (eLs S) M ∧ xJ (eR S) (eP S) (eX S) M) ∧ fcJ (eFc S) (eF S) M ∧ (wkJ S M ∧ slJ S M ∧ tpJ S M ∧ M.1 0 10 = i3 (eFp S))
section
variable {R : tR} {p : Int} {M N : gM} {T J : List Nat}
theorem h2_f (h : lI R p M ∧ uJ R p M ∧ vJ R p M) (f : Fo T J M N) (hT : ∀ k ∈ T, ¬ (47 ≤ k ∧ k ≤ 53)) (hJ : ∀ k ∈ J, ¬ (k = 72 ∨ k = 74 ∨ k = 75)) : lI R p N ∧ uJ R p N ∧ vJ R p N := by
  obtain ⟨h1, h2, h3⟩ := h
  have g : ∀ k, (47 ≤ k ∧ k ≤ 53) → N.1 k = M.1 k := fun k hk => f.e1 (by omega) (fun hm => hT k hm hk)
  have g0 : ∀ k, (k = 72 ∨ k = 74 ∨ k = 75) → N.1 0 k = M.1 0 k := fun k hk => f.e0 (fun hm => hJ k hm hk)
  refine ⟨?_, ?_, ?_⟩
  · unfold lI gOk
    rw [g0 72 (by omega), g 51 (by omega)]
    rcases h1 with h | ⟨e1, e2, e3⟩
    · exact Or.inl h
    · exact Or.inr ⟨e1, e2.mv f (fun k hk => by have := hT k hk; omega), e3⟩
  · unfold uJ uOk
    rw [g0 72 (by omega), g0 75 (by omega), g 52 (by omega)]
    exact h2
  · unfold vJ vOk
    rw [g0 72 (by omega), g0 74 (by omega), g 53 (by omega)]
    exact h3
theorem h3_f (h : xK R M) (f : Fo T J M N) (hT : 54 ∉ T) (hJ : 73 ∉ J) : xK R N := by
  unfold xK xOk
  rw [f.e0 hJ, f.e1 (by omega) hT]
  exact h
theorem rx_f {X : Nat → Int} (h : rxI R p X M) (f : Fo T J M N) (hT : ∀ k ∈ T, ¬ (56 ≤ k ∧ k ≤ 58)) : rxI R p X N := by
  have g : ∀ k, (56 ≤ k ∧ k ≤ 58) → N.1 k = M.1 k := fun k hk => f.e1 (by omega) (fun hm => hT k hm hk)
  unfold rxI rfI
  rw [g 56 (by omega), g 57 (by omega), g 58 (by omega)]
  exact h
theorem h4_f {L : Nat} {ls : Nat → Nat} {X : Nat → Int} (h : lnJ R p L ls M ∧ xJ R p X M) (f : Fo T J M N) (hT : ∀ k ∈ T, ¬ (k = 39 ∨ k = 40 ∨ (56 ≤ k ∧ k ≤ 58))) (hJ : ∀ k ∈ J, ¬ (k = 50 ∨ k = 72 ∨ k = 76)) : lnJ R p L ls N ∧ xJ R p X N := by
  refine ⟨h.1.mv f (fun hm => hT 39 hm (by omega)) (fun hm => hT 40 hm (by omega)) (fun hm => hJ 50 hm (by omega)), ?_⟩
  unfold xJ
  rw [f.e0 (fun hm => hJ 72 hm (by omega)), f.e0 (fun hm => hJ 76 hm (by omega))]
  intro e
  rcases h.2 e with e2 | ⟨e2, e3⟩
  · exact Or.inl e2
  · exact Or.inr ⟨e2, rx_f e3 f (fun k hk hx => hT k hk (by omega))⟩
theorem h6_f {S : eT'} (h : wkJ S M ∧ slJ S M ∧ tpJ S M ∧ M.1 0 10 = i3 (eFp S)) (f : Fo T J M N) (hT : ∀ k ∈ T, ¬ (k = 1 ∨ (41 ≤ k ∧ k ≤ 44))) (hJ : ∀ k ∈ J, ¬ (k = 1 ∨ k = 10 ∨ k = 53 ∨ k = 54)) : wkJ S N ∧ slJ S N ∧ tpJ S N ∧ N.1 0 10 = i3 (eFp S) := by
  have g : ∀ k, (k = 1 ∨ (41 ≤ k ∧ k ≤ 44)) → N.1 k = M.1 k := fun k hk => f.e1 (by omega) (fun hm => hT k hm hk)
  have g0 : ∀ k, (k = 1 ∨ k = 10 ∨ k = 53 ∨ k = 54) → N.1 0 k = M.1 0 k := fun k hk => f.e0 (fun hm => hJ k hm hk)
  unfold wkJ slJ tpJ
  rw [g 1 (by omega), g 41 (by omega), g 42 (by omega), g 43 (by omega), g 44 (by omega), g0 1 (by omega), g0 10 (by omega), g0 53 (by omega), g0 54 (by omega)]
  exact h
end
section
variable {S : eT'} {h : Nat} {M N : gM}
theorem DI.kp {T J : List Nat} (H : DI S h M) (f : Fo T J M N) (hT : ∀ k ∈ T, k = 45 ∨ k = 46 ∨ k = 55 ∨ 59 ≤ k) (hJ : ∀ k ∈ J, k = 0 ∨ (64 ≤ k ∧ k ≤ 71)) : DI S h N := by
  obtain ⟨⟨a1, a2⟩, b, c, d, e, w⟩ := H
  have nT : ∀ k, ¬ (k = 45 ∨ k = 46 ∨ k = 55 ∨ 59 ≤ k) → k ∉ T := fun k hk hm => hk (hT k hm)
  have nJ : ∀ k, ¬ (k = 0 ∨ (64 ≤ k ∧ k ≤ 71)) → k ∉ J := fun k hk hm => hk (hJ k hm)
  exact ⟨⟨a1, a2.mv f (fun k hk => by have := hT k hk; omega) ⟨nJ _ (by omega), nJ _ (by omega)⟩⟩, h2_f b f (fun k hk => by have := hT k hk; omega) (fun k hk => by have := hJ k hk; omega), h3_f c f (nT _ (by omega)) (nJ _ (by omega)), h4_f d f (fun k hk => by have := hT k hk; omega) (fun k hk => by have := hJ k hk; omega), e.mv f (nT _ (by omega)) (nJ _ (by omega)), h6_f w f (fun k hk => by have := hT k hk; omega) (fun k hk => by have := hJ k hk; omega)⟩
theorem DI.st (H : DI S h M) {z : Int} (hz : -2147483648 ≤ z ∧ z < 2147483648) : f_X10_isState (i3 z) M = some (b_ (stP (eR S) z), M) := d_state H.1.2 hz
def L2 (S : eT') (h : Nat) (N : gM) : Prop := DI S h N ∧ D2 (eR S) (eP S) h N ∧ gOk (eR S) (eP S) N ∧ N.1 0 72 = 1
theorem DI.lay (H : DI S h M) : wp (f_X10_lay M) (fun _ N => L2 S h N) := by
  obtain ⟨⟨a1, a2⟩, ⟨b1, b2, b3⟩, c, ⟨d1, d2⟩, e, w⟩ := id H
  refine wp_mono (d_lay a2 b1) (fun _ N hN => ?_)
  obtain ⟨f, g1, g2, g3, g4⟩ := hN
  rcases g4 with ⟨g5, rfl⟩ | ⟨g5, g6, g7, g8⟩
  · exact ⟨H, g1, g2, g3⟩
  · exact ⟨⟨⟨a1, g1.1⟩, ⟨Or.inr ⟨g3, g1.2, g2⟩, fun _ => Or.inl g7, fun _ => Or.inl g6⟩, h3_f c f (by decide) (by decide), ⟨d1.mv f (by decide) (by decide) (by decide), fun _ => Or.inl g8⟩, e.mv f (by decide) (by decide), h6_f w f (by decide) (by decide)⟩, g1, g2, g3⟩
theorem DI.all (H : DI S h M) : wp (f_X10_reflexAll M) (fun _ N => L2 S h N ∧ rxI (eR S) (eP S) (eX S) N) := by
  obtain ⟨⟨a1, a2⟩, ⟨b1, b2, b3⟩, c, ⟨d1, d2⟩, e, w⟩ := id H
  refine wp_mono (d_refAll a2 b1 d1 d2) (fun _ N hN => ?_)
  obtain ⟨f, g1, g2, g3, g4, g5, g6, g7⟩ := hN
  refine ⟨⟨⟨⟨a1, g1.1⟩, ⟨Or.inr ⟨g3, g1.2, g2⟩, fun _ => ?_, fun _ => ?_⟩, h3_f c f (by decide) (by decide), ⟨d1.mv f (by decide) (by decide) (by decide), fun _ => Or.inr ⟨g4, g5⟩⟩, e.mv f (by decide) (by decide), h6_f w f (by decide) (by decide)⟩, g1, g2, g3⟩, g5⟩
  · rcases b1 with e0 | ⟨e0, -⟩
    · exact Or.inl (g7 e0).2
    · unfold uOk
      rw [(g6 e0).2, f.e1 (by decide) (by decide)]
      exact b2 e0
  · rcases b1 with e0 | ⟨e0, -⟩
    · exact Or.inl (g7 e0).1
    · unfold vOk
      rw [(g6 e0).1, f.e1 (by decide) (by decide)]
      exact b3 e0
theorem DI.rch (H : DI S h M) : wp (f_X10_reaches M) (fun _ N => L2 S h N ∧ uOk (eR S) (eP S) N) := by
  rw [f_X10_reaches]
  refine wp_b _ H.lay (fun _ N hN => ?_)
  obtain ⟨hN, g1, g2, g3⟩ := hN
  obtain ⟨⟨a1, a2⟩, ⟨b1, b2, b3⟩, c, ⟨d1, d2⟩, e, w⟩ := id hN
  refine wp_if (fun h0 => ?_) (fun h0 => ?_)
  · rw [wp_m]
    have f0 : Fo [] [75] N (sI N 0 75 1) := Fo.rf.o (by decide)
    refine wp_mono (d_r19 (g1.mv f0 (by decide) (by decide))) (fun _ N2 hN2 => ?_)
    obtain ⟨f1, u⟩ := hN2
    have f : Fo [52] [75] N N2 := (f0.up (by decide) (by decide)).tr (f1.up (by decide) (by decide))
    have e75 : N2.1 0 75 = 1 := by rw [f1.e0 (by decide), rI_e, up_e]
    have g1' := g1.mv f (by decide) (by decide)
    have g2' : gOk (eR S) (eP S) N2 := by
      unfold gOk
      rw [f.e1 (by decide) (by decide)]
      exact g2
    have g3' : N2.1 0 72 = 1 := by rw [f.e0 (by decide), g3]
    refine ⟨⟨⟨⟨a1, g1'.1⟩, ⟨Or.inr ⟨g3', g1'.2, g2'⟩, fun _ => Or.inr ⟨e75, u⟩, ?_⟩, h3_f c f (by decide) (by decide), h4_f ⟨d1, d2⟩ f (by decide) (by decide), e.mv f (by decide) (by decide), h6_f w f (by decide) (by decide)⟩, g1', g2', g3'⟩, u⟩
    unfold vJ vOk
    rw [f.e0 (by decide), f.e0 (by decide), f.e1 (by decide) (by decide)]
    exact b3
  · rw [wp_some]
    rcases b2 g3 with e0 | ⟨-, u⟩
    · exact absurd e0 h0
    · exact ⟨⟨hN, g1, g2, g3⟩, u⟩
/-! the calls, by the reference -/
theorem R_state (H : DI S h M) {a l s : Int} (ha : -2147483648 ≤ a ∧ a < 2147483648) (hl : -2147483648 ≤ l ∧ l < 2147483648) (hs : -2147483648 ≤ s ∧ s < 2147483648) : wp (f_X10_state (i3 a) (i3 l) (i3 s) M) (fun r N => r = i3 (@ite _ (inR (eR S) a l s) (Classical.propDecidable _) (nuZ a l s) (-1)) ∧ DI S h N) := by
  rw [f_X10_state, d_place H.1.2 ha hl hs, g_b_some, b_if]
  refine wp_if (fun hx => ?_) (fun hx => ?_)
  · rw [f_X10_numberOf, g_b_some, wp_some, if_pos hx]
    refine ⟨?_, H⟩
    simp only [iL21, iL10, iL11, iL5, i3_add, i3_mul]
    rfl
  · rw [wp_some, if_neg hx]
    exact ⟨rfl, H⟩
theorem d_isAct (H : DI S h M) {a : Int} (ha : -2147483648 ≤ a ∧ a < 2147483648) : f_X10_isAct (i3 a) M = some (b_ (0 ≤ a ∧ a < rNa (eR S)), M) := by
  have hna := H.1.1.1.2.1
  rw [f_X10_isAct, d_acts H.1.2, g_b_some]
  simp (disch := omega) only [iL0, i3_lt, i3_le]
  by_cases h1 : a < 0
  · rw [if_pos h1, b_f (by omega)]
  · rw [if_neg h1]
    by_cases h2 : (rNa (eR S) : Int) ≤ a
    · rw [if_pos h2, b_f (by omega)]
    · rw [if_neg h2, b_t (by omega)]
theorem ix_6 {s b : Nat} : (6 : Int32) * i3 (s : Int) + i3 (b : Int) = i3 ((6 * s + b : Nat) : Int) := by
  rw [iL6, i3_mul, i3_add]
  rfl
theorem R_can (H : DI S h M) {z a : Int} (hz : -2147483648 ≤ z ∧ z < 2147483648) (ha : -2147483648 ≤ a ∧ a < 2147483648) : wp (f_X10_can (i3 z) (i3 a) M) (fun r N => r = i3 (aCan S z a) ∧ DI S h N) := by
  have hna := H.1.1.1.2.1
  rw [f_X10_can, H.st hz, g_b_some, b_if]
  unfold aCan
  refine wp_if (fun hx => ?_) (fun hx => ?_)
  · obtain ⟨s, rfl, hs⟩ := st_n hx
    rw [d_isAct H ha, g_b_some, b_if]
    refine wp_if (fun hy => ?_) (fun hy => ?_)
    · obtain ⟨b, rfl⟩ : ∃ b : Nat, a = b := ⟨a.toNat, by omega⟩
      rw [if_pos ⟨hx, hy⟩, Int.toNat_natCast, Int.toNat_natCast]
      refine wp_b _ H.lay (fun _ N hN => ?_)
      rw [ix_6, ck_ok (by omega) (by omega) (by omega), tn_n (by omega), d_can hN.2.1 hx (by omega)]
      by_cases hc : caP (eR S) (eP S) s b
      · rw [b_t hc, if_neg (by decide), wp_some, if_pos hc]; exact ⟨rfl, hN.1⟩
      · rw [b_f hc, if_pos (by decide), wp_some, if_neg hc]; exact ⟨rfl, hN.1⟩
    · rw [wp_some, if_neg (fun g => hy g.2)]
      exact ⟨rfl, H⟩
  · rw [wp_some, if_neg (fun g => hx g.1)]
    exact ⟨rfl, H⟩
theorem R_gust (H : DI S h M) {z : Int} {b : Bool} (hz : -2147483648 ≤ z ∧ z < 2147483648) : wp (f_X10_gust (i3 z) b M) (fun r N => r = i3 (aGust S z b) ∧ DI S h N) := by
  rw [f_X10_gust, H.st hz, g_b_some, b_if]
  unfold aGust
  refine wp_if (fun hx => ?_) (fun hx => ?_)
  · obtain ⟨s, rfl, hs⟩ := st_n hx
    rw [if_pos hx, Int.toNat_natCast]
    refine wp_b _ H.lay (fun _ N hN => ?_)
    cases b with
    | true =>
      rw [if_pos rfl, ck_ok (by omega) (by omega) (by omega), tn_n (by omega), wp_some, d_hi hN.2.1 hx]
      exact ⟨rfl, hN.1⟩
    | false =>
      rw [if_neg (by decide), ck_ok (by omega) (by omega) (by omega), tn_n (by omega), wp_some, d_lo hN.2.1 hx]
      exact ⟨rfl, hN.1⟩
  · rw [wp_some, if_neg hx]
    exact ⟨rfl, H⟩
theorem R_next (H : DI S h M) {z a g : Int} (hz : -2147483648 ≤ z ∧ z < 2147483648) (ha : -2147483648 ≤ a ∧ a < 2147483648) (hg : -2147483648 ≤ g ∧ g < 2147483648) : wp (f_X10_next (i3 z) (i3 a) (i3 g) M) (fun r N => r = i3 (aNext S z a g) ∧ DI S h N) := by
  have hna := H.1.1.1.2.1
  rw [f_X10_next, H.st hz, g_b_some, b_if]
  unfold aNext
  refine wp_if (fun hx => ?_) (fun hx => ?_)
  · obtain ⟨s, rfl, hs⟩ := st_n hx
    rw [d_isAct H ha, g_b_some, b_if]
    refine wp_if (fun hy => ?_) (fun hy => ?_)
    · obtain ⟨b, rfl⟩ : ∃ b : Nat, a = b := ⟨a.toNat, by omega⟩
      rw [show ((-12) : Int32) = i3 (-12) from rfl]
      simp (disch := omega) only [iL12, i3_lt, i3_le]
      refine wp_if (fun h1 => ?_) (fun h1 => ?_)
      · rw [wp_some, if_neg (fun g => absurd g.2.2.1 (by omega))]
        exact ⟨rfl, H⟩
      refine wp_if (fun h2 => ?_) (fun h2 => ?_)
      · have hw : -12 ≤ g ∧ g ≤ 12 := ⟨by omega, h2⟩
        rw [if_pos ⟨hx, hy, hw⟩, Int.toNat_natCast, Int.toNat_natCast]
        refine wp_b _ H.lay (fun _ N hN => ?_)
        rw [ix_6, ck_ok (by omega) (by omega) (by omega), tn_n (by omega), d_can hN.2.1 hx (by omega)]
        by_cases hc : caP (eR S) (eP S) s b
        · rw [b_t hc, if_neg (by decide), d_leads hN.2.1 hx hc hw, g_b_some, wp_some, if_pos hc]; exact ⟨rfl, hN.1⟩
        · rw [b_f hc, if_pos (by decide), wp_some, if_neg hc]; exact ⟨rfl, hN.1⟩
      · rw [wp_some, if_neg (fun g => absurd g.2.2.2 (by omega))]
        exact ⟨rfl, H⟩
    · rw [wp_some, if_neg (fun g => hy g.2.1)]
      exact ⟨rfl, H⟩
  · rw [wp_some, if_neg (fun g => hx g.1)]
    exact ⟨rfl, H⟩
theorem R_fate (H : DI S h M) {z : Int} (hz : -2147483648 ≤ z ∧ z < 2147483648) : wp (f_X10_fate (i3 z) M) (fun r N => r = i3 (aSt S z (faR (eR S) (eP S))) ∧ DI S h N) := by
  rw [f_X10_fate, H.st hz, g_b_some, b_if]
  refine wp_if (fun hx => ?_) (fun hx => ?_)
  · obtain ⟨s, e, hs⟩ := st_n hx
    rw [aSt_t hx e]
    subst e
    refine wp_b _ H.lay (fun _ N hN => ?_)
    rw [ck_ok (by omega) (by omega) (by omega), tn_n (by omega), wp_some, hN.2.2.1 s hs hx]
    exact ⟨rfl, hN.1⟩
  · rw [wp_some, aSt_f hx]
    exact ⟨rfl, H⟩
theorem R_keep (H : DI S h M) {z : Int} (hz : -2147483648 ≤ z ∧ z < 2147483648) : wp (f_X10_keep (i3 z) M) (fun r N => r = i3 (aSt S z (keR (eR S) (eP S))) ∧ DI S h N) := by
  rw [f_X10_keep, H.st hz, g_b_some, b_if]
  refine wp_if (fun hx => ?_) (fun hx => ?_)
  · obtain ⟨s, e, hs⟩ := st_n hx
    rw [aSt_t hx e]
    subst e
    refine wp_b _ H.lay (fun _ N hN => ?_)
    rw [d_keep hN.2.1 hN.2.2.1 hx, g_b_some, wp_some]
    exact ⟨rfl, hN.1⟩
  · rw [wp_some, aSt_f hx]
    exact ⟨rfl, H⟩
theorem R_reach (H : DI S h M) {z : Int} (hz : -2147483648 ≤ z ∧ z < 2147483648) : wp (f_X10_reach (i3 z) M) (fun r N => r = i3 (aSt S z (reR (eR S) (eP S))) ∧ DI S h N) := by
  rw [f_X10_reach, H.st hz, g_b_some, b_if]
  refine wp_if (fun hx => ?_) (fun hx => ?_)
  · obtain ⟨s, e, hs⟩ := st_n hx
    rw [aSt_t hx e]
    subst e
    refine wp_b _ H.rch (fun _ N hN => ?_)
    rw [ck_ok (by omega) (by omega) (by omega), tn_n (by omega), wp_some, hN.2 s hs hx]
    exact ⟨rfl, hN.1.1⟩
  · rw [wp_some, aSt_f hx]
    exact ⟨rfl, H⟩
theorem R_lead (H : DI S h M) {z : Int} (hz : -2147483648 ≤ z ∧ z < 2147483648) : wp (f_X10_lead (i3 z) M) (fun r N => r = i3 (aSt S z (ldR (eR S) (eP S))) ∧ DI S h N) := by
  rw [f_X10_lead, H.st hz, g_b_some, b_if]
  refine wp_if (fun hx => ?_) (fun hx => ?_)
  · obtain ⟨s, e, hs⟩ := st_n hx
    rw [aSt_t hx e]
    subst e
    refine wp_b _ H.rch (fun _ N hN => ?_)
    have hr : -2 ≤ reR (eR S) (eP S) s ∧ reR (eR S) (eP S) s < 2080 := by
      rcases re_x (R := eR S) (p := eP S) (s := s) with ⟨e, -⟩ | ⟨n, e1, e2, -⟩ <;> omega
    rw [ck_ok (by omega) (by omega) (by omega), tn_n (by omega), hN.2 s hs hx]
    simp (disch := omega) only [iL1, i3_le]
    refine wp_if (fun h1 => ?_) (fun h1 => ?_)
    · rw [show (0 : Int32) = i3 ((0 : Nat) : Int) from rfl, d_lead hN.1.2.1 hN.2 hx h1, wp_some]
      exact ⟨rfl, hN.1.1⟩
    · rw [wp_some]
      unfold ldR
      rw [if_pos (by omega)]
      exact ⟨rfl, hN.1.1⟩
  · rw [wp_some, aSt_f hx]
    exact ⟨rfl, H⟩
end
