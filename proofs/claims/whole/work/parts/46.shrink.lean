/-! ===== the class's shrinking: what can be kept for ever ===== -/
def vS (N : gM) (s : Nat) : Prop := N.1 44 s = i3 1
def vI (R : tR) (p k : Int) (N : gM) : Prop := (∀ s : Nat, s < 2079 → N.1 44 s = i3 0 ∨ vS N s) ∧ (∀ s : Nat, s < 2079 → sfR R p k s → vS N s) ∧ (∀ s : Nat, s < 2079 → vS N s → stP R s) ∧ ∀ s : Nat, s < 2079 → ∃ f : Nat, N.1 45 s = i3 f ∧ f ≤ 6 ∧ ∀ a : Nat, caP R p s a → gdP R p (vS N) k s a → f ≤ a
def vL (R : tR) (N : gM) (n : Nat) : Prop := n ≤ 2079 ∧ (∀ i : Nat, i < n → ∃ s : Nat, s < 2079 ∧ N.1 46 i = i3 s ∧ opP R s) ∧ ∀ s : Nat, s < 2079 → opP R s → vS N s → ∃ i, i < n ∧ N.1 46 i = i3 s
def vT (R : tR) (p k : Int) (N : gM) : Prop := ∀ s : Nat, s < 2079 → opP R s → vS N s → ∃ a, caP R p s a ∧ gdP R p (vS N) k s a
theorem v_end {R : tR} {p k : Int} {N : gM} (hR : tOk R) (h : vI R p k N) (ht : vT R p k N) : ∀ s : Nat, s < 2079 → N.1 44 s = b2i (b_ (sfR R p k s)) := by
  obtain ⟨h1, h2, h3, -⟩ := h
  have key : ∀ s, (s < 2079 ∧ vS N s) → sfR R p k s := sf_max (fun s hs => by
    have hst := h3 s hs.1 hs.2
    refine ⟨hst, ?_⟩
    by_cases ho : ovP R s
    · exact Or.inl ho
    · obtain ⟨a, g1, g2⟩ := ht s hs.1 ⟨hst, ho⟩ hs.2
      exact Or.inr ⟨a, g1, (gd_c2 hR (fun t ht _ => ⟨fun h => ⟨ht, h⟩, fun h => h.2⟩)).1 g2⟩)
  intro s hs
  by_cases hsf : sfR R p k s
  · rw [b_t hsf]
    exact h2 s hs hsf
  · rw [b_f hsf]
    exact (h1 s hs).elim id (fun h => absurd (key s ⟨hs, h⟩) hsf)
theorem k_s29 {R : tR} {p : Int} {t st kk n0 ps : Nat} {k8 : Int32 → Int32 → Int32 → Int32 → gM → Option (Unit × gM)} {Q : Unit → gM → Prop} (hkk : kk ≤ 6) {M : gM} (hC : CB R p t st M) (hI : vI R p kk M) (hL : vL R M n0)
    (hk : ∀ (n1 : Nat) (b : Bool) N, n1 ≤ n0 → (b = true → n1 < n0) → CB R p t st N → Fr (cBt ++ [44, 45, 46]) M N → vI R p kk N → vL R N n1 → (b = false → vT R p kk N) → wp (k8 (i3 kk) (i3 n1) (b2i b) (i3 ((ps + 1 : Nat) : Int)) N) Q) :
    wp (f_X5_shrink_29 k8 FU (i3 kk) (i3 ((0 : Nat) : Int)) (i3 ps) (i3 n0) (i3 ((0 : Nat) : Int)) M) Q := by
  have hR := hC.1.1
  obtain ⟨hL1, hL2, hL3⟩ := hL
  refine wp_lp (F := fun n x (c : Nat) M => f_X5_shrink_29 k8 n (i3 kk) (i3 c) (i3 ps) (i3 n0) (i3 x) M)
    (I := fun x c N => c ≤ x ∧ CB R p t st N ∧ Fr (cBt ++ [44, 45, 46]) M N ∧ vI R p kk N ∧ (∀ s, vS N s → vS M s) ∧ (∀ i : Nat, i < c → ∃ s : Nat, s < 2079 ∧ N.1 46 i = i3 s ∧ opP R s) ∧ (∀ i, x ≤ i → N.1 46 i = M.1 46 i) ∧ (∀ i : Nat, i < x → ∀ s : Nat, s < 2079 → M.1 46 i = i3 s → vS N s → ∃ j, j < c ∧ N.1 46 j = i3 s) ∧ (c = x → (∀ s, vS M s → vS N s) ∧ ∀ i : Nat, i < x → ∀ s : Nat, s < 2079 → M.1 46 i = i3 s → ∃ a, caP R p s a ∧ gdP R p (vS M) kk s a)) n0 ?_ ?_ FU 0 0 M (by omega) (by rw [FU_s]; omega) ⟨by omega, hC, Fr.rf, hI, fun s h => h, fun i hi => by omega, fun i _ => rfl, fun i hi => by omega, fun _ => ⟨fun s h => h, fun i hi => by omega⟩⟩
  · intro n x c N hx hIx hk2
    obtain ⟨i1, i2, f, i4, i5, i6, i7, i8, i9⟩ := hIx
    obtain ⟨j1, j2, j3, j4⟩ := id i4
    obtain ⟨s, hs, es, ho⟩ := hL2 x hx
    have e46 : N.1 46 x = i3 s := by rw [i7 x (by omega), es]
    obtain ⟨fr, e45, hfr, hlow⟩ := j4 s hs
    have same : ∀ q : Nat, q < 2079 → M.1 46 x = i3 q → q = s := fun q hq eq => by
      rw [es, i3_eq (by omega) (by omega) (by omega) (by omega)] at eq
      omega
    rw [f_X5_shrink_29]
    simp only [i3_sn]
    simp (disch := omega) only [i3_lit, i3_neg, i3_le, ck_ok, i3_tn, Int.toNat_natCast, e46]
    rw [if_neg (by omega), wp_v]
    simp (disch := omega) only [ck_ok, i3_tn, Int.toNat_natCast, e45]
    refine wp_b _ (k_fg (P := vS N) (k := 44) (fl := i3 1) (fr := (fr : Int)) (kk := (kk : Int)) hs (by omega) (by omega) (by omega) i2 (fun q hq => ?_)) (fun y N2 hN => ?_)
    · rcases j1 q hq with h | h
      · unfold vS
        rw [h]
        exact ⟨fun h => absurd h (by decide), fun h => absurd h (by decide)⟩
      · exact ⟨fun _ => h, fun _ => by rw [show N.1 44 q = i3 1 from h]; decide⟩
    · obtain ⟨rfl, hC2, f2⟩ := hN
      rw [le_from (P := fun b => caP R p s b ∧ gdP R p (vS N) kk s b) (fun b hb => by have := hlow b hb.1 hb.2; omega)]
      have fN : Fr (cBt ++ [44, 45, 46]) M N2 := f.tr (f2.up (by decide))
      have k44 : N2.1 44 = N.1 44 := f2.e1 (by decide)
      have k45 : N2.1 45 = N.1 45 := f2.e1 (by decide)
      have k46 : N2.1 46 = N.1 46 := f2.e1 (by decide)
      rcases leA_x (P := fun b => caP R p s b ∧ gdP R p (vS N) kk s b) (n := 6) (-1) with ⟨a, h1, h2, h3, h4⟩ | ⟨h1, h2⟩
      · rw [h4]
        simp (disch := omega) only [i3_eq]
        rw [if_neg (by omega)]
        simp (disch := omega) only [ck_ok, wp_m, i3_tn, Int.toNat_natCast]
        have q44 : (sI (sI N2 45 s (i3 a)) 46 c (i3 s)).1 44 = N.1 44 := by rw [rI_n (by decide), rI_n (by decide), k44]
        have q45 : (sI (sI N2 45 s (i3 a)) 46 c (i3 s)).1 45 = upd (N.1 45) s (i3 a) := by rw [rI_n (by decide), rI_e, k45]
        have q46 : (sI (sI N2 45 s (i3 a)) 46 c (i3 s)).1 46 = upd (N.1 46) c (i3 s) := by rw [rI_e, rI_n (by decide), k46]
        have fQ : Fr (cBt ++ [44, 45, 46]) M (sI (sI N2 45 s (i3 a)) 46 c (i3 s)) := (fN.i (by decide)).i (by decide)
        have hCQ : CB R p t st (sI (sI N2 45 s (i3 a)) 46 c (i3 s)) := hC2.mv (S := [45, 46]) ((Fr.rf.i (by decide)).i (by decide)) (by decide)
        generalize sI (sI N2 45 s (i3 a)) 46 c (i3 s) = N4 at q44 q45 q46 fQ hCQ ⊢
        have eS : vS N4 = vS N := by funext q; unfold vS; rw [q44]
        refine hk2 (c + 1) N4 ⟨by omega, hCQ, fQ, ⟨fun q hq => by rw [eS, q44]; exact j1 q hq, fun q hq h => by rw [eS]; exact j2 q hq h, fun q hq h => by rw [eS] at h; exact j3 q hq h, fun q hq => ?_⟩, fun q h => by rw [eS] at h; exact i5 q h, fun i hi => ?_, fun i hi => ?_, fun i hi q hq eq hv => ?_, fun hcx => ⟨fun q h => by rw [eS]; exact (i9 (by omega)).1 q h, fun i hi q hq eq => ?_⟩⟩
        · rw [eS, q45]
          by_cases hqs : q = s
          · subst hqs
            exact ⟨a, up_e, by omega, fun b hb1 hb2 => by
              by_cases hba : a ≤ b
              · exact hba
              · exact absurd ⟨hb1, hb2⟩ (h3 b (by omega))⟩
          · rw [up_n hqs]
            exact j4 q hq
        · rw [q46]
          by_cases hic : i = c
          · subst hic
            exact ⟨s, hs, up_e, ho⟩
          · rw [up_n hic]
            exact i6 i (by omega)
        · rw [q46, up_n (by omega)]
          exact i7 i (by omega)
        · rw [q46]
          by_cases hix : i = x
          · subst hix
            have := same q hq eq
            subst this
            exact ⟨c, by omega, up_e⟩
          · rw [eS] at hv
            obtain ⟨j, g1, g2⟩ := i8 i (by omega) q hq eq hv
            exact ⟨j, by omega, by rw [up_n (by omega), g2]⟩
        · by_cases hix : i = x
          · subst hix
            have := same q hq eq
            subst this
            exact ⟨a, h2.1, gd_m i5 h2.2⟩
          · exact (i9 (by omega)).2 i (by omega) q hq eq
      · rw [h2, if_pos (show i3 (-1) = i3 (-1) from rfl)]
        simp (disch := omega) only [ck_ok, wp_m, i3_tn, Int.toNat_natCast]
        have hno : ¬ sfR R p kk s := by
          intro hsf
          rcases (sf_fix.1 hsf).2 with h | ⟨a, h3, h4⟩
          · exact ho.2 h
          · exact h1 a (ca_6 hR h3) ⟨h3, gd_m (fun q hq => j2 q (st_lt (sf_st hq)) hq) h4⟩
        have q44 : (sI N2 44 s (i3 0)).1 44 = upd (N.1 44) s (i3 0) := by rw [rI_e, k44]
        have q45 : (sI N2 44 s (i3 0)).1 45 = N.1 45 := by rw [rI_n (by decide), k45]
        have q46 : (sI N2 44 s (i3 0)).1 46 = N.1 46 := by rw [rI_n (by decide), k46]
        have fQ : Fr (cBt ++ [44, 45, 46]) M (sI N2 44 s (i3 0)) := fN.i (by decide)
        have hCQ : CB R p t st (sI N2 44 s (i3 0)) := hC2.mv (S := [44]) (Fr.rf.i (by decide)) (by decide)
        generalize sI N2 44 s (i3 0) = N4 at q44 q45 q46 fQ hCQ ⊢
        have eS : ∀ q, vS N4 q ↔ (q ≠ s ∧ vS N q) := by
          intro q
          unfold vS
          rw [q44]
          by_cases hqs : q = s
          · subst hqs
            rw [up_e]
            exact ⟨fun h => absurd h (by decide), fun h => absurd rfl h.1⟩
          · rw [up_n hqs]
            exact ⟨fun h => ⟨hqs, h⟩, fun h => h.2⟩
        refine hk2 c N4 ⟨by omega, hCQ, fQ, ⟨fun q hq => ?_, fun q hq h => (eS q).2 ⟨fun e => hno (e ▸ h), j2 q hq h⟩, fun q hq h => j3 q hq ((eS q).1 h).2, fun q hq => ?_⟩, fun q h => i5 q ((eS q).1 h).2, fun i hi => ?_, fun i hi => ?_, fun i hi q hq eq hv => ?_, fun hcx => by omega⟩
        · by_cases hqs : q = s
          · subst hqs
            exact Or.inl (by rw [q44, up_e])
          · exact (j1 q hq).elim (fun h => Or.inl (by rw [q44, up_n hqs, h])) (fun h => Or.inr ((eS q).2 ⟨hqs, h⟩))
        · obtain ⟨f1, g1, g2, g3⟩ := j4 q hq
          exact ⟨f1, by rw [q45, g1], g2, fun b hb1 hb2 => g3 b hb1 (gd_m (fun u hu => ((eS u).1 hu).2) hb2)⟩
        · rw [q46]
          exact i6 i hi
        · rw [q46]
          exact i7 i (by omega)
        · rw [q46]
          obtain ⟨v1, v2⟩ := (eS q).1 hv
          by_cases hix : i = x
          · subst hix
            exact absurd (same q hq eq) v1
          · exact i8 i (by omega) q hq eq v2
  · intro n c N hIx
    obtain ⟨i1, i2, f, i4, i5, i6, i7, i8, i9⟩ := hIx
    rw [f_X5_shrink_29]
    simp only [i3_sn]
    simp (disch := omega) only [i3_le]
    rw [if_pos (by omega)]
    have hvL : vL R N c := ⟨by omega, i6, fun s hs ho hv => by
      obtain ⟨i, g1, g2⟩ := hL3 s hs ho (i5 s hv)
      exact i8 i g1 s hs g2 hv⟩
    refine wp_if (fun hx => ?_) (fun hx => ?_)
    · refine hk c false N i1 (fun h => by cases h) i2 f i4 hvL (fun _ s hs ho hv => ?_)
      obtain ⟨g0, g9⟩ := i9 (by omega)
      obtain ⟨i, g1, g2⟩ := hL3 s hs ho (i5 s hv)
      obtain ⟨a, u1, u2⟩ := g9 i g1 s hs g2
      exact ⟨a, u1, gd_m g0 u2⟩
    · exact hk c true N i1 (fun _ => by omega) i2 f i4 hvL (fun h => by cases h)
theorem k_shrink {R : tR} {p : Int} {t st kk : Nat} (hkk : kk ≤ 6) {M0 : gM} : ∀ (n ps n0 : Nat) (b : Bool) (M : gM), ps ≤ 2080 → 2080 < n + ps → CB R p t st M → Fr (cBt ++ [44, 45, 46]) M0 M → vI R p kk M → vL R M n0 → (b = true → n0 + ps ≤ 2079) → (b = false → vT R p kk M) →
    wp (f_X5_shrink_8 n (i3 kk) (i3 n0) (b2i b) (i3 ps) M) (fun _ N => CB R p t st N ∧ Fr (cBt ++ [44, 45, 46]) M0 N ∧ ∀ s : Nat, s < 2079 → N.1 44 s = b2i (b_ (sfR R p kk s))) := by
  intro n
  induction n with
  | zero => intro ps n0 b M h1 h2; omega
  | succ n ih =>
    intro ps n0 b M h1 h2 hC f hI hL hb1 hb2
    rw [f_X5_shrink_8]
    simp (disch := omega) only [iL2079, i3_lt]
    refine wp_if (fun hx => ?_) (fun hx => ?_)
    · rw [wp_some]
      refine ⟨hC, f, v_end hC.1.1 hI (hb2 ?_)⟩
      cases b with
      | false => rfl
      | true => have := hb1 rfl; omega
    · simp (disch := omega) only [b2i_0]
      refine wp_if (fun hx2 => ?_) (fun hx2 => ?_)
      · rw [wp_some]
        exact ⟨hC, f, v_end hC.1.1 hI (hb2 hx2)⟩
      · have hb : b = true := by cases b <;> simp_all
        have := hb1 hb
        exact k_s29 hkk hC hI hL (fun n1 b2 N g1 g2 g3 g4 g5 g6 g7 => ih (ps + 1) n1 b2 N (by omega) (by omega) g3 (f.tr g4) g5 g6 (fun h => by have := g2 h; omega) g7)
