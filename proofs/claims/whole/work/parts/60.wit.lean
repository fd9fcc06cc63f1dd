/-! ===== PROOF, WITNESS, ARRIVES (class) ===== -/
/-- the way back, as the class keeps it -/
def exW (R : tR) (p : Int) (X : Nat → Int) (s0 : Nat) (M : gM) : Prop := (fiX R p X s0 = 0 ∧ M.1 47 5 = i3 (-1)) ∨ ∃ d : Nat, 1 ≤ d ∧ d ≤ 2079 ∧ fiX R p X s0 = d ∧ M.1 47 5 = i3 (ptX R p X s0 (d - 1)) ∧ M.1 47 6 = i3 (fgX R p X (ptX R p X s0 (d - 1))) ∧ M.1 51 (ptX R p X s0 (d - 1)) = i3 ((d - 1 : Nat) : Int) ∧ (∀ i, i + 1 < d → M.1 52 (ptX R p X s0 (i + 1)) = i3 (ptX R p X s0 i) ∧ M.1 53 (ptX R p X s0 (i + 1)) = i3 (fgX R p X (ptX R p X s0 i))) ∧ M.1 52 s0 = i3 (-1) ∧ ∀ i, i < d → stP R (ptX R p X s0 i)
theorem ex_W {R : tR} (hR : tOk R) {p : Int} {X : Nat → Int} {s0 : Nat} {M : gM} (h : exE R p X s0 M) : exW R p X s0 M := by
  obtain ⟨n, K, qs, key, de, hb, hI, hor⟩ := h
  have hn2 : n ≤ 2079 := by rw [hb.2.1]; exact cN_le 2079
  rcases hor with ⟨h5, hK⟩ | ⟨hH, h5, h6, ho, hg1, hg2, hf⟩
  · refine Or.inl ⟨?_, h5⟩
    rcases fi_x (R := R) (p := p) (X := X) (s := s0) with ⟨e, -⟩ | ⟨m, -, -, -, e, -⟩
    · exact e
    · rw [← hI.1.2.1] at e
      exact absurd e (bf_none hI hR hK m 0 (by have := hI.1.1; omega))
  · obtain ⟨e1, e2, e3⟩ := bf_end hI hR rfl rfl hH ho hg1 hg2 hf
    obtain ⟨w1, w2⟩ := bf_way hI hR rfl rfl hH ho hg1 hg2 hf
    have hde := bf_de hI _ hH
    refine Or.inr ⟨de (K / 13) + 1, by omega, by omega, e1, ?_, ?_, ?_, fun i hi => ?_, ?_, fun i hi => ?_⟩
    · rw [Nat.add_sub_cancel, ← w1]; exact h5
    · rw [Nat.add_sub_cancel, ← w1, e3]; exact h6
    · rw [Nat.add_sub_cancel, ← w1]; exact (hb.2.2.1 _ hH).2.1
    · obtain ⟨c, c1, c2, c3, c4, c5⟩ := w2 i (by omega)
      obtain ⟨b1, b2, b3, b4⟩ := hb.2.2.1 c c2
      rw [← c3, b3, if_neg (by omega), c4, b4 c1, c5]
      exact ⟨rfl, rfl⟩
    · have := (hb.2.2.1 0 (by omega)).2.2.1
      rw [hI.1.2.1] at this
      exact this
    · exact (fg_P (pt_fi hR e1 i hi) (by omega)).1
theorem k_btf {R : tR} {p : Int} {X : Nat → Int} {s0 : Nat} {M : gM} (h : exW R p X s0 M) : f_X3_beatsToFall M = some (i3 (fiX R p X s0), M) := by
  rw [f_X3_beatsToFall]
  rcases h with ⟨h1, h2⟩ | ⟨d, h1, h2, h3, h4, h5, h6, h7, h8, h9⟩
  · rw [h2, if_pos (show i3 (-1) = ((-1) : Int32) from rfl), h1]
    rfl
  · have hlt := st_lt (h9 (d - 1) (by omega))
    rw [h4]
    simp (disch := omega) only [i3_m1, i3_eq, ck_ok, i3_tn, Int.toNat_natCast, h6]
    rw [if_neg (by omega), i3_sn, h3]
    congr 3
    omega
noncomputable def wiR (R : tR) (p : Int) (X : Nat → Int) (s0 : Nat) (i : Int) : Int := @ite _ (0 ≤ i ∧ i < fiX R p X s0) (Classical.propDecidable _) (fgX R p X (ptX R p X s0 i.toNat)) (-100)
theorem k_wit {R : tR} {p : Int} {X : Nat → Int} {s0 : Nat} {M : gM} (h : exW R p X s0 M) {i : Int} (hi : -2147483648 ≤ i ∧ i < 2147483648) : f_X3_witnessGust (i3 i) M = some (i3 (wiR R p X s0 i), M) := by
  have hfi : 0 ≤ fiX R p X s0 ∧ fiX R p X s0 ≤ 2079 := by
    rcases h with ⟨h1, -⟩ | ⟨d, h1, h2, h3, -⟩ <;> omega
  have hbt := k_btf h
  rw [f_X3_witnessGust, hbt, g_b_some]
  simp (disch := omega) only [iL0, i3_lt]
  unfold wiR
  by_cases h0 : i < 0
  · rw [if_pos h0, if_neg (by omega)]
    rfl
  · rw [if_neg h0]
    by_cases h1 : i < fiX R p X s0
    · rw [if_pos h1, if_pos ⟨by omega, h1⟩, g_v, g_v, hbt, g_b_some, g_v]
      rcases h with ⟨g1, -⟩ | ⟨d, g1, g2, g3, g4, g5, g6, g7, g8, g9⟩
      · omega
      · obtain ⟨j, rfl⟩ : ∃ j : Nat, i = j := ⟨i.toNat, by omega⟩
        rw [g4, g5, g3, iL1, i3_sub, Int.toNat_natCast]
        have key : ∀ (n b : Nat), j ≤ b → b < d → b < n + j → f_X3_witnessGust_33 n (i3 j) (i3 (fgX R p X (ptX R p X s0 b))) (i3 (ptX R p X s0 b)) (i3 b) M = some (i3 (fgX R p X (ptX R p X s0 j)), M) := by
          intro n
          induction n with
          | zero => intro b b1 b2 b3; omega
          | succ n ih =>
            intro b b1 b2 b3
            have hlt := st_lt (g9 b b2)
            rw [f_X3_witnessGust_33]
            simp (disch := omega) only [iL0, i3_le, i3_lt]
            by_cases hb : (b : Int) ≤ j
            · have : b = j := by omega
              subst this
              rw [if_pos hb]
            · obtain ⟨b', rfl⟩ : ∃ b', b = b' + 1 := ⟨b - 1, by omega⟩
              obtain ⟨u1, u2⟩ := g7 b' (by omega)
              rw [if_neg hb, if_neg (by omega)]
              simp (disch := omega) only [ck_ok, i3_tn, Int.toNat_natCast, u1, u2, g_v]
              rw [i3_m1, i3_add, show ((b' + 1 : Nat) : Int) + -1 = (b' : Int) by omega]
              exact ih b' (by omega) (by omega) (by omega)
        have := key FU (d - 1) (by omega) (by omega) (by rw [FU_s]; omega)
        rw [show ((d : Int) - 1) = ((d - 1 : Nat) : Int) by omega]
        exact this
    · rw [if_neg h1, if_neg (by omega)]
      rfl
/-! how long it takes at the longest -/
def apX (R : tR) (p : Int) (X : Nat → Int) : Nat → Nat → Prop
  | 0, s => stP R s ∧ ovP R s
  | n + 1, s => apX R p X n s ∨ (stP R s ∧ ¬ ovP R s ∧ ∀ g : Int, loR R p s ≤ g → g ≤ hiR R p s → ∃ q : Nat, drX R p X s g = q ∧ apX R p X n q)
theorem ap_st {R : tR} {p : Int} {X : Nat → Int} : ∀ n s, apX R p X n s → stP R s := by
  intro n
  induction n with
  | zero => intro s h; exact h.1
  | succ n ih => intro s h; exact h.elim (ih s) (fun h => h.1)
theorem ap_le {R : tR} {p : Int} {X : Nat → Int} {m n s : Nat} (h : m ≤ n) (hx : apX R p X m s) : apX R p X n s := by
  induction n with
  | zero => rw [← Nat.le_zero.1 h]; exact hx
  | succ n ih =>
    by_cases hm : m = n + 1
    · rw [← hm]; exact hx
    · exact Or.inl (ih (by omega))
theorem ap_top {R : tR} {p : Int} {X : Nat → Int} {m s : Nat} (h : apX R p X m s) : apX R p X 2079 s := by
  apply Classical.byContradiction
  intro hn
  refine ch_st (X := fun n s => ¬ apX R p X n s) (N := 2079) (fun n s h1 h2 => h1 (Or.inl h2)) (fun n hf s hs h1 h2 => h1 ?_) s (st_lt (ap_st _ _ h)) hn m h
  rcases h2 with h2 | ⟨g1, g2, g3⟩
  · exact h2
  · exact Or.inr ⟨g1, g2, fun g g4 g5 => by
      obtain ⟨q, q1, q2⟩ := g3 g g4 g5
      exact ⟨q, q1, Classical.byContradiction (fun hc => hf q (st_lt (ap_st _ _ q2)) hc q2)⟩⟩
noncomputable def avX (R : tR) (p : Int) (X : Nat → Int) (s : Nat) : Int := leA (fun n => apX R p X n s) 2080 (-2)
theorem av_e {R : tR} {p : Int} {X : Nat → Int} {s n : Nat} (h1 : apX R p X n s) (h2 : ∀ m, apX R p X m s → n ≤ m) : avX R p X s = n := by
  have hn : n < 2080 := by have := h2 _ (ap_top h1); omega
  exact leA_e hn h1 (fun b hb hp => by have := h2 b hp; omega)
theorem av_n {R : tR} {p : Int} {X : Nat → Int} {s : Nat} (h : ∀ m, ¬ apX R p X m s) : avX R p X s = -2 := leA_d (fun n _ => h n)
theorem av_x {R : tR} {p : Int} {X : Nat → Int} {s : Nat} : (avX R p X s = -2 ∧ ∀ m, ¬ apX R p X m s) ∨ ∃ n : Nat, n < 2080 ∧ avX R p X s = n ∧ apX R p X n s ∧ ∀ m, apX R p X m s → n ≤ m := by
  rcases leA_x (P := fun n => apX R p X n s) (n := 2080) (-2) with ⟨n, h1, h2, h3, h4⟩ | ⟨h1, h2⟩
  · refine Or.inr ⟨n, h1, h4, h2, fun m hm => ?_⟩
    by_cases hmn : n ≤ m
    · exact hmn
    · exact absurd hm (h3 m (by omega))
  · exact Or.inl ⟨h2, fun m hm => h1 2079 (by omega) (ap_top hm)⟩
theorem av_0 {R : tR} {p : Int} {X : Nat → Int} {s : Nat} (h1 : stP R s) (h2 : ovP R s) : avX R p X s = 0 := av_e (n := 0) ⟨h1, h2⟩ (fun m _ => Nat.zero_le m)
theorem av_s {R : tR} (hR : tOk R) {p : Int} {X : Nat → Int} {s m : Nat} (h1 : stP R s) (h2 : ¬ ovP R s) (h3 : ∀ g : Int, loR R p s ≤ g → g ≤ hiR R p s → ∃ q : Nat, drX R p X s g = q ∧ 0 ≤ avX R p X q ∧ avX R p X q ≤ m) (h4 : m = 0 ∨ ∃ (g : Int) (q : Nat), loR R p s ≤ g ∧ g ≤ hiR R p s ∧ drX R p X s g = q ∧ avX R p X q = m) : avX R p X s = ((m + 1 : Nat) : Int) := by
  refine av_e (Or.inr ⟨h1, h2, fun g g1 g2 => ?_⟩) (fun k hk => ?_)
  · obtain ⟨q, q1, q2, q3⟩ := h3 g g1 g2
    refine ⟨q, q1, ?_⟩
    rcases av_x (R := R) (p := p) (X := X) (s := q) with ⟨e, -⟩ | ⟨n, n1, n2, n3, -⟩
    · omega
    · exact ap_le (by omega) n3
  · have hall : ∀ k, apX R p X k s → ∃ j, k = j + 1 ∧ ∀ g : Int, loR R p s ≤ g → g ≤ hiR R p s → ∃ q : Nat, drX R p X s g = q ∧ apX R p X j q := by
      intro k
      induction k with
      | zero => intro h; exact absurd h.2 h2
      | succ k ih =>
        rintro (h | ⟨-, -, h⟩)
        · obtain ⟨j, rfl, hj⟩ := ih h
          exact ⟨j + 1, rfl, fun g g1 g2 => by
            obtain ⟨q, q1, q2⟩ := hj g g1 g2
            exact ⟨q, q1, Or.inl q2⟩⟩
        · exact ⟨k, rfl, h⟩
    obtain ⟨j, rfl, hj⟩ := hall k hk
    rcases h4 with h4 | ⟨g, q, g1, g2, q1, q2⟩
    · omega
    · obtain ⟨u, u1, u2⟩ := hj g g1 g2
      have : u = q := by omega
      subst this
      rcases av_x (R := R) (p := p) (X := X) (s := u) with ⟨e, -⟩ | ⟨n, n1, n2, -, n4⟩
      · omega
      · have := n4 j u2
        omega
/-- the STATES met lead to each other, or OVER -/
def clQ (R : tR) (p : Int) (X : Nat → Int) (n : Nat) (qs : Nat → Nat) : Prop := ∀ i, i < n → ¬ ovP R (qs i) → ∀ g : Int, loR R p (qs i) ≤ g → g ≤ hiR R p (qs i) → ∃ q : Nat, drX R p X (qs i) g = q ∧ q < 2079 ∧ stP R q ∧ (ovP R q ∨ ∃ j, j < n ∧ qs j = q)
def lgI (R : tR) (p : Int) (X : Nat → Int) (n : Nat) (qs : Nat → Nat) (N : gM) : Prop := ∀ i, i < n → (N.1 54 (qs i) = i3 (-1) ∧ ¬ ovP R (qs i)) ∨ (0 ≤ avX R p X (qs i) ∧ N.1 54 (qs i) = i3 (avX R p X (qs i)))
theorem k_lf {R : tR} {p : Int} {t st L n i : Nat} {ls : Nat → Nat} {qs : Nat → Nat} {M : gM} (hC : CB R p t st M) (hL : lnL R p L ls) (h49 : ∀ s : Nat, s < 2079 → M.1 49 s = i3 (@ite _ (lnP L ls s) (Classical.propDecidable _) (keR R p s + 1) 0)) (hcl : clQ R p (rxX R p L ls) n qs) (hl : lgI R p (rxX R p L ls) n qs M) (hi : i < n) (hst : stP R (qs i)) (ho : ¬ ovP R (qs i)) : wp (f_X3_longestFrom (i3 (qs i)) M) (fun r N => CB R p t st N ∧ Fr cBt M N ∧ ((r = i3 (-1) ∧ ∃ (g : Int) (j : Nat), loR R p (qs i) ≤ g ∧ g ≤ hiR R p (qs i) ∧ j < n ∧ drX R p (rxX R p L ls) (qs i) g = (qs j : Int) ∧ M.1 54 (qs j) = i3 (-1) ∧ ¬ ovP R (qs j)) ∨ (r = i3 (avX R p (rxX R p L ls) (qs i)) ∧ 1 ≤ avX R p (rxX R p L ls) (qs i)))) := by
  have hR := hC.1.1
  have hX := rx_XP hR hL
  have hlt := st_lt hst
  have hlh := lh_r (p := p) (s := qs i) hR
  rw [f_X3_longestFrom]
  refine wp_b _ (k_actIn hC hL h49 hlt) (fun r N0 hN => ?_)
  obtain ⟨rfl, hC0, f0⟩ := hN
  refine wp_b _ (c_least hlt hC0) (fun r N1 hN => ?_)
  obtain ⟨rfl, hC1, f1⟩ := hN
  have key : ∀ (m : Nat) (g : Int) (mo : Nat) (N : gM), CB R p t st N → Fr cBt M N → loR R p (qs i) ≤ g → g ≤ hiR R p (qs i) + 1 → hiR R p (qs i) + 1 - g < m → mo ≤ 2079 → (∀ x : Int, loR R p (qs i) ≤ x → x < g → ∃ q : Nat, drX R p (rxX R p L ls) (qs i) x = q ∧ 0 ≤ avX R p (rxX R p L ls) q ∧ avX R p (rxX R p L ls) q ≤ mo) → (mo = 0 ∨ ∃ (x : Int) (q : Nat), loR R p (qs i) ≤ x ∧ x < g ∧ drX R p (rxX R p L ls) (qs i) x = q ∧ avX R p (rxX R p L ls) q = mo) →
      wp (f_X3_longestFrom_18 m (i3 (qs i)) (i3 (rxX R p L ls (qs i))) (i3 mo) (i3 g) N) (fun r N => CB R p t st N ∧ Fr cBt M N ∧ ((r = i3 (-1) ∧ ∃ (g : Int) (j : Nat), loR R p (qs i) ≤ g ∧ g ≤ hiR R p (qs i) ∧ j < n ∧ drX R p (rxX R p L ls) (qs i) g = (qs j : Int) ∧ M.1 54 (qs j) = i3 (-1) ∧ ¬ ovP R (qs j)) ∨ (r = i3 (avX R p (rxX R p L ls) (qs i)) ∧ 1 ≤ avX R p (rxX R p L ls) (qs i)))) := by
    intro m
    induction m with
    | zero => intro g mo N _ _ _ h1 h2; omega
    | succ m ih =>
      intro g mo N hCN fN hg1 hg2 hm hmo hall hex
      rw [f_X3_longestFrom_18]
      refine wp_b _ (c_great hlt hCN) (fun r N2 hN => ?_)
      obtain ⟨rfl, hC2, f2⟩ := hN
      have fN2 := fN.tr f2
      simp (disch := omega) only [i3_lt]
      refine wp_if (fun hx => ?_) (fun hx => ?_)
      · rw [wp_some, i3_sn]
        have := av_s hR (m := mo) hst ho (fun x h1 h2 => hall x h1 (by omega)) (hex.imp id (fun ⟨x, q, h1, h2, h3⟩ => ⟨x, q, h1, by omega, h3⟩))
        exact ⟨hC2, fN2, Or.inr ⟨by rw [this], by omega⟩⟩
      · refine wp_b _ (k_behind hC2 hlt (hX _ hst) (by omega)) (fun r N3 hN => ?_)
        obtain ⟨rfl, hC3, f3⟩ := hN
        have fN3 := fN2.tr f3
        obtain ⟨q, q1, q2, q3, q4⟩ := hcl i hi ho g hg1 (by omega)
        have e0 : (0 : Int32) ≤ i3 (q : Int) := by
          rw [iL0, i3_le (by omega) (by omega) (by omega) (by omega)]
          omega
        rw [q1, if_pos e0, k_or hC3, k_over hC3 q2, g_b_some, b_if]
        -- a value behind that is done
        have go : ∀ v : Nat, avX R p (rxX R p L ls) q = v → v ≤ 2079 → wp (f_X3_longestFrom_76 (f_X3_longestFrom_18 m) (i3 (qs i)) (i3 (rxX R p L ls (qs i))) (i3 mo) (i3 g) (i3 v) N3) (fun r N => CB R p t st N ∧ Fr cBt M N ∧ ((r = i3 (-1) ∧ ∃ (g : Int) (j : Nat), loR R p (qs i) ≤ g ∧ g ≤ hiR R p (qs i) ∧ j < n ∧ drX R p (rxX R p L ls) (qs i) g = (qs j : Int) ∧ M.1 54 (qs j) = i3 (-1) ∧ ¬ ovP R (qs j)) ∨ (r = i3 (avX R p (rxX R p L ls) (qs i)) ∧ 1 ≤ avX R p (rxX R p L ls) (qs i)))) := by
          intro v hv hv2
          rw [f_X3_longestFrom_76]
          rw [show i3 g + 1 = i3 (g + 1) from i3_add g 1]
          simp (disch := omega) only [i3_m1, i3_eq, i3_le]
          rw [if_neg (by omega)]
          refine wp_if (fun hy => ?_) (fun hy => ?_)
          · refine ih (g + 1) mo N3 hC3 fN3 (by omega) (by omega) (by omega) hmo (fun x h1 h2 => ?_) (hex.imp id (fun ⟨x, u, h1, h2, h3⟩ => ⟨x, u, h1, by omega, h3⟩))
            by_cases hxg : x = g
            · subst hxg
              exact ⟨q, q1, by omega, by omega⟩
            · exact hall x h1 (by omega)
          · refine ih (g + 1) v N3 hC3 fN3 (by omega) (by omega) (by omega) hv2 (fun x h1 h2 => ?_) (Or.inr ⟨g, q, hg1, by omega, q1, hv⟩)
            by_cases hxg : x = g
            · subst hxg
              exact ⟨q, q1, by omega, by omega⟩
            · obtain ⟨u, u1, u2, u3⟩ := hall x h1 (by omega)
              exact ⟨u, u1, u2, by omega⟩
        refine wp_if (fun hov => ?_) (fun hov => ?_)
        · exact go 0 (av_0 q3 hov) (by omega)
        · rw [ck_ok (by omega) (by omega) (by omega), tn_n (by omega)]
          obtain ⟨j, j1, j2⟩ := q4.resolve_left hov
          subst j2
          rw [fN3.e1 (by decide)]
          rcases hl j j1 with ⟨v1, v2⟩ | ⟨v1, v2⟩
          · rw [v1, f_X3_longestFrom_76, if_pos (show i3 (-1) = ((-1) : Int32) from rfl), wp_some]
            exact ⟨hC3, fN3, Or.inl ⟨rfl, g, j, hg1, by omega, j1, q1, v1, v2⟩⟩
          · rcases av_x (R := R) (p := p) (X := rxX R p L ls) (s := qs j) with ⟨e, -⟩ | ⟨k, k1, k2, -⟩
            · omega
            · rw [v2, k2]
              exact go k k2 (by omega)
  exact key FU (loR R p (qs i)) 0 N1 hC1 (f0.tr f1) (by omega) (by omega) (by rw [FU_s]; omega) (by omega) (fun x h1 h2 => by omega) (Or.inl rfl)
/-- how many are done -/
noncomputable def dnC (qs : Nat → Nat) (n : Nat) (N : gM) : Nat := cN (fun i => ¬ N.1 54 (qs i) = i3 (-1)) n
theorem k_lw97 {R : tR} {p : Int} {t st L n s0 ps : Nat} {ls : Nat → Nat} {qs : Nat → Nat} {k66 : Int32 → Int32 → Int32 → gM → Option (Int32 × gM)} {Q : Int32 → gM → Prop} {M : gM} (hC : CB R p t st M) (hL : lnL R p L ls) (h49 : ∀ s : Nat, s < 2079 → M.1 49 s = i3 (@ite _ (lnP L ls s) (Classical.propDecidable _) (keR R p s + 1) 0)) (hcl : clQ R p (rxX R p L ls) n qs) (hl : lgI R p (rxX R p L ls) n qs M) (hn : n ≤ 2079) (hst : ∀ i, i < n → stP R (qs i)) (h50 : ∀ i : Nat, i < n → M.1 50 i = i3 (qs i)) (hinj : ∀ i j, i < n → j < n → qs i = qs j → i = j)
    (hk : ∀ (b : Bool) N, CB R p t st N → Fr (cBt ++ [54]) M N → lgI R p (rxX R p L ls) n qs N → (b = true → dnC qs n M < dnC qs n N) → (b = false → ∀ i, i < n → N.1 54 (qs i) = i3 (-1) → ∃ (g : Int) (j : Nat), loR R p (qs i) ≤ g ∧ g ≤ hiR R p (qs i) ∧ j < n ∧ drX R p (rxX R p L ls) (qs i) g = (qs j : Int) ∧ N.1 54 (qs j) = i3 (-1)) → wp (k66 (i3 s0) (b2i b) (i3 ((ps + 1 : Nat) : Int)) N) Q) : ∀ (m c : Nat) (b : Bool) (N : gM), c ≤ n → c < m → CB R p t st N → Fr (cBt ++ [54]) M N → lgI R p (rxX R p L ls) n qs N → (∀ i, i < n → ¬ M.1 54 (qs i) = i3 (-1) → ¬ N.1 54 (qs i) = i3 (-1)) → (b = true → ∃ i, i < n ∧ M.1 54 (qs i) = i3 (-1) ∧ ¬ N.1 54 (qs i) = i3 (-1)) → (b = false → (∀ i, i < n → N.1 54 (qs i) = M.1 54 (qs i)) ∧ ∀ i, c ≤ i → i < n → N.1 54 (qs i) = i3 (-1) → ∃ (g : Int) (j : Nat), loR R p (qs i) ≤ g ∧ g ≤ hiR R p (qs i) ∧ j < n ∧ drX R p (rxX R p L ls) (qs i) g = (qs j : Int) ∧ N.1 54 (qs j) = i3 (-1)) →
    wp (f_X3_longestWay_97 k66 m (i3 s0) (b2i b) (i3 ps) (i3 ((c : Int) - 1)) N) Q := by
  intro m
  induction m with
  | zero => intro c b N h1 h2; omega
  | succ m ih =>
    intro c b N h1 h2 hCN fN hlN hmono hb1 hb2
    rw [f_X3_longestWay_97]
    simp (disch := omega) only [iL0, i3_lt]
    cases c with
    | zero =>
      rw [if_pos (by omega), i3_sn]
      refine hk b N hCN fN hlN (fun h => ?_) (fun h => fun i hi hd => (hb2 h).2 i (Nat.zero_le _) hi hd)
      obtain ⟨i, i1, i2, i3'⟩ := hb1 h
      exact cN_lt (q := i) i3' (fun h => h i2) n i1 (fun j hj => hmono j hj)
    | succ c =>
      have ec : ((c + 1 : Nat) : Int) - 1 = c := by omega
      have hlt := st_lt (hst c (by omega))
      have e50 : N.1 50 c = i3 (qs c) := by rw [fN.e1 (by decide)]; exact h50 c (by omega)
      rw [ec, if_neg (by omega)]
      simp (disch := omega) only [ck_ok, i3_tn, Int.toNat_natCast, e50]
      rw [wp_v]
      simp (disch := omega) only [ck_ok, i3_tn, Int.toNat_natCast]
      have em : i3 (c : Int) + -1 = i3 ((c : Int) - 1) := by rw [i3_m1, i3_add]; rfl
      rw [em]
      rcases hlN c (by omega) with ⟨v1, v2⟩ | ⟨v1, v2⟩
      · rw [v1, if_pos (show i3 (-1) = ((-1) : Int32) from rfl)]
        refine wp_b _ (k_lf hCN hL (fun s hs => by rw [fN.e1 (by decide)]; exact h49 s hs) hcl hlN (show c < n by omega) (hst c (by omega)) v2) (fun r N2 hN => ?_)
        obtain ⟨hC2, f2, hor⟩ := hN
        rw [wp_m]
        rcases hor with ⟨rfl, g, j, g1, g2, j1, j2, j3, j4⟩ | ⟨rfl, hav⟩
        · -- not yet
          have q54 : ∀ q, (sI N2 54 (qs c) (i3 (-1))).1 54 q = N.1 54 q := fun q => by
            rw [rI_e, up_x]
            by_cases hq : q = qs c
            · rw [if_pos hq, hq, v1]
            · rw [if_neg hq, f2.e1 (by decide)]
          have fQ : Fr (cBt ++ [54]) M (sI N2 54 (qs c) (i3 (-1))) := (fN.tr (f2.up (by decide))).i (by decide)
          have hCQ : CB R p t st (sI N2 54 (qs c) (i3 (-1))) := hC2.mv (S := [54]) (Fr.rf.i (by decide)) (by decide)
          generalize sI N2 54 (qs c) (i3 (-1)) = N3 at q54 fQ hCQ ⊢
          have hl3 : lgI R p (rxX R p L ls) n qs N3 := fun i hi => by rw [q54]; exact hlN i hi
          have next : ∀ b2 : Bool, b2 = b → wp (f_X3_longestWay_97 k66 m (i3 s0) (b2i b2) (i3 ps) (i3 ((c : Int) - 1)) N3) Q := by
            intro b2 hb
            subst hb
            refine ih c b2 N3 (by omega) (by omega) hCQ fQ hl3 (fun i hi h => by rw [q54]; exact hmono i hi h) (fun h => ?_) (fun h => ⟨fun i hi => by rw [q54]; exact (hb2 h).1 i hi, fun i i1 i2 hd => ?_⟩)
            · obtain ⟨i, i1, i2, i3'⟩ := hb1 h
              exact ⟨i, i1, i2, by rw [q54]; exact i3'⟩
            · by_cases hic : i = c
              · subst hic
                exact ⟨g, j, g1, g2, j1, j2, by rw [q54]; exact j3⟩
              · rw [q54] at hd
                obtain ⟨g', j', w1, w2, w3, w4, w5⟩ := (hb2 h).2 i (by omega) i2 hd
                exact ⟨g', j', w1, w2, w3, w4, by rw [q54]; exact w5⟩
          simp only [b2i_i0]
          refine wp_if (fun hb0 => ?_) (fun hb0 => ?_)
          · rw [q54, v1, if_pos (show i3 (-1) = ((-1) : Int32) from rfl)]
            exact next false hb0.symm
          · exact next true (bnf hb0).symm
        · -- done now
          have hav2 : avX R p (rxX R p L ls) (qs c) ≤ 2080 := by
            rcases av_x (R := R) (p := p) (X := rxX R p L ls) (s := qs c) with ⟨e, -⟩ | ⟨k, k1, k2, -⟩ <;> omega
          have hne : ¬ i3 (avX R p (rxX R p L ls) (qs c)) = i3 (-1) := by
            rw [i3_eq (by omega) (by omega) (by omega) (by omega)]
            omega
          have q54 : (sI N2 54 (qs c) (i3 (avX R p (rxX R p L ls) (qs c)))).1 54 = upd (N.1 54) (qs c) (i3 (avX R p (rxX R p L ls) (qs c))) := by rw [rI_e, f2.e1 (by decide)]
          have fQ : Fr (cBt ++ [54]) M (sI N2 54 (qs c) (i3 (avX R p (rxX R p L ls) (qs c)))) := (fN.tr (f2.up (by decide))).i (by decide)
          have hCQ : CB R p t st (sI N2 54 (qs c) (i3 (avX R p (rxX R p L ls) (qs c)))) := hC2.mv (S := [54]) (Fr.rf.i (by decide)) (by decide)
          generalize sI N2 54 (qs c) (i3 (avX R p (rxX R p L ls) (qs c))) = N3 at q54 fQ hCQ ⊢
          have next : wp (f_X3_longestWay_97 k66 m (i3 s0) (b2i true) (i3 ps) (i3 ((c : Int) - 1)) N3) Q := by
            refine ih c true N3 (by omega) (by omega) hCQ fQ (fun i hi => ?_) (fun i hi h => ?_) (fun _ => ?_) (fun h => by cases h)
            · rw [q54]
              by_cases hic : i = c
              · subst hic
                rw [up_e]
                exact Or.inr ⟨by omega, rfl⟩
              · rw [up_n (fun e => hic (hinj i c hi (by omega) e))]
                exact hlN i hi
            · rw [q54, up_x]
              by_cases hq : qs i = qs c
              · rw [if_pos hq]; exact hne
              · rw [if_neg hq]; exact hmono i hi h
            · refine ⟨c, by omega, ?_, by rw [q54, up_e]; exact hne⟩
              apply Classical.byContradiction
              intro h
              exact hmono c (by omega) h v1
          refine wp_if (fun _ => ?_) (fun _ => next)
          rw [q54, up_e, if_neg (show ¬ i3 (avX R p (rxX R p L ls) (qs c)) = ((-1) : Int32) from hne)]
          exact next
      · have hav2 : avX R p (rxX R p L ls) (qs c) ≤ 2080 := by
          rcases av_x (R := R) (p := p) (X := rxX R p L ls) (s := qs c) with ⟨e, -⟩ | ⟨k, k1, k2, -⟩ <;> omega
        have hne : ¬ i3 (avX R p (rxX R p L ls) (qs c)) = i3 (-1) := by
          rw [i3_eq (by omega) (by omega) (by omega) (by omega)]
          omega
        rw [v2, if_neg (show ¬ i3 (avX R p (rxX R p L ls) (qs c)) = ((-1) : Int32) from hne)]
        refine ih c b N (by omega) (by omega) hCN fN hlN hmono hb1 (fun h => ⟨(hb2 h).1, fun i i1 i2 hd => ?_⟩)
        by_cases hic : i = c
        · subst hic
          rw [v2] at hd
          exact absurd hd hne
        · exact (hb2 h).2 i (by omega) i2 hd
theorem k_lway {R : tR} {p : Int} {t st L s0 : Nat} {ls : Nat → Nat} {M : gM} (hC : CB R p t st M) (hL : lnL R p L ls) (h49 : ∀ s : Nat, s < 2079 → M.1 49 s = i3 (@ite _ (lnP L ls s) (Classical.propDecidable _) (keR R p s + 1) 0)) (hE : exE R p (rxX R p L ls) s0 M) (hs : stP R s0) : wp (f_X3_longestWay (i3 s0) M) (fun r N => r = i3 (avX R p (rxX R p L ls) s0) ∧ CB R p t st N ∧ Fr (cBt ++ [54]) M N) := by
  have hR := hC.1.1
  have hlt := st_lt hs
  obtain ⟨n, K, qs, key, de, hb, hI, hor⟩ := hE
  have hn2 : n ≤ 2079 := by rw [hb.2.1]; exact cN_le 2079
  rw [f_X3_longestWay]
  rcases hor with ⟨h5, hK⟩ | ⟨hH, h5, h6, ho, hg1, hg2, hf⟩
  · rw [h5, if_pos (show i3 (-1) = ((-1) : Int32) from rfl)]
    have hst : ∀ i, i < n → stP R (qs i) := hI.2.1
    have hcl : clQ R p (rxX R p L ls) n qs := by
      intro i hi ho g g1 g2
      have hlh := lh_r (p := p) (s := qs i) hR
      obtain ⟨q, q1, q2⟩ := bf_cov hI hR hi ho g1 g2 (by omega)
      rcases dr_q hR p (rxX R p L ls) (qs i) g with e | ⟨u, u1, u2, u3⟩
      · omega
      · have : u = q := by omega
        subst this
        exact ⟨u, u1, u2, u3, q2.imp id (fun ⟨j, j1, j2, _⟩ => ⟨j, j1, j2⟩)⟩
    have e7 : M.1 47 7 = i3 n := hb.1
    -- the passes
    have pass : ∀ (m ps : Nat) (b : Bool) (N : gM), ps ≤ 2080 → 2080 < m + ps → CB R p t st N → Fr (cBt ++ [54]) M N → lgI R p (rxX R p L ls) n qs N → (b = true → ps ≤ dnC qs n N) → (b = false → ∀ i, i < n → N.1 54 (qs i) = i3 (-1) → ∃ (g : Int) (j : Nat), loR R p (qs i) ≤ g ∧ g ≤ hiR R p (qs i) ∧ j < n ∧ drX R p (rxX R p L ls) (qs i) g = (qs j : Int) ∧ N.1 54 (qs j) = i3 (-1)) → wp (f_X3_longestWay_66 m (i3 s0) (b2i b) (i3 ps) N) (fun r N => r = i3 (avX R p (rxX R p L ls) s0) ∧ CB R p t st N ∧ Fr (cBt ++ [54]) M N) := by
      intro m
      induction m with
      | zero => intro ps b N h1 h2; omega
      | succ m ih =>
        intro ps b N h1 h2 hCN fN hlN hb1 hb2
        have h0 := hlN 0 (by have := hI.1.1; omega)
        rw [hI.1.2.1] at h0
        have fin : (N.1 54 s0 = i3 (-1) → b = false) → wp (f_X3_longestWay_168 (i3 s0) N) (fun r N => r = i3 (avX R p (rxX R p L ls) s0) ∧ CB R p t st N ∧ Fr (cBt ++ [54]) M N) := by
          intro hfin
          rw [f_X3_longestWay_168]
          simp (disch := omega) only [ck_ok, i3_tn, Int.toNat_natCast]
          rcases h0 with ⟨v1, v2⟩ | ⟨v1, v2⟩
          · have hU := hb2 (hfin v1)
            have none : ∀ k i, i < n → N.1 54 (qs i) = i3 (-1) → ¬ apX R p (rxX R p L ls) k (qs i) := by
              intro k
              induction k with
              | zero =>
                intro i hi hd ha
                rcases hlN i hi with w | w
                · exact w.2 ha.2
                · rw [w.2, av_0 ha.1 ha.2] at hd
                  exact absurd hd (by decide)
              | succ k ihk =>
                rintro i hi hd (ha | ⟨-, -, ha⟩)
                · exact ihk i hi hd ha
                · obtain ⟨g, j, g1, g2, j1, j2, j3⟩ := hU i hi hd
                  obtain ⟨u, u1, u2⟩ := ha g g1 g2
                  have : u = qs j := by omega
                  subst this
                  exact ihk j j1 j3 u2
            have hav := av_n (R := R) (p := p) (X := rxX R p L ls) (s := s0) (fun k => by
              have := none k 0 (by have := hI.1.1; omega)
              rw [hI.1.2.1] at this
              exact this v1)
            rw [v1, if_pos (show i3 (-1) = ((-1) : Int32) from rfl), wp_some, hav]
            exact ⟨rfl, hCN, fN⟩
          · have hav2 : avX R p (rxX R p L ls) s0 ≤ 2080 := by
              rcases av_x (R := R) (p := p) (X := rxX R p L ls) (s := s0) with ⟨e, -⟩ | ⟨k, k1, k2, -⟩ <;> omega
            rw [v2]
            simp (disch := omega) only [i3_m1, i3_eq]
            rw [if_neg (by omega), wp_some]
            exact ⟨rfl, hCN, fN⟩
        rw [f_X3_longestWay_66]
        simp (disch := omega) only [iL2079, i3_lt]
        refine wp_if (fun hx => ?_) (fun hx => ?_)
        · refine fin (fun _ => ?_)
          cases b with
          | false => rfl
          | true =>
            have := hb1 rfl
            have := cN_le (P := fun i => ¬ N.1 54 (qs i) = i3 (-1)) n
            unfold dnC at *
            omega
        · simp only [b2i_0]
          refine wp_if (fun hx2 => fin (fun _ => hx2)) (fun hx2 => ?_)
          rw [ck_ok (by omega) (by omega) (by omega), tn_n (by omega)]
          refine wp_if (fun hx3 => ?_) (fun hx3 => fin (fun h => absurd h hx3))
          rw [fN.e1 (by decide), e7, iL1, i3_sub, wp_v]
          refine k_lw97 (L := L) hCN hL (fun s hs => by rw [fN.e1 (by decide)]; exact h49 s hs) hcl hlN hn2 hst (fun i hi => by rw [fN.e1 (by decide)]; exact (hb.2.2.1 i hi).1) hI.2.2.1 (fun b2 N2 u1 u2 u3 u4 u5 => ?_) FU n false N (Nat.le_refl _) (by rw [FU_s]; omega) hCN Fr.rf hlN (fun i hi h => h) (fun h => by cases h) (fun _ => ⟨fun i hi => rfl, fun i i1 i2 => by omega⟩)
          exact ih (ps + 1) b2 N2 (by omega) (by omega) u1 (fN.tr u2) u3 (fun h => by have := u4 h; have := hb1 (bnf hx2); omega) u5
    refine wp_lp (F := fun m x (_ : Unit) M => f_X3_longestWay_13 m (i3 s0) (i3 x) M) (I := fun x _ N => CB R p t st N ∧ Fr (cBt ++ [54]) M N ∧ ∀ i, i < x → N.1 54 (qs i) = i3 (@ite _ (ovP R (qs i)) (Classical.propDecidable _) 0 (-1))) n ?_ ?_ FU 0 () M (by omega) (by rw [FU_s]; omega) ⟨hC, Fr.rf, fun i hi => by omega⟩
    · intro m x _ N hx hI2 hk2
      obtain ⟨i1, fN, i4⟩ := hI2
      have hqx := st_lt (hst x hx)
      have e50 : N.1 50 x = i3 (qs x) := by rw [fN.e1 (by decide)]; exact (hb.2.2.1 x hx).1
      rw [f_X3_longestWay_13, fN.e1 (by decide), e7]
      rw [show i3 (x : Int) + 1 = i3 ((x + 1 : Nat) : Int) from i3_sn x]
      simp (disch := omega) only [i3_le, ck_ok, i3_tn, Int.toNat_natCast, e50]
      rw [if_neg (by omega), k_or i1, k_over i1 hqx, g_b_some, b_if]
      have fin : ∀ v : Int, v = @ite _ (ovP R (qs x)) (Classical.propDecidable _) 0 (-1) → wp (f_X3_longestWay_13 m (i3 s0) (i3 ((x + 1 : Nat) : Int)) (sI N 54 (qs x) (i3 v))) (fun r N => r = i3 (avX R p (rxX R p L ls) s0) ∧ CB R p t st N ∧ Fr (cBt ++ [54]) M N) := by
        intro v hv
        refine hk2 () _ ⟨i1.mv (S := [54]) (Fr.rf.i (by decide)) (by decide), fN.i (by decide), fun i hi => ?_⟩
        rw [rI_e]
        by_cases hix : i = x
        · subst hix
          rw [up_e, hv]
        · rw [up_n (fun e => hix (hI.2.2.1 i x (by omega) hx e))]
          exact i4 i (by omega)
      refine wp_if (fun hov => ?_) (fun hov => ?_)
      · rw [wp_m]
        exact fin 0 (by rw [if_pos hov])
      · rw [wp_m]
        exact fin (-1) (by rw [if_neg hov])
    · intro m _ N hI2
      obtain ⟨i1, fN, i4⟩ := hI2
      rw [f_X3_longestWay_13, fN.e1 (by decide), e7]
      simp (disch := omega) only [i3_le]
      rw [if_pos (by omega)]
      refine pass FU 0 true N (by omega) (by rw [FU_s]; omega) i1 fN (fun i hi => ?_) (fun _ => Nat.zero_le _) (fun h => by cases h)
      by_cases hov : ovP R (qs i)
      · exact Or.inr ⟨by rw [av_0 (hst i hi) hov]; omega, by rw [i4 i hi, if_pos hov, av_0 (hst i hi) hov]⟩
      · exact Or.inl ⟨by rw [i4 i hi, if_neg hov], hov⟩
  · -- a fall: never
    have hlt2 := st_lt (hI.2.1 _ hH)
    have hne : ¬ M.1 47 5 = i3 (-1) := by
      rw [h5, i3_eq (by omega) (by omega) (by omega) (by omega)]
      omega
    rw [if_neg (show ¬ M.1 47 5 = ((-1) : Int32) from hne), wp_some]
    obtain ⟨e1, -, -⟩ := bf_end hI hR rfl rfl hH ho hg1 hg2 hf
    have none : ∀ m s, fpX R p (rxX R p L ls) m s → ∀ k, ¬ apX R p (rxX R p L ls) k s := by
      intro m
      induction m with
      | zero => intro s h; exact h.elim
      | succ m ihm =>
        rintro s (h | ⟨g1, g2, g, g3, g4, g5⟩) k
        · exact ihm s h k
        · induction k with
          | zero => intro ha; exact g2 ha.2
          | succ k ihk =>
            rintro (ha | ⟨-, -, ha⟩)
            · exact ihk ha
            · obtain ⟨u, u1, u2⟩ := ha g g3 g4
              rcases g5 with g5 | ⟨q, q1, q2⟩
              · omega
              · have : u = q := by omega
                subst this
                exact ihm u q2 k u2
    rw [av_n (none _ s0 (fi_p e1 (by omega)).1)]
    exact ⟨rfl, hC, Fr.rf⟩
