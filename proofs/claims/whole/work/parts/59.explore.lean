/-! ===== LEARNED STATES, the ACT by REFLEXES ===== -/
theorem dv_x {R : tR} {p : Int} {s : Nat} : ∀ j, dvR R p s j = -2 ∨ ∃ a : Nat, dvR R p s j = a ∧ caP R p s a := by
  intro j
  induction j with
  | zero =>
    rw [dvR]
    rcases leA_x (P := caP R p s) (n := 6) (-2) with ⟨a, -, h, -, e⟩ | ⟨-, e⟩
    · exact Or.inr ⟨a, e, h⟩
    · exact Or.inl e
  | succ j ih =>
    rw [dvR]
    split
    · next h => exact Or.inr ⟨_, rfl, h.1⟩
    · exact ih
theorem ke_a {R : tR} (hR : tOk R) {p : Int} {s : Nat} (h : sfR R p 0 s) (ho : ¬ ovP R s) : ∃ a : Nat, keR R p s = a ∧ caP R p s a ∧ a < 6 := by
  have hfa : faR R p s = -2 := leA_d (fun n _ hn => hn (h _))
  obtain ⟨a, h1, h2⟩ := (sf_fix.1 h).2.resolve_left ho
  rcases leA_x (P := fun a => caP R p s a ∧ gdP R p (sfR R p 0) 0 s a) (n := 6) (-2) with ⟨b, g1, g2, -, g4⟩ | ⟨g, -⟩
  · refine ⟨b, ?_, g2.1, g1⟩
    unfold keR
    rw [if_pos hfa]
    exact g4
  · exact absurd ⟨h1, h2⟩ (g a (ca_6 hR h1))
/-- what is LEARNED -/
def lnP (L : Nat) (ls : Nat → Nat) (s : Nat) : Prop := ∃ i, i < L ∧ ls i = s
def lnL (R : tR) (p : Int) (L : Nat) (ls : Nat → Nat) : Prop := L ≤ 40 ∧ (∀ i, i < L → sfR R p 0 (ls i) ∧ ¬ ovP R (ls i)) ∧ ∀ i j, i < L → j < L → ls i = ls j → i = j
noncomputable def rxX (R : tR) (p : Int) (L : Nat) (ls : Nat → Nat) (s : Nat) : Int := @ite _ (lnP L ls s) (Classical.propDecidable _) (keR R p s) (drR R p s)
theorem rx_XP {R : tR} (hR : tOk R) {p : Int} {L : Nat} {ls : Nat → Nat} (hL : lnL R p L ls) : XP R p (rxX R p L ls) := by
  intro s hs
  unfold rxX
  split
  · next h =>
    obtain ⟨i, h1, h2⟩ := h
    obtain ⟨g1, g2⟩ := hL.2.1 i h1
    rw [h2] at g1 g2
    obtain ⟨a, e, hc, -⟩ := ke_a hR g1 g2
    exact Or.inr ⟨a, e, hc⟩
  · exact dv_x _
def lnI (R : tR) (p : Int) (L : Nat) (ls : Nat → Nat) (M : gM) : Prop := lnL R p L ls ∧ M.1 47 2 = i3 L ∧ (∀ i : Nat, i < L → M.1 48 i = i3 (ls i)) ∧ ∀ s : Nat, s < 2079 → M.1 49 s = i3 (@ite _ (lnP L ls s) (Classical.propDecidable _) (keR R p s + 1) 0)
theorem rx_r {R : tR} (hR : tOk R) {p : Int} {L : Nat} {ls : Nat → Nat} (hL : lnL R p L ls) (s : Nat) : -2 ≤ rxX R p L ls s ∧ rxX R p L ls s < 6 := by
  unfold rxX
  split
  · next h =>
    obtain ⟨i, h1, h2⟩ := h
    obtain ⟨g1, g2⟩ := hL.2.1 i h1
    rw [h2] at g1 g2
    obtain ⟨a, e, hc, h6⟩ := ke_a hR g1 g2
    omega
  · exact ⟨dv_ne _, dv_lt hR _ (Nat.le_refl _)⟩
theorem k_actIn {R : tR} {p : Int} {t st L s : Nat} {ls : Nat → Nat} {M : gM} (hC : CB R p t st M) (hL : lnL R p L ls) (h49 : ∀ s : Nat, s < 2079 → M.1 49 s = i3 (@ite _ (lnP L ls s) (Classical.propDecidable _) (keR R p s + 1) 0)) (hs : s < 2079) : wp (f_X3_actIn (i3 s) M) (fun r N => r = i3 (rxX R p L ls s) ∧ CB R p t st N ∧ Fr cBt M N) := by
  have hR := hC.1.1
  rw [f_X3_actIn]
  simp (disch := omega) only [iL0, iL2079, i3_lt, i3_le, ck_ok, i3_tn, Int.toNat_natCast]
  rw [if_neg (by omega), if_neg (by omega), h49 s hs]
  unfold rxX
  by_cases h : lnP L ls s
  · obtain ⟨i, h1, h2⟩ := id h
    obtain ⟨g1, g2⟩ := hL.2.1 i h1
    rw [h2] at g1 g2
    obtain ⟨a, e, hc, h6⟩ := ke_a hR g1 g2
    rw [if_pos h, if_pos h, e]
    simp (disch := omega) only [i3_le]
    rw [if_neg (by omega), f_X3_actIn_25, if_neg (show ¬ (1 : Int32) = 0 by decide), ck_ok (by omega) (by omega) (by omega), wp_some, tn_n (by omega), h49 s hs, if_pos h, e, iL1, i3_sub]
    refine ⟨?_, hC, Fr.rf⟩
    congr 1
    omega
  · rw [if_neg h, if_neg h]
    simp (disch := omega) only [i3_le]
    rw [if_pos (by omega), f_X3_actIn_24, f_X3_actIn_25, if_pos (show (0 : Int32) = 0 from rfl)]
    refine wp_b _ (c_draw hs hC) (fun r N hN => ?_)
    rw [wp_some]
    exact hN
theorem k_behind {R : tR} {p : Int} {t st s : Nat} {X : Nat → Int} {g : Int} {M : gM} (hC : CB R p t st M) (hs : s < 2079) (hX : X s = -2 ∨ ∃ a : Nat, X s = a ∧ caP R p s a) (hg : -12 ≤ g ∧ g ≤ 12) : wp (f_X3_behind (i3 s) (i3 (X s)) (i3 g) M) (fun r N => r = i3 (drX R p X s g) ∧ CB R p t st N ∧ Fr cBt M N) := by
  have hR := hC.1.1
  rw [f_X3_behind]
  unfold drX
  rcases hX with h | ⟨a, h, hc⟩
  · rw [h, if_neg (show ¬ (0 : Int32) ≤ i3 (-2) by decide), wp_some, if_pos (by omega)]
    exact ⟨rfl, hC, Fr.rf⟩
  · have ha := ca_6 hR hc
    rw [h]
    simp (disch := omega) only [iL0, i3_le]
    rw [if_pos (by omega), if_neg (by omega), Int.toNat_natCast]
    refine wp_b _ (c_after hs hc.1 hg hC) (fun r N hN => ?_)
    rw [wp_some]
    exact hN
/-! ===== the class's search ===== -/
theorem bf_de {R : tR} {p : Int} {X : Nat → Int} {s0 n K : Nat} {qs key de : Nat → Nat} (h : bfI R p X s0 n K qs key de) : ∀ i, i < n → de i ≤ i := by
  obtain ⟨⟨h1, h2, h3⟩, -, -, h4, -⟩ := h
  intro i
  induction i using Nat.strongRecOn with
  | _ i ih =>
    intro hi
    by_cases h0 : i = 0
    · subst h0; omega
    · obtain ⟨-, a2, -, -, -, -, -, a8⟩ := h4 i (by omega) hi
      have := ih _ a2 (by omega)
      omega
theorem bf_skip {R : tR} {p : Int} {X : Nat → Int} {s0 n K K' : Nat} {qs key de : Nat → Nat} (h : bfI R p X s0 n K qs key de) (hK : K ≤ K') (hs : ∀ k, K ≤ k → k < K' → k / 13 < n → ¬ ovP R (qs (k / 13)) → loR R p (qs (k / 13)) ≤ ((k % 13 : Nat) : Int) - 6 → ((k % 13 : Nat) : Int) - 6 ≤ hiR R p (qs (k / 13)) → False) : bfI R p X s0 n K' qs key de := by
  obtain ⟨h1, h2, h3, h4, h5, h6⟩ := h
  refine ⟨h1, h2, h3, fun i g1 g2 => ⟨by have := (h4 i g1 g2).1; omega, (h4 i g1 g2).2⟩, h5, fun k g1 g2 g3 g4 g5 => ?_⟩
  by_cases hk : k < K
  · exact h6 k hk g2 g3 g4 g5
  · exact (hs k (by omega) g1 g2 g3 g4 g5).elim
/-- a step that leads over, or to what was met -/
theorem bf_old {R : tR} {p : Int} {X : Nat → Int} {s0 n K : Nat} {qs key de : Nat → Nat} (h : bfI R p X s0 n K qs key de) {q : Nat} (hq : drX R p X (qs (K / 13)) (((K % 13 : Nat) : Int) - 6) = (q : Int)) (ho : ovP R q ∨ ∃ i, i < n ∧ qs i = q) : bfI R p X s0 n (K + 1) qs key de := by
  obtain ⟨h1, h2, h3, h4, h5, h6⟩ := h
  refine ⟨h1, h2, h3, fun i g1 g2 => ⟨by have := (h4 i g1 g2).1; omega, (h4 i g1 g2).2⟩, h5, fun k g1 g2 g3 g4 g5 => ?_⟩
  by_cases hk : k < K
  · exact h6 k hk g2 g3 g4 g5
  · have : k = K := by omega
    subst this
    refine ⟨q, hq, ho.imp id (fun ⟨i, i1, i2⟩ => ⟨i, i1, i2, ?_⟩)⟩
    by_cases hi : i = 0
    · exact Or.inl hi
    · exact Or.inr (by have := (h4 i (by omega) i1).1; omega)
/-- a new STATE -/
theorem bf_new {R : tR} {p : Int} {X : Nat → Int} {s0 n K : Nat} {qs key de : Nat → Nat} (h : bfI R p X s0 n K qs key de) {q : Nat} (hst : stP R q) (hn : K / 13 < n) (ho : ¬ ovP R q) (hp : ¬ ovP R (qs (K / 13))) (hl : loR R p (qs (K / 13)) ≤ ((K % 13 : Nat) : Int) - 6) (hh : ((K % 13 : Nat) : Int) - 6 ≤ hiR R p (qs (K / 13))) (hq : drX R p X (qs (K / 13)) (((K % 13 : Nat) : Int) - 6) = (q : Int)) (hnew : ∀ i, i < n → qs i ≠ q) :
    bfI R p X s0 (n + 1) (K + 1) (fun i => if i = n then q else qs i) (fun i => if i = n then K else key i) (fun i => if i = n then de (K / 13) + 1 else de i) := by
  obtain ⟨⟨h0, h0', h0''⟩, h2, h3, h4, h5, h6⟩ := h
  have ne : ∀ i, i < n → ¬ i = n := fun i hi => by omega
  refine ⟨⟨by omega, by simp only [if_neg (ne 0 (by omega))]; exact h0', by simp only [if_neg (ne 0 (by omega))]; exact h0''⟩, fun i hi => ?_, fun i j hi hj e => ?_, fun i g1 g2 => ?_, fun i j g1 g2 g3 => ?_, fun k g1 g2 g3 g4 g5 => ?_⟩
  · by_cases hin : i = n
    · simp only [if_pos hin]; exact hst
    · simp only [if_neg hin]; exact h2 i (by omega)
  · by_cases hin : i = n
    · by_cases hjn : j = n
      · omega
      · simp only [if_pos hin, if_neg hjn] at e
        exact absurd e.symm (hnew j (by omega))
    · by_cases hjn : j = n
      · simp only [if_neg hin, if_pos hjn] at e
        exact absurd e (hnew i (by omega))
      · simp only [if_neg hin, if_neg hjn] at e
        exact h3 i j (by omega) (by omega) e
  · by_cases hin : i = n
    · simp only [if_pos hin, if_neg (ne _ hn)]
      exact ⟨by omega, by omega, ho, hp, hl, hh, hq, trivial⟩
    · obtain ⟨a1, a2, a3, a4, a5, a6, a7, a8⟩ := h4 i g1 (by omega)
      simp only [if_neg hin, if_neg (ne (key i / 13) (by omega))]
      exact ⟨by omega, a2, a3, a4, a5, a6, a7, a8⟩
  · by_cases hjn : j = n
    · have := (h4 i g1 (by omega)).1
      simp only [if_neg (ne i (by omega)), if_pos hjn]
      exact this
    · simp only [if_neg (ne i (by omega)), if_neg hjn]
      exact h5 i j g1 g2 (by omega)
  · by_cases hkn : k / 13 = n
    · omega
    · simp only [if_neg hkn] at g3 g4 g5 ⊢
      by_cases hk : k < K
      · obtain ⟨t, t1, t2⟩ := h6 k hk (by omega) g3 g4 g5
        refine ⟨t, t1, t2.imp id (fun ⟨i, i1, i2, i3⟩ => ⟨i, by omega, ?_, ?_⟩)⟩
        · simp only [if_neg (ne i i1)]; exact i2
        · simp only [if_neg (ne i i1)]; exact i3
      · have : k = K := by omega
        subst this
        exact ⟨q, hq, Or.inr ⟨n, by omega, by simp, by simp⟩⟩
/-- the search as it stands in the class -/
def bM (n : Nat) (qs key de : Nat → Nat) (M : gM) : Prop := M.1 47 7 = i3 n ∧ n = cN (fun q => ∃ i, i < n ∧ qs i = q) 2079 ∧ (∀ i : Nat, i < n → M.1 50 i = i3 (qs i) ∧ M.1 51 (qs i) = i3 (de i) ∧ M.1 52 (qs i) = i3 (if i = 0 then -1 else (qs (key i / 13) : Int)) ∧ (1 ≤ i → M.1 53 (qs i) = i3 (((key i % 13 : Nat) : Int) - 6))) ∧ ∀ q : Nat, q < 2079 → (∀ i, i < n → qs i ≠ q) → M.1 51 q = i3 (-1)
theorem bM.c {n : Nat} {qs key de : Nat → Nat} {M N : gM} (h : bM n qs key de M) (f : Fr cBt M N) : bM n qs key de N := by
  unfold bM
  rw [f.e1 (by decide), f.e1 (by decide), f.e1 (by decide), f.e1 (by decide), f.e1 (by decide)]
  exact h
abbrev cEx : List Nat := cBt ++ [47, 50, 51, 52, 53]
def exF (M N : gM) : Prop := Fr cEx M N ∧ ∀ j, j ≠ 5 → j ≠ 6 → j ≠ 7 → N.1 47 j = M.1 47 j
def exG (M N : gM) : Prop := Fr cEx M N ∧ ∀ j, j ≠ 4 → j ≠ 5 → j ≠ 6 → j ≠ 7 → N.1 47 j = M.1 47 j
theorem exF.rf {M : gM} : exF M M := ⟨Fr.rf, fun _ _ _ _ => rfl⟩
theorem exF.tr {M N L : gM} (h : exF M N) (g : exF N L) : exF M L := ⟨h.1.tr g.1, fun j a b c => (g.2 j a b c).trans (h.2 j a b c)⟩
theorem exF.c {M N : gM} (f : Fr cBt M N) : exF M N := ⟨f.up (by decide), fun j _ _ _ => by rw [f.e1 (by decide)]⟩
theorem k_enq {n h q : Nat} {g : Int} {qs key de : Nat → Nat} {K : Nat} {M : gM} (hb : bM n qs key de M) (hn : h < n) (hq : q < 2079) (hqs : ∀ i, i < n → qs i < 2079) (hde : ∀ i, i < n → de i ≤ i) (hK : K / 13 = h) (hg : ((K % 13 : Nat) : Int) - 6 = g) (hkey : ∀ i, 1 ≤ i → i < n → key i / 13 < i) : wp (f_X3_enqueue (i3 q) (i3 (qs h)) (i3 g) M) (fun _ N => Fr [47, 50, 51, 52, 53] M N ∧ (∀ j, j ≠ 7 → N.1 47 j = M.1 47 j) ∧ (((∃ i, i < n ∧ qs i = q) ∧ bM n qs key de N) ∨ ((∀ i, i < n → qs i ≠ q) ∧ bM (n + 1) (fun i => if i = n then q else qs i) (fun i => if i = n then K else key i) (fun i => if i = n then de h + 1 else de i) N))) := by
  obtain ⟨h1, h2, h3, h4⟩ := id hb
  have hcl : n ≤ 2079 := by rw [h2]; exact cN_le 2079
  have hq2 := hqs h hn
  rw [f_X3_enqueue]
  simp (disch := omega) only [iL0, iL2079, i3_lt, i3_le, ck_ok, i3_tn, Int.toNat_natCast, h1]
  rw [if_neg (by omega), if_neg (by omega)]
  by_cases hold : ∃ i, i < n ∧ qs i = q
  · obtain ⟨i, i1, i2⟩ := id hold
    have e51 : M.1 51 q = i3 (de i) := by rw [← i2]; exact (h3 i i1).2.1
    have := hde i i1
    rw [e51]
    simp (disch := omega) only [i3_m1, i3_eq]
    rw [if_neg (by omega), wp_some]
    exact ⟨Fr.rf, fun _ _ => rfl, Or.inl ⟨hold, hb⟩⟩
  · have hnew : ∀ i, i < n → qs i ≠ q := fun i hi e => hold ⟨i, hi, e⟩
    have hroom : n < 2079 := by
      have := cN_room (A := fun q => ∃ i, i < n ∧ qs i = q) hold hq
      omega
    have hdh := hde h hn
    rw [h4 q hq hnew, if_pos (show i3 (-1) = ((-1) : Int32) from rfl), if_pos (by omega), if_pos (by omega), (h3 h hn).2.1, i3_sn, f_X3_enqueue_53]
    simp (disch := omega) only [ck_ok, i3_tn, Int.toNat_natCast, wp_m]
    have e47 : (sI (sI (sI M 51 q (i3 ((de h + 1 : Nat) : Int))) 52 q (i3 (qs h))) 53 q (i3 g)).1 47 = M.1 47 := by rw [rI_n (by decide), rI_n (by decide), rI_n (by decide)]
    rw [e47, h1]
    simp (disch := omega) only [ck_ok, i3_tn, Int.toNat_natCast, wp_m, wp_some]
    have p47 : (sI (sI (sI (sI M 51 q (i3 ((de h + 1 : Nat) : Int))) 52 q (i3 (qs h))) 53 q (i3 g)) 50 n (i3 q)).1 47 7 = i3 n := by rw [rI_n (by decide), e47, h1]
    rw [p47, i3_sn]
    have q47 : (sI (sI (sI (sI (sI M 51 q (i3 ((de h + 1 : Nat) : Int))) 52 q (i3 (qs h))) 53 q (i3 g)) 50 n (i3 q)) 47 7 (i3 ((n + 1 : Nat) : Int))).1 47 = upd (M.1 47) 7 (i3 ((n + 1 : Nat) : Int)) := by rw [rI_e, rI_n (by decide), e47]
    have q50 : (sI (sI (sI (sI (sI M 51 q (i3 ((de h + 1 : Nat) : Int))) 52 q (i3 (qs h))) 53 q (i3 g)) 50 n (i3 q)) 47 7 (i3 ((n + 1 : Nat) : Int))).1 50 = upd (M.1 50) n (i3 q) := by rw [rI_n (by decide), rI_e, rI_n (by decide), rI_n (by decide), rI_n (by decide)]
    have q51 : (sI (sI (sI (sI (sI M 51 q (i3 ((de h + 1 : Nat) : Int))) 52 q (i3 (qs h))) 53 q (i3 g)) 50 n (i3 q)) 47 7 (i3 ((n + 1 : Nat) : Int))).1 51 = upd (M.1 51) q (i3 ((de h + 1 : Nat) : Int)) := by rw [rI_n (by decide), rI_n (by decide), rI_n (by decide), rI_n (by decide), rI_e]
    have q52 : (sI (sI (sI (sI (sI M 51 q (i3 ((de h + 1 : Nat) : Int))) 52 q (i3 (qs h))) 53 q (i3 g)) 50 n (i3 q)) 47 7 (i3 ((n + 1 : Nat) : Int))).1 52 = upd (M.1 52) q (i3 (qs h)) := by rw [rI_n (by decide), rI_n (by decide), rI_n (by decide), rI_e, rI_n (by decide)]
    have q53 : (sI (sI (sI (sI (sI M 51 q (i3 ((de h + 1 : Nat) : Int))) 52 q (i3 (qs h))) 53 q (i3 g)) 50 n (i3 q)) 47 7 (i3 ((n + 1 : Nat) : Int))).1 53 = upd (M.1 53) q (i3 g) := by rw [rI_n (by decide), rI_n (by decide), rI_e, rI_n (by decide), rI_n (by decide)]
    have fQ : Fr [47, 50, 51, 52, 53] M (sI (sI (sI (sI (sI M 51 q (i3 ((de h + 1 : Nat) : Int))) 52 q (i3 (qs h))) 53 q (i3 g)) 50 n (i3 q)) 47 7 (i3 ((n + 1 : Nat) : Int))) := ((((Fr.rf.i (by decide)).i (by decide)).i (by decide)).i (by decide)).i (by decide)
    generalize sI (sI (sI (sI (sI M 51 q (i3 ((de h + 1 : Nat) : Int))) 52 q (i3 (qs h))) 53 q (i3 g)) 50 n (i3 q)) 47 7 (i3 ((n + 1 : Nat) : Int)) = N at q47 q50 q51 q52 q53 fQ ⊢
    refine ⟨fQ, fun j hj => by rw [q47, up_n hj], Or.inr ⟨hnew, by rw [q47, up_e], ?_, fun i hi => ?_, fun u hu hne => ?_⟩⟩
    · have e : cN (fun u => ∃ i, i < n + 1 ∧ (if i = n then q else qs i) = u) 2079 = cN (fun u => (∃ i, i < n ∧ qs i = u) ∨ u = q) 2079 := cN_c (fun u _ => ⟨fun ⟨i, i1, i2⟩ => by
        by_cases hin : i = n
        · rw [if_pos hin] at i2
          exact Or.inr i2.symm
        · rw [if_neg hin] at i2
          exact Or.inl ⟨i, by omega, i2⟩, fun hu => by
        rcases hu with ⟨i, i1, i2⟩ | hu
        · exact ⟨i, by omega, by rw [if_neg (by omega)]; exact i2⟩
        · exact ⟨n, by omega, by rw [if_pos rfl, hu]⟩⟩)
      rw [e, cN_add (A := fun u => ∃ i, i < n ∧ qs i = u) hold 2079 hq, ← h2]
    · by_cases hin : i = n
      · subst hin
        have hK2 : ¬ K / 13 = i := by omega
        simp only [if_pos]
        rw [q50, q51, q52, q53, up_e, up_e, up_e, up_e, if_neg (by omega), if_neg hK2, hK, hg]
        exact ⟨rfl, rfl, rfl, fun _ => rfl⟩
      · have hne := hnew i (by omega)
        obtain ⟨a1, a2, a3, a4⟩ := h3 i (by omega)
        simp only [if_neg hin]
        rw [q50, q51, q52, q53, up_n hin, up_n hne, up_n hne, up_n hne]
        refine ⟨a1, a2, ?_, a4⟩
        rw [a3]
        by_cases hi0 : i = 0
        · rw [if_pos hi0, if_pos hi0]
        · rw [if_neg hi0, if_neg hi0]
          have := hkey i (by omega) (by omega)
          rw [if_neg (show ¬ key i / 13 = n by omega)]
    · have hun : u ≠ q := fun e => hne n (by omega) (by show (if n = n then q else qs n) = u; rw [if_pos rfl, e])
      rw [q51, up_n hun]
      exact h4 u hu (fun i hi e => hne i (by omega) (by show (if i = n then q else qs i) = u; rw [if_neg (by omega)]; exact e))
/-- after the search: no fall, or the first one -/
def exE (R : tR) (p : Int) (X : Nat → Int) (s0 : Nat) (M : gM) : Prop := ∃ (n K : Nat) (qs key de : Nat → Nat), bM n qs key de M ∧ bfI R p X s0 n K qs key de ∧ ((M.1 47 5 = i3 (-1) ∧ 13 * n ≤ K) ∨ (K / 13 < n ∧ M.1 47 5 = i3 (qs (K / 13)) ∧ M.1 47 6 = i3 (((K % 13 : Nat) : Int) - 6) ∧ ¬ ovP R (qs (K / 13)) ∧ loR R p (qs (K / 13)) ≤ ((K % 13 : Nat) : Int) - 6 ∧ ((K % 13 : Nat) : Int) - 6 ≤ hiR R p (qs (K / 13)) ∧ drX R p X (qs (K / 13)) (((K % 13 : Nat) : Int) - 6) = -2))
theorem exE.c {R : tR} {p : Int} {X : Nat → Int} {s0 : Nat} {M N : gM} (h : exE R p X s0 M) (f : Fr cBt M N) : exE R p X s0 N := by
  obtain ⟨n, K, qs, key, de, h1, h2, h3⟩ := h
  refine ⟨n, K, qs, key, de, h1.c f, h2, ?_⟩
  rw [f.e1 (by decide)]
  exact h3
/-- the gusts of one STATE; a fall ends it -/
theorem k_ex117 {R : tR} {p : Int} {t st s0 h : Nat} {X : Nat → Int} {k41 : Int32 → gM → Option (Unit × gM)} {Q : Unit → gM → Prop} {M0 : gM} (hX : XP R p X)
    (hk : ∀ N (n : Nat) (qs key de : Nat → Nat), CB R p t st N → exF M0 N → N.1 47 5 = i3 (-1) → bM n qs key de N → bfI R p X s0 n (13 * (h + 1)) qs key de → h < n → wp (k41 (i3 ((h + 1 : Nat) : Int)) N) Q)
    (hfall : ∀ N, CB R p t st N → exF M0 N → ¬ N.1 47 5 = i3 (-1) → exE R p X s0 N → wp (k41 (i3 ((h + 1 : Nat) : Int)) N) Q) : ∀ (m : Nat) (g : Int) (M : gM) (n : Nat) (qs key de : Nat → Nat), CB R p t st M → exF M0 M → M.1 47 5 = i3 (-1) → bM n qs key de M → h < n → ¬ ovP R (qs h) → loR R p (qs h) ≤ g → g ≤ hiR R p (qs h) + 1 → hiR R p (qs h) + 2 - g < m → bfI R p X s0 n (13 * h + (g + 6).toNat) qs key de →
    wp (f_X3_explore_117 k41 m (i3 h) (i3 (qs h)) (i3 (X (qs h))) (i3 (hiR R p (qs h))) (i3 g) M) Q := by
  intro m
  induction m with
  | zero => intro g M n qs key de _ _ _ _ _ _ _ h1 h2; omega
  | succ m ih =>
    intro g M n qs key de hC fr h5 hb hn ho hg1 hg2 hm hI
    have hR := hC.1.1
    have hlh := lh_r (p := p) (s := qs h) hR
    have hst := hI.2.1 h hn
    have hlt := st_lt hst
    have hn2 : n ≤ 2079 := by rw [hb.2.1]; exact cN_le 2079
    have eK1 : (13 * h + (g + 6).toNat) / 13 = h ∨ g = hiR R p (qs h) + 1 := by omega
    rw [f_X3_explore_117]
    rw [show i3 (h : Int) + 1 = i3 ((h + 1 : Nat) : Int) from i3_sn h]
    simp (disch := omega) only [i3_lt]
    refine wp_if (fun hx => ?_) (fun hx => ?_)
    · refine hk M n qs key de hC fr h5 hb (bf_skip hI (by omega) (fun k k1 k2 k3 k4 k5 k6 => ?_)) hn
      have : k / 13 = h := by omega
      rw [this] at k6
      omega
    · have eK : (13 * h + (g + 6).toNat) / 13 = h := by omega
      have eG : (((13 * h + (g + 6).toNat) % 13 : Nat) : Int) - 6 = g := by omega
      rw [h5, if_pos (show i3 (-1) = ((-1) : Int32) from rfl)]
      refine wp_b _ (k_behind hC hlt (hX _ hst) (by omega)) (fun r N hN => ?_)
      obtain ⟨rfl, hC1, f1⟩ := hN
      have fr1 := fr.tr (exF.c f1)
      have hb1 := hb.c f1
      rw [show i3 g + 1 = i3 (g + 1) from i3_add g 1]
      have eKn : 13 * h + (g + 6).toNat + 1 = 13 * h + (g + 1 + 6).toNat := by omega
      rcases dr_q hR p X (qs h) g with hq | ⟨q, hq, hq2, hq3⟩
      · rw [hq, if_neg (show ¬ (0 : Int32) ≤ i3 (-2) by decide)]
        simp only [wp_m]
        have q5 : (sI (sI N 47 5 (i3 (qs h))) 47 6 (i3 g)).1 47 5 = i3 (qs h) := by rw [rI_e, up_n (by decide), rI_e, up_e]
        have q6 : (sI (sI N 47 5 (i3 (qs h))) 47 6 (i3 g)).1 47 6 = i3 g := by rw [rI_e, up_e]
        have q7 : (sI (sI N 47 5 (i3 (qs h))) 47 6 (i3 g)).1 47 7 = N.1 47 7 := by rw [rI_e, up_n (by decide), rI_e, up_n (by decide)]
        have qn : ∀ j, j ≠ 5 → j ≠ 6 → (sI (sI N 47 5 (i3 (qs h))) 47 6 (i3 g)).1 47 j = N.1 47 j := fun j j1 j2 => by rw [rI_e, up_n j2, rI_e, up_n j1]
        have fQ : Fr [47] N (sI (sI N 47 5 (i3 (qs h))) 47 6 (i3 g)) := (Fr.rf.i (by decide)).i (by decide)
        generalize sI (sI N 47 5 (i3 (qs h))) 47 6 (i3 g) = N2 at q5 q6 q7 qn fQ ⊢
        have hb2 : bM n qs key de N2 := by
          obtain ⟨b1, b2, b3, b4⟩ := hb1
          refine ⟨by rw [q7]; exact b1, b2, fun i hi => ?_, fun u hu hne => ?_⟩
          · rw [fQ.e1 (by decide), fQ.e1 (by decide), fQ.e1 (by decide), fQ.e1 (by decide)]
            exact b3 i hi
          · rw [fQ.e1 (by decide)]
            exact b4 u hu hne
        have hC2 := hC1.mv fQ (by decide)
        have fr2 : exF M0 N2 := fr1.tr ⟨fQ.up (by decide), fun j j5 j6 _ => qn j j5 j6⟩
        have hne5 : ¬ N2.1 47 5 = i3 (-1) := by
          rw [q5, i3_eq (by omega) (by omega) (by omega) (by omega)]
          omega
        have hE : exE R p X s0 N2 := ⟨n, _, qs, key, de, hb2, hI, Or.inr (by rw [eK, eG]; exact ⟨hn, q5, q6, ho, hg1, by omega, hq⟩)⟩
        cases m with
        | zero => omega
        | succ m =>
          rw [f_X3_explore_117]
          rw [show i3 (h : Int) + 1 = i3 ((h + 1 : Nat) : Int) from i3_sn h]
          refine wp_if (fun _ => hfall N2 hC2 fr2 hne5 hE) (fun _ => ?_)
          rw [if_neg (show ¬ N2.1 47 5 = ((-1) : Int32) from hne5)]
          exact hfall N2 hC2 fr2 hne5 hE
      · have hqK : drX R p X (qs ((13 * h + (g + 6).toNat) / 13)) ((((13 * h + (g + 6).toNat) % 13 : Nat) : Int) - 6) = (q : Int) := by rw [eK, eG]; exact hq
        have h51 : N.1 47 5 = i3 (-1) := by rw [f1.e1 (by decide)]; exact h5
        have e0 : (0 : Int32) ≤ i3 (q : Int) := by
          rw [iL0, i3_le (by omega) (by omega) (by omega) (by omega)]
          omega
        rw [hq, if_pos e0, k_or hC1, k_over hC1 hq2, g_b_some, b_if]
        refine wp_if (fun hov => ?_) (fun hov => ?_)
        · exact ih (g + 1) N n qs key de hC1 fr1 h51 hb1 hn ho (by omega) (by omega) (by omega) (by rw [← eKn]; exact bf_old hI hqK (Or.inl hov))
        · refine wp_b _ (k_enq (K := 13 * h + (g + 6).toNat) hb1 hn hq2 (fun i hi => st_lt (hI.2.1 i hi)) (bf_de hI) eK eG (fun i i1 i2 => (hI.2.2.2.1 i i1 i2).2.1)) (fun _ N2 hN => ?_)
          obtain ⟨f2, g2, hor⟩ := hN
          have hC2 := hC1.mv f2 (by decide)
          have fr2 : exF M0 N2 := fr1.tr ⟨f2.up (by decide), fun j _ _ j7 => g2 j j7⟩
          have h52 : N2.1 47 5 = i3 (-1) := by rw [g2 5 (by decide)]; exact h51
          rcases hor with ⟨hold, hb2⟩ | ⟨hnew, hb2⟩
          · exact ih (g + 1) N2 n qs key de hC2 fr2 h52 hb2 hn ho (by omega) (by omega) (by omega) (by rw [← eKn]; exact bf_old hI hqK (Or.inr hold))
          · have hI2 := bf_new hI hq3 (by rw [eK]; exact hn) hov (by rw [eK]; exact ho) (by rw [eK, eG]; exact hg1) (by rw [eK, eG]; omega) hqK hnew
            rw [eK] at hI2
            have hh : (if h = n then q else qs h) = qs h := if_neg (by omega)
            have := ih (g + 1) N2 (n + 1) (fun i => if i = n then q else qs i) (fun i => if i = n then 13 * h + (g + 6).toNat else key i) (fun i => if i = n then de h + 1 else de i) hC2 fr2 h52 hb2 (by omega)
            simp only [hh] at this
            exact this ho (by omega) (by omega) (by omega) (by rw [← eKn]; exact hI2)
theorem k_ex41 {R : tR} {p : Int} {t st s0 L : Nat} {ls : Nat → Nat} {M0 : gM} (hL : lnL R p L ls) (h49 : ∀ s : Nat, s < 2079 → M0.1 49 s = i3 (@ite _ (lnP L ls s) (Classical.propDecidable _) (keR R p s + 1) 0)) : ∀ (m h : Nat) (M : gM), CB R p t st M → exF M0 M → 2080 < m + h → ((M.1 47 5 = i3 (-1) ∧ ∃ (n : Nat) (qs key de : Nat → Nat), bM n qs key de M ∧ bfI R p (rxX R p L ls) s0 n (13 * h) qs key de ∧ h ≤ n) ∨ (¬ M.1 47 5 = i3 (-1) ∧ 1 ≤ h ∧ h ≤ 2079 ∧ exE R p (rxX R p L ls) s0 M)) →
    wp (f_X3_explore_41 m (i3 h) M) (fun _ N => CB R p t st N ∧ exF M0 N ∧ exE R p (rxX R p L ls) s0 N) := by
  intro m
  induction m with
  | zero =>
    rintro h M _ _ hm (⟨h5, n, qs, key, de, hb, hI, hhn⟩ | ⟨-, -, h3, -⟩)
    · have hn2 : n ≤ 2079 := by rw [hb.2.1]; exact cN_le 2079
      omega
    · omega
  | succ m ih =>
    intro h M hC fr hm hcase
    have hR := hC.1.1
    have hX := rx_XP hR hL
    rw [f_X3_explore_41]
    rcases hcase with ⟨h5, n, qs, key, de, hb, hI, hhn⟩ | ⟨h5, h1, h3, hE⟩
    · have hn2 : n ≤ 2079 := by rw [hb.2.1]; exact cN_le 2079
      rw [hb.1]
      simp (disch := omega) only [i3_le, iL2079]
      refine wp_if (fun hx => ?_) (fun hx => ?_)
      · rw [wp_some]
        exact ⟨hC, fr, n, 13 * h, qs, key, de, hb, hI, Or.inl ⟨h5, by omega⟩⟩
      · have hst := hI.2.1 h (by omega)
        have hlt := st_lt hst
        have hlh := lh_r (p := p) (s := qs h) hR
        rw [if_neg (by omega), h5, if_pos (show i3 (-1) = ((-1) : Int32) from rfl), ck_ok (by omega) (by omega) (by omega), wp_v, tn_n (by omega), (hb.2.2.1 h (by omega)).1]
        refine wp_b _ (k_actIn hC hL (fun s hs => by rw [fr.1.e1 (by decide)]; exact h49 s hs) hlt) (fun r N hN => ?_)
        obtain ⟨rfl, hC1, f1⟩ := hN
        rw [k_or hC1, k_over hC1 hlt, g_b_some, b_if]
        refine wp_if (fun ho => ?_) (fun ho => ?_)
        · rw [f_X3_explore_105]
          refine wp_b _ (c_least hlt hC1) (fun r N2 hN => ?_)
          obtain ⟨rfl, hC2, f2⟩ := hN
          have fr2 := (fr.tr (exF.c f1)).tr (exF.c f2)
          rw [FU_s, f_X3_explore_117]
          rw [show i3 (h : Int) + 1 = i3 ((h + 1 : Nat) : Int) from i3_sn h]
          rw [if_pos (show ((-13) : Int32) < i3 (loR R p (qs h)) by
            rw [show ((-13) : Int32) = i3 (-13) from rfl, i3_lt (by omega) (by omega) (by omega) (by omega)]
            omega)]
          refine ih (h + 1) N2 hC2 fr2 (by omega) (Or.inl ⟨by rw [f2.e1 (by decide), f1.e1 (by decide)]; exact h5, n, qs, key, de, (hb.c f1).c f2, bf_skip hI (by omega) (fun k k1 k2 k3 k4 k5 k6 => ?_), by omega⟩)
          have : k / 13 = h := by omega
          rw [this] at k4
          exact k4 ho
        · refine wp_b _ (c_great hlt hC1) (fun r N2 hN => ?_)
          obtain ⟨rfl, hC2, f2⟩ := hN
          rw [f_X3_explore_105]
          refine wp_b _ (c_least hlt hC2) (fun r N3 hN => ?_)
          obtain ⟨rfl, hC3, f3⟩ := hN
          have fr3 := ((fr.tr (exF.c f1)).tr (exF.c f2)).tr (exF.c f3)
          refine k_ex117 hX (fun N4 n4 qs4 key4 de4 u1 u2 u3 u4 u5 u6 => ?_) (fun N4 u1 u2 u3 u4 => ?_) FU (loR R p (qs h)) N3 n qs key de hC3 fr3 (by rw [f3.e1 (by decide), f2.e1 (by decide), f1.e1 (by decide)]; exact h5) (((hb.c f1).c f2).c f3) (by omega) ho (by omega) (by omega) (by rw [FU_s]; omega) (bf_skip hI (by omega) (fun k k1 k2 k3 k4 k5 k6 => ?_))
          · exact ih (h + 1) N4 u1 u2 (by omega) (Or.inl ⟨u3, n4, qs4, key4, de4, u4, u5, by omega⟩)
          · exact ih (h + 1) N4 u1 u2 (by omega) (Or.inr ⟨u3, by omega, by omega, u4⟩)
          · have : k / 13 = h := by omega
            rw [this] at k5
            omega
    · obtain ⟨n, K, qs, key, de, hb, hI, hor⟩ := id hE
      have hn2 : n ≤ 2079 := by rw [hb.2.1]; exact cN_le 2079
      have fin : wp (some ((), M)) (fun _ N => CB R p t st N ∧ exF M0 N ∧ exE R p (rxX R p L ls) s0 N) := by
        rw [wp_some]
        exact ⟨hC, fr, hE⟩
      refine wp_if (fun _ => fin) (fun _ => wp_if (fun _ => fin) (fun _ => ?_))
      rw [if_neg (show ¬ M.1 47 5 = ((-1) : Int32) from h5)]
      exact fin
def exI (R : tR) (p : Int) (X : Nat → Int) (M : gM) : Prop := M.1 47 4 = i3 (-1) ∨ ∃ s0 : Nat, stP R s0 ∧ M.1 47 4 = i3 s0 ∧ exE R p X s0 M
theorem k_explore {R : tR} {p : Int} {t st s0 L : Nat} {ls : Nat → Nat} {M : gM} (hC : CB R p t st M) (hs : stP R s0) (hl : lnI R p L ls M) (hE : exI R p (rxX R p L ls) M) : wp (f_X3_explore (i3 s0) M) (fun _ N => CB R p t st N ∧ exG M N ∧ N.1 47 4 = i3 s0 ∧ exE R p (rxX R p L ls) s0 N) := by
  have hR := hC.1.1
  have hlt := st_lt hs
  rw [f_X3_explore]
  refine wp_if (fun hx => ?_) (fun hx => ?_)
  · rcases hE with hE | ⟨s1, g1, g2, g3⟩
    · rw [hE, i3_eq (by omega) (by omega) (by omega) (by omega)] at hx
      omega
    · have : s1 = s0 := by
        have := st_lt g1
        rw [g2, i3_eq (by omega) (by omega) (by omega) (by omega)] at hx
        omega
      subst this
      rw [wp_some]
      exact ⟨hC, ⟨Fr.rf, fun _ _ _ _ _ => rfl⟩, g2, g3⟩
  · simp only [wp_m]
    have f1 : Fr [47] M (sI (sI M 47 4 (i3 s0)) 47 5 (-1)) := (Fr.rf.i (by decide)).i (by decide)
    have q4 : (sI (sI M 47 4 (i3 s0)) 47 5 (-1)).1 47 4 = i3 s0 := by rw [rI_e, up_n (by decide), rI_e, up_e]
    have q5 : (sI (sI M 47 4 (i3 s0)) 47 5 (-1)).1 47 5 = i3 (-1) := by rw [rI_e, up_e]; rfl
    have qn : ∀ j, j ≠ 4 → j ≠ 5 → (sI (sI M 47 4 (i3 s0)) 47 5 (-1)).1 47 j = M.1 47 j := fun j j1 j2 => by rw [rI_e, up_n j2, rI_e, up_n j1]
    generalize sI (sI M 47 4 (i3 s0)) 47 5 (-1) = M1 at f1 q4 q5 qn ⊢
    refine wp_b _ (k_fill (c := 51) (n0 := 2079) (v := -1) (by omega) (by omega)) (fun _ M2 hN => ?_)
    obtain ⟨f2, g51⟩ := hN
    rw [wp_m]
    have f3 : Fr [47, 51] M1 (sI M2 47 7 0) := (f2.up (by decide)).i (by decide)
    have p47 : (sI M2 47 7 0).1 47 = upd (M1.1 47) 7 0 := by rw [rI_e, f2.e1 (by decide)]
    have p51 : ∀ q : Nat, q < 2079 → (sI M2 47 7 0).1 51 q = i3 (-1) := fun q hq => by rw [rI_n (by decide), g51 q hq]; rfl
    generalize sI M2 47 7 0 = M3 at f3 p47 p51 ⊢
    -- the start is met
    have enq : wp (f_X3_enqueue (i3 s0) ((-1) : Int32) (0 : Int32) M3) (fun _ N => Fr [47, 50, 51, 52, 53] M3 N ∧ (∀ j, j ≠ 7 → N.1 47 j = M3.1 47 j) ∧ bM 1 (fun _ => s0) (fun _ => 0) (fun _ => 0) N) := by
      have e7 : M3.1 47 7 = 0 := by rw [p47, up_e]
      rw [f_X3_enqueue]
      simp (disch := omega) only [iL2079, i3_le, ck_ok, i3_tn, Int.toNat_natCast]
      rw [if_neg (show ¬ i3 (s0 : Int) < 0 by rw [iL0, i3_lt (by omega) (by omega) (by omega) (by omega)]; omega), if_neg (by omega), p51 s0 hlt, if_pos (show i3 (-1) = ((-1) : Int32) from rfl), e7]
      refine wp_if (fun _ => ?_) (fun h => absurd (by decide) h)
      rw [if_neg (show ¬ (0 : Int32) ≤ -1 by decide), f_X3_enqueue_53]
      simp (disch := omega) only [ck_ok, i3_tn, Int.toNat_natCast, wp_m]
      have e47 : (sI (sI (sI M3 51 s0 0) 52 s0 (-1)) 53 s0 0).1 47 = M3.1 47 := by rw [rI_n (by decide), rI_n (by decide), rI_n (by decide)]
      rw [e47, e7, iL0, ck_ok (by omega) (by omega) (by omega), wp_m, wp_m, wp_some]
      have e77 : (sI (sI (sI (sI M3 51 s0 (i3 0)) 52 s0 (-1)) 53 s0 (i3 0)) 50 (tn (i3 0)) (i3 s0)).1 47 7 = 0 := by rw [rI_n (by decide), rI_n (by decide), rI_n (by decide), rI_n (by decide), e7]
      rw [e77]
      refine ⟨((((Fr.rf.i (by decide)).i (by decide)).i (by decide)).i (by decide)).i (by decide), fun j hj => by rw [rI_e, up_n hj, rI_n (by decide), rI_n (by decide), rI_n (by decide), rI_n (by decide)], by rw [rI_e, up_e]; rfl, ?_, fun i hi => ?_, fun q hq hne => ?_⟩
      · have : cN (fun q => ∃ i, i < 1 ∧ s0 = q) 2079 = cN (fun q => False ∨ q = s0) 2079 := cN_c (fun q _ => ⟨fun ⟨_, _, h⟩ => Or.inr h.symm, fun h => ⟨0, by omega, (h.resolve_left id).symm⟩⟩)
        rw [this, cN_add (A := fun _ => False) id 2079 hlt, cN_none 2079 (fun _ _ h => h)]
      · have : i = 0 := by omega
        subst this
        refine ⟨?_, ?_, ?_, fun h => by omega⟩
        · rw [rI_n (by decide), rI_e, show tn (i3 0) = 0 from rfl, up_e]
        · rw [rI_n (by decide), rI_n (by decide), rI_n (by decide), rI_n (by decide), rI_e, up_e]; rfl
        · rw [rI_n (by decide), rI_n (by decide), rI_n (by decide), rI_e, up_e, if_pos rfl]; rfl
      · have : q ≠ s0 := fun e => hne 0 (by omega) e.symm
        rw [rI_n (by decide), rI_n (by decide), rI_n (by decide), rI_n (by decide), rI_e, up_n this]
        exact p51 q hq
    refine wp_b _ enq (fun _ M4 hN => ?_)
    obtain ⟨f4, g4, hb⟩ := hN
    have fr4 : exG M M4 := ⟨(f1.up (by decide)).tr ((f3.up (by decide)).tr (f4.up (by decide))), fun j j4 j5 j6 j7 => by rw [g4 j j7, p47, up_n j7, qn j j4 j5]⟩
    have hC4 : CB R p t st M4 := ((hC.mv f1 (by decide)).mv f3 (by decide)).mv f4 (by decide)
    have e4 : M4.1 47 4 = i3 s0 := by rw [g4 4 (by decide), p47, up_n (by decide), q4]
    have e5 : M4.1 47 5 = i3 (-1) := by rw [g4 5 (by decide), p47, up_n (by decide), q5]
    refine wp_mono (k_ex41 (s0 := s0) (M0 := M4) hl.1 (fun s hs => by rw [fr4.1.e1 (by decide)]; exact hl.2.2.2 s hs) FU 0 M4 hC4 exF.rf (by rw [FU_s]; omega) (Or.inl ⟨e5, 1, fun _ => s0, fun _ => 0, fun _ => 0, hb, ?_, by omega⟩)) (fun _ N hN => ?_)
    · exact ⟨⟨by omega, rfl, rfl⟩, fun i _ => hs, fun i j hi hj _ => by omega, fun i h1 h2 => by omega, fun i j h1 h2 h3 => by omega, fun k hk => by omega⟩
    · obtain ⟨u1, u2, u3⟩ := hN
      exact ⟨u1, ⟨fr4.1.tr u2.1, fun j j4 j5 j6 j7 => by rw [u2.2 j j5 j6 j7, fr4.2 j j4 j5 j6 j7]⟩, by rw [u2.2 4 (by decide) (by decide) (by decide), e4], u3⟩
