theorem iL40 : (40 : Int32) = i3 40 := rfl
/-! ===== LEARNING ===== -/
/-- the last STATE of the way's first k that is SAFE and not LEARNED, or -1 -/
noncomputable def fdX (R : tR) (p : Int) (L : Nat) (ls : Nat → Nat) (s0 : Nat) : Nat → Int
  | 0 => -1
  | k + 1 => @ite _ (sfR R p 0 (ptX R p (rxX R p L ls) s0 k) ∧ ¬ lnP L ls (ptX R p (rxX R p L ls) s0 k)) (Classical.propDecidable _) (ptX R p (rxX R p L ls) s0 k : Int) (fdX R p L ls s0 k)
noncomputable def fnX (R : tR) (p : Int) (L : Nat) (ls : Nat → Nat) (s0 : Nat) : Int := fdX R p L ls s0 (fiX R p (rxX R p L ls) s0).toNat
def lsU (L : Nat) (ls : Nat → Nat) (q i : Nat) : Nat := if i = L then q else ls i
theorem lsU_e {L q : Nat} {ls : Nat → Nat} : lsU L ls q L = q := if_pos rfl
theorem lsU_n {L q i : Nat} {ls : Nat → Nat} (h : ¬ i = L) : lsU L ls q i = ls i := if_neg h
noncomputable def lnR (R : tR) (p : Int) (s0 : Nat) : Nat → Nat → (Nat → Nat) → Nat × (Nat → Nat)
  | 0, L, ls => (L, ls)
  | n + 1, L, ls => @ite _ (fnX R p L ls s0 < 0) (Classical.propDecidable _) (L, ls) (lnR R p s0 n (L + 1) (lsU L ls (fnX R p L ls s0).toNat))
theorem fd_x {R : tR} {p : Int} {L s0 : Nat} {ls : Nat → Nat} : ∀ k, fdX R p L ls s0 k = -1 ∨ ∃ j, j < k ∧ fdX R p L ls s0 k = (ptX R p (rxX R p L ls) s0 j : Int) ∧ sfR R p 0 (ptX R p (rxX R p L ls) s0 j) ∧ ¬ lnP L ls (ptX R p (rxX R p L ls) s0 j) := by
  intro k
  induction k with
  | zero => exact Or.inl rfl
  | succ k ih =>
    rw [fdX]
    split
    · next h => exact Or.inr ⟨k, by omega, rfl, h.1, h.2⟩
    · rcases ih with ih | ⟨j, j1, j2⟩
      · exact Or.inl ih
      · exact Or.inr ⟨j, by omega, j2⟩
theorem fn_x {R : tR} (hR : tOk R) {p : Int} {L s0 : Nat} {ls : Nat → Nat} : fnX R p L ls s0 = -1 ∨ ∃ q : Nat, fnX R p L ls s0 = q ∧ sfR R p 0 q ∧ ¬ ovP R q ∧ ¬ lnP L ls q ∧ stP R q := by
  rcases fd_x (R := R) (p := p) (L := L) (s0 := s0) (ls := ls) (fiX R p (rxX R p L ls) s0).toNat with h | ⟨j, j1, j2, j3, j4⟩
  · exact Or.inl h
  · have hfi := fi_r (R := R) (p := p) (X := rxX R p L ls) (s := s0)
    have hf := pt_fi (p := p) (X := rxX R p L ls) (s0 := s0) (d := (fiX R p (rxX R p L ls) s0).toNat) hR (by omega) j j1
    obtain ⟨g1, g2, -⟩ := fg_P hf (by omega)
    exact Or.inr ⟨_, j2, j3, g2, j4, g1⟩
theorem ln_up {R : tR} {p : Int} {L q : Nat} {ls : Nat → Nat} (h : lnL R p L ls) (hL : L < 40) (h1 : sfR R p 0 q) (h2 : ¬ ovP R q) (h3 : ¬ lnP L ls q) : lnL R p (L + 1) (lsU L ls q) := by
  obtain ⟨g1, g2, g3⟩ := h
  refine ⟨by omega, fun i hi => ?_, fun i j hi hj e => ?_⟩
  · by_cases hiL : i = L
    · rw [hiL, lsU_e]; exact ⟨h1, h2⟩
    · rw [lsU_n hiL]; exact g2 i (by omega)
  · by_cases hiL : i = L
    · by_cases hjL : j = L
      · omega
      · rw [hiL, lsU_e, lsU_n hjL] at e
        exact absurd ⟨j, by omega, e.symm⟩ h3
    · by_cases hjL : j = L
      · rw [hjL, lsU_e, lsU_n hiL] at e
        exact absurd ⟨i, by omega, e⟩ h3
      · rw [lsU_n hiL, lsU_n hjL] at e
        exact g3 i j (by omega) (by omega) e
theorem lnP_up {L q s : Nat} {ls : Nat → Nat} : lnP (L + 1) (lsU L ls q) s ↔ lnP L ls s ∨ s = q := by
  constructor
  · rintro ⟨i, i1, i2⟩
    by_cases hiL : i = L
    · rw [hiL, lsU_e] at i2; exact Or.inr i2.symm
    · rw [lsU_n hiL] at i2; exact Or.inl ⟨i, by omega, i2⟩
  · rintro (⟨i, i1, i2⟩ | h)
    · exact ⟨i, by omega, by rw [lsU_n (by omega)]; exact i2⟩
    · exact ⟨L, by omega, by rw [lsU_e, h]⟩
abbrev cLn : List Nat := cBt ++ [47, 48, 49, 50, 51, 52, 53]
/-- the way back to what is to be LEARNED -/
theorem k_l46 {R : tR} {p : Int} {L s0 d : Nat} {ls : Nat → Nat} {k11 : Int32 → Int32 → Int32 → Int32 → gM → Option (Int32 × gM)} {Q : Int32 → gM → Prop} {M : gM} {x1 x3 x5 : Int32} (hR : tOk R) (hk : keO R p M) (hl : lnI R p L ls M) (hd : d ≤ 2079) (hst : ∀ i, i < d → stP R (ptX R p (rxX R p L ls) s0 i)) (hp : ∀ i, i + 1 < d → M.1 52 (ptX R p (rxX R p L ls) s0 (i + 1)) = i3 (ptX R p (rxX R p L ls) s0 i)) (h0 : 0 < d → M.1 52 s0 = i3 (-1))
    (hq : wp (f_X3_learnFrom_93 k11 x1 x3 x5 (i3 (fdX R p L ls s0 d)) M) Q) : ∀ (n k b : Nat), k ≤ d → k < n → k + b ≤ 2079 → fdX R p L ls s0 k = fdX R p L ls s0 d →
    wp (f_X3_learnFrom_46 k11 n x1 x3 x5 (i3 (@ite _ (k = 0) (Classical.propDecidable _) (-1) (ptX R p (rxX R p L ls) s0 (k - 1) : Int))) (i3 b) M) Q := by
  intro n
  induction n with
  | zero => intro k b h1 h2; omega
  | succ n ih =>
    intro k b h1 h2 h3 he
    rw [f_X3_learnFrom_46]
    cases k with
    | zero =>
      rw [if_pos rfl]
      have hdd : fdX R p L ls s0 d = -1 := he.symm
      rw [hdd] at hq
      refine wp_if (fun _ => hq) (fun _ => ?_)
      rw [if_pos (show i3 (-1) < 0 by decide)]
      exact hq
    | succ k =>
      have hs := hst k (by omega)
      have hlt := st_lt hs
      rw [if_neg (show ¬ k + 1 = 0 by omega), Nat.add_sub_cancel]
      simp (disch := omega) only [iL2079, iL0, i3_le, i3_lt]
      rw [if_neg (by omega), if_neg (by omega), k_safe hk hlt, g_b_some, b_if]
      -- a step back
      have back : ¬ (sfR R p 0 (ptX R p (rxX R p L ls) s0 k) ∧ ¬ lnP L ls (ptX R p (rxX R p L ls) s0 k)) → wp (f_X3_learnFrom_46 k11 n x1 x3 x5 (M.1 52 (ptX R p (rxX R p L ls) s0 k)) (i3 ((b + 1 : Nat) : Int)) M) Q := by
        intro hno
        have he2 : fdX R p L ls s0 k = fdX R p L ls s0 d := by rw [← he, fdX, if_neg hno]
        have := ih k (b + 1) (by omega) (by omega) (by omega) he2
        cases k with
        | zero =>
          rw [if_pos rfl] at this
          rw [show ptX R p (rxX R p L ls) s0 0 = s0 from rfl, h0 (by omega)]
          exact this
        | succ k =>
          rw [if_neg (by omega), Nat.add_sub_cancel] at this
          rw [hp k (by omega)]
          exact this
      refine wp_if (fun hsf => ?_) (fun hsf => ?_)
      · rw [ck_ok (by omega) (by omega) (by omega), tn_n (by omega), hl.2.2.2 _ hlt]
        by_cases hln : lnP L ls (ptX R p (rxX R p L ls) s0 k)
        · obtain ⟨i, i1, i2⟩ := id hln
          obtain ⟨g1, g2⟩ := hl.1.2.1 i i1
          rw [i2] at g1 g2
          obtain ⟨a, ea, -, h6⟩ := ke_a hR g1 g2
          rw [if_pos hln, ea]
          simp (disch := omega) only [i3_eq]
          rw [if_neg (by omega), ck_ok (by omega) (by omega) (by omega), wp_v, i3_sn]
          exact back (fun h => h.2 hln)
        · rw [if_neg hln]
          refine wp_if (fun _ => ?_) (fun h => absurd rfl h)
          have : fdX R p L ls s0 d = (ptX R p (rxX R p L ls) s0 k : Int) := by rw [← he, fdX, if_pos ⟨hsf, hln⟩]
          rw [this] at hq
          exact hq
      · rw [ck_ok (by omega) (by omega) (by omega), wp_v, tn_n (by omega), i3_sn]
        exact back (fun h => hsf h.1)
theorem k_l11 {R : tR} {p : Int} {t st s0 L0 : Nat} {M0 : gM} (hs : stP R s0) (hk0 : keO R p M0) : ∀ (n i L : Nat) (ls : Nat → Nat) (M : gM), 40 < n + i → i ≤ L → CB R p t st M → Fr cLn M0 M → (∀ j, j ≠ 2 → j ≠ 4 → j ≠ 5 → j ≠ 6 → j ≠ 7 → M.1 47 j = M0.1 47 j) → lnI R p L ls M → exI R p (rxX R p L ls) M →
    wp (f_X3_learnFrom_11 n (i3 s0) (i3 L0) (b2i true) (i3 i) M) (fun r N => r = i3 (((lnR R p s0 (40 - L) L ls).1 : Int) - L0) ∧ CB R p t st N ∧ Fr cLn M0 N ∧ (∀ j, j ≠ 2 → j ≠ 4 → j ≠ 5 → j ≠ 6 → j ≠ 7 → N.1 47 j = M0.1 47 j) ∧ lnI R p (lnR R p s0 (40 - L) L ls).1 (lnR R p s0 (40 - L) L ls).2 N ∧ exI R p (rxX R p (lnR R p s0 (40 - L) L ls).1 (lnR R p s0 (40 - L) L ls).2) N) := by
  intro n
  induction n with
  | zero =>
    intro i L ls M h1 h2 _ _ _ hl
    have := hl.1.1
    omega
  | succ n ih =>
    intro i L ls M h1 h2 hC fr h47 hl hE
    have hR := hC.1.1
    have hL40 := hl.1.1
    have hkM : keO R p M := fun s hs => by rw [fr.e1 (by decide), fr.e1 (by decide)]; exact hk0 s hs
    rw [f_X3_learnFrom_11, hl.2.1]
    simp (disch := omega) only [iL40, i3_le]
    have fin : L = 40 → wp (some (i3 (L : Int) - i3 (L0 : Int), M)) (fun r N => r = i3 (((lnR R p s0 (40 - L) L ls).1 : Int) - L0) ∧ CB R p t st N ∧ Fr cLn M0 N ∧ (∀ j, j ≠ 2 → j ≠ 4 → j ≠ 5 → j ≠ 6 → j ≠ 7 → N.1 47 j = M0.1 47 j) ∧ lnI R p (lnR R p s0 (40 - L) L ls).1 (lnR R p s0 (40 - L) L ls).2 N ∧ exI R p (rxX R p (lnR R p s0 (40 - L) L ls).1 (lnR R p s0 (40 - L) L ls).2) N) := by
      intro e
      subst e
      rw [wp_some, i3_sub]
      exact ⟨rfl, hC, fr, h47, hl, hE⟩
    refine wp_if (fun hx => fin (by omega)) (fun hx => wp_if (fun hx2 => fin (by omega)) (fun hx2 => ?_))
    rw [if_neg (show ¬ b2i true = 0 by decide)]
    refine wp_b _ (k_explore hC hs hl hE) (fun _ N hN => ?_)
    obtain ⟨hC1, fe, e4, hE1⟩ := hN
    have hW := ex_W hR hE1
    have frN : Fr cLn M0 N := fr.tr (fe.1.up (by decide))
    have h47N : ∀ j, j ≠ 2 → j ≠ 4 → j ≠ 5 → j ≠ 6 → j ≠ 7 → N.1 47 j = M0.1 47 j := fun j j2 j4 j5 j6 j7 => by rw [fe.2 j j4 j5 j6 j7]; exact h47 j j2 j4 j5 j6 j7
    have hlN : lnI R p L ls N := ⟨hl.1, by rw [fe.2 2 (by decide) (by decide) (by decide) (by decide)]; exact hl.2.1, fun i hi => by rw [fe.1.e1 (by decide)]; exact hl.2.2.1 i hi, fun s hs => by rw [fe.1.e1 (by decide)]; exact hl.2.2.2 s hs⟩
    have hkN : keO R p N := fun s hs => by rw [frN.e1 (by decide), frN.e1 (by decide)]; exact hk0 s hs
    rw [wp_v]
    obtain ⟨m, em⟩ : ∃ m, 40 - L = m + 1 := ⟨40 - L - 1, by omega⟩
    have e40 : 40 - (L + 1) = m := by omega
    -- what is LEARNED, or nothing
    have tail : wp (f_X3_learnFrom_93 (f_X3_learnFrom_11 n) (i3 s0) (i3 L0) (i3 i) (i3 (fnX R p L ls s0)) N) (fun r N => r = i3 (((lnR R p s0 (40 - L) L ls).1 : Int) - L0) ∧ CB R p t st N ∧ Fr cLn M0 N ∧ (∀ j, j ≠ 2 → j ≠ 4 → j ≠ 5 → j ≠ 6 → j ≠ 7 → N.1 47 j = M0.1 47 j) ∧ lnI R p (lnR R p s0 (40 - L) L ls).1 (lnR R p s0 (40 - L) L ls).2 N ∧ exI R p (rxX R p (lnR R p s0 (40 - L) L ls).1 (lnR R p s0 (40 - L) L ls).2) N) := by
      rw [em, lnR]
      rcases fn_x hR (p := p) (L := L) (s0 := s0) (ls := ls) with e | ⟨q, e, q1, q2, q3, q4⟩
      · rw [f_X3_learnFrom_93, e, if_pos (show i3 (-1) < 0 by decide), f_X3_learnFrom_103, if_pos rfl, if_pos (by omega)]
        rw [show i3 (i : Int) + 1 = i3 ((i + 1 : Nat) : Int) from i3_sn i]
        -- no more
        have stop : ∀ (n2 : Nat), 1 ≤ n2 → wp (f_X3_learnFrom_11 n2 (i3 s0) (i3 L0) 0 (i3 ((i + 1 : Nat) : Int)) N) (fun r N => r = i3 ((L : Int) - L0) ∧ CB R p t st N ∧ Fr cLn M0 N ∧ (∀ j, j ≠ 2 → j ≠ 4 → j ≠ 5 → j ≠ 6 → j ≠ 7 → N.1 47 j = M0.1 47 j) ∧ lnI R p L ls N ∧ exI R p (rxX R p L ls) N) := by
          intro n2 hn2
          obtain ⟨n3, rfl⟩ : ∃ n3, n2 = n3 + 1 := ⟨n2 - 1, by omega⟩
          have done : wp (some (i3 (L : Int) - i3 (L0 : Int), N)) (fun r N => r = i3 ((L : Int) - L0) ∧ CB R p t st N ∧ Fr cLn M0 N ∧ (∀ j, j ≠ 2 → j ≠ 4 → j ≠ 5 → j ≠ 6 → j ≠ 7 → N.1 47 j = M0.1 47 j) ∧ lnI R p L ls N ∧ exI R p (rxX R p L ls) N) := by
            rw [wp_some, i3_sub]
            exact ⟨rfl, hC1, frN, h47N, hlN, Or.inr ⟨s0, hs, e4, hE1⟩⟩
          rw [f_X3_learnFrom_11, hlN.2.1]
          refine wp_if (fun _ => done) (fun _ => wp_if (fun _ => done) (fun _ => ?_))
          rw [if_pos rfl]
          exact done
        exact stop n (by omega)
      · have hlt := st_lt q4
        obtain ⟨a, ea, -, h6⟩ := ke_a hR q1 q2
        rw [f_X3_learnFrom_93, e]
        simp (disch := omega) only [iL0, i3_lt]
        rw [if_neg (by omega), if_neg (by omega), f_X3_learnFrom_103, if_neg (show ¬ (1 : Int32) = 0 by decide), Int.toNat_natCast]
        rw [show i3 (i : Int) + 1 = i3 ((i + 1 : Nat) : Int) from i3_sn i]
        simp (disch := omega) only [ck_ok, i3_tn, Int.toNat_natCast]
        rw [wp_m, (hkN q hlt).2 q4, ea, i3_sn]
        have p47 : (sI N 49 q (i3 ((a + 1 : Nat) : Int))).1 47 2 = i3 L := by rw [rI_n (by decide)]; exact hlN.2.1
        rw [p47, ck_ok (by omega) (by omega) (by omega), wp_m, wp_m, wp_m, tn_n (by omega)]
        have r47 : (sI (sI N 49 q (i3 ((a + 1 : Nat) : Int))) 48 L (i3 q)).1 47 2 = i3 L := by rw [rI_n (by decide), p47]
        rw [r47, i3_sn]
        have fQ : Fr [47, 48, 49] N (sI (sI (sI (sI N 49 q (i3 ((a + 1 : Nat) : Int))) 48 L (i3 q)) 47 2 (i3 ((L + 1 : Nat) : Int))) 47 4 (-1)) := (((Fr.rf.i (by decide)).i (by decide)).i (by decide)).i (by decide)
        have s47 : ∀ j, j ≠ 2 → j ≠ 4 → (sI (sI (sI (sI N 49 q (i3 ((a + 1 : Nat) : Int))) 48 L (i3 q)) 47 2 (i3 ((L + 1 : Nat) : Int))) 47 4 (-1)).1 47 j = N.1 47 j := fun j j2 j4 => by rw [rI_e, up_n j4, rI_e, up_n j2, rI_n (by decide), rI_n (by decide)]
        have s472 : (sI (sI (sI (sI N 49 q (i3 ((a + 1 : Nat) : Int))) 48 L (i3 q)) 47 2 (i3 ((L + 1 : Nat) : Int))) 47 4 (-1)).1 47 2 = i3 ((L + 1 : Nat) : Int) := by rw [rI_e, up_n (by decide), rI_e, up_e]
        have s474 : (sI (sI (sI (sI N 49 q (i3 ((a + 1 : Nat) : Int))) 48 L (i3 q)) 47 2 (i3 ((L + 1 : Nat) : Int))) 47 4 (-1)).1 47 4 = i3 (-1) := by rw [rI_e, up_e]; rfl
        have s48 : (sI (sI (sI (sI N 49 q (i3 ((a + 1 : Nat) : Int))) 48 L (i3 q)) 47 2 (i3 ((L + 1 : Nat) : Int))) 47 4 (-1)).1 48 = upd (N.1 48) L (i3 q) := by rw [rI_n (by decide), rI_n (by decide), rI_e, rI_n (by decide)]
        have s49 : (sI (sI (sI (sI N 49 q (i3 ((a + 1 : Nat) : Int))) 48 L (i3 q)) 47 2 (i3 ((L + 1 : Nat) : Int))) 47 4 (-1)).1 49 = upd (N.1 49) q (i3 ((a + 1 : Nat) : Int)) := by rw [rI_n (by decide), rI_n (by decide), rI_n (by decide), rI_e]
        generalize sI (sI (sI (sI N 49 q (i3 ((a + 1 : Nat) : Int))) 48 L (i3 q)) 47 2 (i3 ((L + 1 : Nat) : Int))) 47 4 (-1) = N2 at fQ s47 s472 s474 s48 s49 ⊢
        have hl2 : lnI R p (L + 1) (lsU L ls q) N2 := by
          refine ⟨ln_up hl.1 (by omega) q1 q2 q3, s472, fun j hj => ?_, fun s hs => ?_⟩
          · rw [s48]
            by_cases hjL : j = L
            · rw [hjL, up_e, lsU_e]
            · rw [lsU_n hjL, up_n hjL]
              exact hlN.2.2.1 j (by omega)
          · rw [s49]
            by_cases hsq : s = q
            · subst hsq
              rw [up_e, if_pos (lnP_up.2 (Or.inr rfl)), ea]
              rfl
            · rw [up_n hsq, hlN.2.2.2 s hs]
              congr 1
              by_cases h : lnP L ls s
              · rw [if_pos h, if_pos (lnP_up.2 (Or.inl h))]
              · rw [if_neg h, if_neg (fun g => (lnP_up.1 g).elim h hsq)]
        have := ih (i + 1) (L + 1) (lsU L ls q) N2 (by omega) (by omega) (hC1.mv fQ (by decide)) (frN.tr (fQ.up (by decide))) (fun j j2 j4 j5 j6 j7 => by rw [s47 j j2 j4]; exact h47N j j2 j4 j5 j6 j7) hl2 (Or.inl s474)
        rw [e40] at this
        exact this
    unfold fnX at tail
    rcases hW with ⟨w1, w2⟩ | ⟨d, w1, w2, w3, w4, w5, w6, w7, w8, w9⟩
    · rw [w2]
      rw [w1] at tail
      have := k_l46 (d := 0) (s0 := s0) hR hkN hlN (by omega) (fun i hi => by omega) (fun i hi => by omega) (fun h => by omega) tail FU 0 0 (by omega) (by rw [FU_s]; omega) (by omega) rfl
      rw [if_pos rfl] at this
      exact this
    · rw [w4]
      rw [w3, Int.toNat_natCast] at tail
      have := k_l46 (d := d) (s0 := s0) hR hkN hlN w2 w9 (fun i hi => (w7 i hi).1) (fun _ => w8) tail FU d 0 (Nat.le_refl _) (by rw [FU_s]; omega) (by omega) rfl
      rw [if_neg (by omega)] at this
      exact this
theorem k_learn {R : tR} {p : Int} {t st s0 L : Nat} {ls : Nat → Nat} {M : gM} (hC : CB R p t st M) (hs : stP R s0) (hk : keO R p M) (hl : lnI R p L ls M) (hE : exI R p (rxX R p L ls) M) : wp (f_X3_learnFrom (i3 s0) M) (fun r N => r = i3 (((lnR R p s0 (40 - L) L ls).1 : Int) - L) ∧ CB R p t st N ∧ Fr cLn M N ∧ (∀ j, j ≠ 2 → j ≠ 4 → j ≠ 5 → j ≠ 6 → j ≠ 7 → N.1 47 j = M.1 47 j) ∧ lnI R p (lnR R p s0 (40 - L) L ls).1 (lnR R p s0 (40 - L) L ls).2 N ∧ exI R p (rxX R p (lnR R p s0 (40 - L) L ls).1 (lnR R p s0 (40 - L) L ls).2) N) := by
  rw [f_X3_learnFrom, hl.2.1, wp_v]
  exact k_l11 hs hk FU 0 L ls M (by rw [FU_s]; omega) (by omega) hC Fr.rf (fun j _ _ _ _ _ => rfl) hl hE
