/-! ===== what a text that was read means ===== -/
def cS (L : List Lw) : V6 Bool := fun a b c d e f => hoV (vr a b c d e f) true L
def lwS (d : V6 (Option Int32)) (X : Option (List Cw)) : V6 (Option Int32) := match X with
  | none => d
  | some Y => fun a b c d e f => suV (vr a b c d e f) Y
def seR (D : dT) : tR := (dSz D, (dNa D, dPu D, dSt D, fun a => cS (dCA D a)), (dNg D, dGu D, fun k => cS (dCG D k)), (dNr D, fun r => (dRa D r).toNat, fun r => cS (dCR D r)), lwS dSw (dLs D), lwS dLe (dLl D))
section
variable {M N : gM} {t h sz cc lc : Nat} {D : dT}
theorem CE.c1 {w v e : Int32} {L : List Lw} (H : CE M N t h sz cc lc w v e L) (ht : t = 3 ∨ t = 12) (hs : sz ≤ 800) : Cond1 M t w (cS L) := by
  rcases H with ⟨rfl, rfl, -⟩ | ⟨a, b, ⟨c, rfl, c2, c3⟩, -⟩
  · exact Cn1
  · exact Cd1 ht a c2 (by omega)
theorem CE.c2 {w v e : Int32} {L : List Lw} (H : CE M N t h sz cc lc w v e L) (hh : h < 2) (hc : cc ≤ 500) (hl : lc ≤ 200) : Cond2 N h v e (cS L) := by
  rcases H with ⟨rfl, -, rfl⟩ | ⟨a, b, -, c, rfl, rfl, c3, c4, c5⟩
  · exact Cn2
  · exact Cd2 hh a b (rQ_L (by omega) L _ _ c5) c3 (by omega)
theorem LE.c1 {w f e : Int32} {X : Option (List Cw)} {d : V6 (Option Int32)} (H : LE M N t h sz cc w f e X) (ht : t = 3 ∨ t = 12) (hs : sz ≤ 800) : Law1 M t w d (lwS d X) := by
  rcases H with ⟨rfl, rfl, -⟩ | ⟨Y, rfl, b, ⟨c, rfl, c2, c3⟩, -⟩
  · exact Or.inl ⟨rfl, rfl⟩
  · exact Or.inr ⟨by rw [show ((-1) : Int32) = i3 (-1) from rfl, ne_eq, i3_eq (by omega) (by omega) (by omega) (by omega)]; omega, Rn1 ht b c2 (by omega)⟩
theorem LE.c2 {w f e : Int32} {X : Option (List Cw)} {d : V6 (Option Int32)} (H : LE M N t h sz cc w f e X) (hh : h < 2) (hc : cc ≤ 500) : Law2 N h f e d (lwS d X) := by
  rcases H with ⟨rfl, -, rfl⟩ | ⟨Y, rfl, b, -, c, rfl, rfl, c3, c4, c5⟩
  · exact Or.inl ⟨by decide, rfl⟩
  · exact Or.inr ⟨by rw [iL0, i3_lt (by omega) (by omega) (by omega) (by omega)]; omega, Sm2 hh b c5 c3 (by omega)⟩
theorem Rp1_D (H : DC M N t h sz cc lc D) (hB : dB D) (ht : t = 3 ∨ t = 12) (hs : sz ≤ 800) : Rp1 M t (seR D) := by
  obtain ⟨⟨⟨a1, a2, a3⟩, -⟩, ⟨⟨b1, b2, b3⟩, -⟩, c, d, e, l1, l2⟩ := H
  refine ⟨⟨a1, a2, a3, b1, b2, b3⟩, fun a ha => ?_, fun k hk => ?_, fun r hr => ?_, l1.c1 ht hs, l2.c1 ht hs⟩
  · obtain ⟨-, q2, q3, q4⟩ := c a ha
    exact ⟨q2.1, q3.1, q4.c1 ht hs⟩
  · obtain ⟨q1, q2, q3, q4, q5⟩ := d k hk
    exact ⟨q1.1, q2.1, q3.1, q4.1, q5.c1 ht hs⟩
  · obtain ⟨q1, q2⟩ := e r hr
    have := hB.2.2.2 r hr
    refine ⟨?_, q2.c1 ht hs⟩
    rw [q1.1]
    show i3 (dRa D r) = i3 (((dRa D r).toNat : Nat) : Int)
    rw [Int.toNat_of_nonneg this.1]
theorem Rp2_D (H : DC M N t h sz cc lc D) (hB : dB D) (hh : h < 2) (hc : cc ≤ 500) (hl : lc ≤ 200) : Rp2 N h (seR D) := by
  obtain ⟨⟨-, a4, a5, a6⟩, ⟨-, ⟨b4, b5, b6⟩, -⟩, c, d, e, l1, l2⟩ := H
  refine ⟨⟨a4, a5, a6, b5, b6⟩, Or.inr ⟨b4, fun a ha => ?_⟩, fun k hk => ?_, fun r hr => ?_, l1.c2 hh hc, l2.c2 hh hc⟩
  · obtain ⟨-, q2, q3, q4⟩ := c a ha
    exact ⟨q2.2, q3.2, q4.c2 hh hc hl⟩
  · obtain ⟨q1, q2, q3, q4, q5⟩ := d k hk
    exact ⟨q1.2, q2.2, q3.2, q4.2, q5.c2 hh hc hl⟩
  · obtain ⟨q1, q2⟩ := e r hr
    have := hB.2.2.2 r hr
    refine ⟨?_, q2.c2 hh hc hl⟩
    rw [q1.2]
    show i3 (dRa D r) = i3 (((dRa D r).toNat : Nat) : Int)
    rw [Int.toNat_of_nonneg this.1]
def fiD (D : dT) : dT := if dNa D = 0 then aAc D 0 0 1 [] else D
theorem Rp2_F (H : DC M N t h sz cc lc D) (hB : dB D) (hh : h < 2) (hc : cc ≤ 500) (hl : lc ≤ 200) : Rp2 N h (seR (fiD D)) := by
  unfold fiD
  by_cases e0 : dNa D = 0
  · rw [if_pos e0]
    have h2 := Rp2_D H hB hh hc hl
    have b4 := H.2.1.2.1.1
    obtain ⟨q1, -, q3, q4, q5, q6⟩ := h2
    refine ⟨q1, Or.inl ⟨?_, ?_, ?_, ?_, ?_⟩, q3, q4, q5, q6⟩
    · rw [b4, e0]; rfl
    · show dNa D + 1 = 1; omega
    · show (if 0 = dNa D then (0 : Int) else dPu D 0) = 0; rw [if_pos e0.symm]
    · show (if 0 = dNa D then (1 : Int) else dSt D 0) = 1; rw [if_pos e0.symm]
    · show cS (if 0 = dNa D then [] else dCA D 0) = _; rw [if_pos e0.symm]; rfl
  · rw [if_neg e0]
    exact Rp2_D H hB hh hc hl
theorem dB_F (H : DC M N t h sz cc lc D) (hB : dB D) : dB (fiD D) ∧ tOk (seR (fiD D)) := by
  have hna := H.2.1.2.2.1
  have hng := H.2.1.2.2.2.1
  have hnr := H.2.1.2.2.2.2
  obtain ⟨x1, x2, x3, x4⟩ := hB
  unfold fiD
  by_cases e0 : dNa D = 0
  · rw [if_pos e0]
    have hB' : dB (aAc D 0 0 1 []) := by
      refine ⟨x1, fun a ha => ?_, x3, fun r hr => ?_⟩
      · have ha : a < dNa D + 1 := ha
        show -9 ≤ (if a = dNa D then (0 : Int) else dPu D a) ∧ (if a = dNa D then (0 : Int) else dPu D a) ≤ 9 ∧ -1 ≤ (if a = dNa D then (1 : Int) else dSt D a) ∧ (if a = dNa D then (1 : Int) else dSt D a) ≤ 1
        rw [if_pos (by omega), if_pos (by omega)]
        omega
      · have := x4 r hr
        omega
    refine ⟨hB', x1, ⟨?_, ?_, hng, hnr⟩, hB'.2.1, x3, fun r hr => ?_⟩
    · show 1 ≤ dNa D + 1; omega
    · show dNa D + 1 ≤ 6; omega
    · have := x4 r hr
      omega
  · rw [if_neg e0]
    refine ⟨⟨x1, x2, x3, x4⟩, x1, ⟨?_, hna, hng, hnr⟩, x2, x3, fun r hr => ?_⟩
    · show 1 ≤ dNa D; omega
    · have := x4 r hr
      show (dRa D r).toNat < dNa D
      omega
/-- behind the last TELL, the class -/
theorem c_fin (H : DC M N t h sz cc lc D) (hB : dB D) (ht : t = 3 ∨ t = 12) (hh : h < 2) (hs : sz ≤ 800) : ∃ M', f_X4_finish t M = some ((), M') ∧ Rp1 M' t (seR (fiD D)) ∧ PF1 t M M' ∧ M'.1 21 = M.1 21 := by
  have hF := (dB_F H hB).1
  have hna5 := H.2.1.1.1
  have hna6 := H.2.1.2.2.1
  rw [f_X4_finish, hna5]
  unfold fiD at hF ⊢
  by_cases e0 : dNa D = 0
  · rw [if_pos e0] at hF ⊢
    rw [if_pos (by rw [e0]; rfl), f_X4_addAct, hna5, iL6, if_neg (by rw [i3_le (by omega) (by omega) (by omega) (by omega)]; omega)]
    simp only [ck_ok (show (0 : Int) ≤ (dNa D : Int) by omega) (show (dNa D : Int) < (6 : Nat) by omega) (by decide), g_m, tn_n (show dNa D < 2147483648 by omega), rI_n (show t ≠ t + 3 by omega), rI_n (show t ≠ t + 4 by omega), rI_n (show t ≠ t + 5 by omega), rL_1, hna5, g_b_some, i3_s1]
    refine ⟨_, rfl, ?_, ?_, ?_⟩
    · have hM4 : ∀ k : Nat, k ≠ t + 3 → k ≠ t + 4 → k ≠ t + 5 → (sI (sI (sI (sL M (t + 2) (dNa D) 0) (t + 3) (dNa D) 0) (t + 4) (dNa D) 1) (t + 5) (dNa D) (-1)).1 k = M.1 k := fun k a b c => by rw [rI_n c, rI_n b, rI_n a]; rfl
      have hDC : DC (sI (sI (sI (sL M (t + 2) (dNa D) 0) (t + 3) (dNa D) 0) (t + 4) (dNa D) 1) (t + 5) (dNa D) (-1)) (sL (sI (sI (sI (sI N 13 (6 * h + dNa D) 0) 14 (6 * h + dNa D) 1) 15 (6 * h + dNa D) 0) 16 (6 * h + dNa D) 0) 12 (6 * h + dNa D) 0) t h sz cc lc D := by
        have nk : ∀ k, ¬ (13 ≤ k ∧ k ≤ 16) → (sL (sI (sI (sI (sI N 13 (6 * h + dNa D) 0) 14 (6 * h + dNa D) 1) 15 (6 * h + dNa D) 0) 16 (6 * h + dNa D) 0) 12 (6 * h + dNa D) 0).1 k = N.1 k := fun k hk => by rw [rL_1, rI_n (by omega), rI_n (by omega), rI_n (by omega), rI_n (by omega)]
        refine H.g ⟨fun k _ => by rw [hM4 (t + 1) (by omega) (by omega) (by omega)], fun k _ _ => by rw [nk 29 (by omega), nk 30 (by omega)]; exact ⟨rfl, rfl⟩, fun q q1 q2 k _ _ => by rw [nk q (by omega)]⟩ (Nat.le_refl _) (Nat.le_refl _) (Nat.le_refl _) (fun j _ => by rw [hM4 t (by omega) (by omega) (by omega)]) (fun k k1 k2 a ha => by omega) (fun a ha => by omega) (fun j _ => by rw [hM4 (t + 6) (by omega) (by omega) (by omega)]) (fun r _ => by rw [hM4 (t + 7) (by omega) (by omega) (by omega), hM4 (t + 8) (by omega) (by omega) (by omega)]; exact ⟨rfl, rfl⟩) (fun k hk => by rw [nk k (by omega)]) (fun k hk => by rw [nk k (by omega)]; exact ⟨rfl, rfl⟩) (fun a ha => by omega) (fun k k1 k2 a ha => by omega) (fun k k1 k2 a _ => by rw [nk k (by omega)]) (fun k k1 k2 a _ => by rw [nk k (by omega)])
      have hDC2 := hDC.aA ht (by omega) (nm := 0) (pu := 0) (st := 1) (L := []) (by show (sL M (t + 2) (dNa D) 0).2.1 (t + 2) (dNa D) = 0; rw [rL_e, uL_e]) (by rw [rL_e, uL_e]) (by rw [rI_n (by omega), rI_n (by omega), rI_e, up_e]; rfl) (by rw [rL_1, rI_n (by omega), rI_n (by omega), rI_n (by omega), rI_e, up_e]; rfl) (by rw [rI_n (by omega), rI_e, up_e]; rfl) (by rw [rL_1, rI_n (by omega), rI_n (by omega), rI_e, up_e]; rfl) (Or.inl ⟨rfl, by rw [rI_e, up_e], by rw [rL_1, rI_n (by omega), rI_e, up_e, rI_e, up_e]⟩)
      exact Rp1_D hDC2 hF ht hs
    · exact ((((PF1.rf.l (by omega)).w (by omega)).w (by omega)).w (by omega)).w (by omega)
    · rw [rI_n (by omega), rI_n (by omega), rI_n (by omega), rI_n (by omega)]; rfl
  · rw [if_neg e0]
    refine ⟨M, ?_, Rp1_D H hB ht hs, PF1.rf, rfl⟩
    rw [if_neg (by rw [iL0, i3_eq (by omega) (by omega) (by omega) (by omega)]; omega)]
theorem c_finT (ht : t = 3 ∨ t = 12) : ∃ M', f_X4_finish t M = some ((), M') ∧ PF1 t M M' ∧ M'.1 21 = M.1 21 := by
  rw [f_X4_finish]
  by_cases e : M.1 t 5 = 0
  · rw [if_pos e, f_X4_addAct, e, if_neg (by decide)]
    simp only [ck_z0, g_m, rI_n (show t ≠ t + 3 by omega), rI_n (show t ≠ t + 4 by omega), rI_n (show t ≠ t + 5 by omega), rL_1, e, g_b_some]
    exact ⟨_, rfl, ((((PF1.rf.l (by omega)).w (by omega)).w (by omega)).w (by omega)).w (by omega), by rw [rI_n (by omega), rI_n (by omega), rI_n (by omega), rI_n (by omega)]; rfl⟩
  · rw [if_neg e]
    exact ⟨M, rfl, PF1.rf, rfl⟩
/-- the half that is held stays as it was -/
theorem Rp2.mh {R : tR} (H : Rp2 M h R) (hR : tOk R) (e : ∀ k j, inH k h j → N.1 k j = M.1 k j) : Rp2 N h R := by
  have hf : Hf h M N := fun k k1 k2 k3 j j1 j2 => e k j (by
    unfold inH
    by_cases g : k ≤ 30
    · have := j1 g; omega
    · have := j2 (by omega); omega)
  obtain ⟨-, ⟨r1, r2, r3, r4⟩, -⟩ := hR
  obtain ⟨⟨a1, a2, a3, a4, a5⟩, b, c, d, l1, l2⟩ := H
  refine ⟨⟨by rw [e 6 h (by unfold inH; omega)]; exact a1, by rw [e 7 h (by unfold inH; omega)]; exact a2, by rw [e 8 h (by unfold inH; omega)]; exact a3, by rw [e 17 h (by unfold inH; omega)]; exact a4, by rw [e 24 h (by unfold inH; omega)]; exact a5⟩, ?_, fun k hk => ?_, fun r hr => ?_, ?_, ?_⟩
  · unfold Act2
    rw [e 11 h (by unfold inH; omega)]
    rcases b with b | ⟨b1, b2⟩
    · exact Or.inl b
    · refine Or.inr ⟨b1, fun a ha => ?_⟩
      rw [e 13 (6 * h + a) (by unfold inH; omega), e 14 (6 * h + a) (by unfold inH; omega), e 15 (6 * h + a) (by unfold inH; omega), e 16 (6 * h + a) (by unfold inH; omega)]
      obtain ⟨q1, q2, q3⟩ := b2 a ha
      exact ⟨q1, q2, q3.mv hf⟩
  · rw [e 18 (8 * h + k) (by unfold inH; omega), e 19 (8 * h + k) (by unfold inH; omega), e 20 (8 * h + k) (by unfold inH; omega), e 21 (8 * h + k) (by unfold inH; omega), e 22 (8 * h + k) (by unfold inH; omega), e 23 (8 * h + k) (by unfold inH; omega)]
    obtain ⟨q1, q2, q3, q4, q5⟩ := c k hk
    exact ⟨q1, q2, q3, q4, q5.mv hf⟩
  · rw [e 25 (12 * h + r) (by unfold inH; omega), e 26 (12 * h + r) (by unfold inH; omega), e 27 (12 * h + r) (by unfold inH; omega)]
    obtain ⟨q1, q2⟩ := d r hr
    exact ⟨q1, q2.mv hf⟩
  · rw [e 9 (2 * h) (by unfold inH; omega), e 10 (2 * h) (by unfold inH; omega)]
    exact l1.mv hf
  · rw [e 9 (2 * h + 1) (by unfold inH; omega), e 10 (2 * h + 1) (by unfold inH; omega)]
    exact l2.mv hf
end
