/-! ===== what both parsers have read of a text ===== -/
abbrev dT : Type := (Int × Int × Int) × (Nat × (Nat → Int64) × (Nat → Int) × (Nat → Int) × (Nat → List Lw)) × (Nat × (Nat → Int × Int × Int × Int) × (Nat → List Lw)) × (Nat × (Nat → Int) × (Nat → List Lw)) × Option (List Cw) × Option (List Cw)
abbrev dSz (D : dT) : Int × Int × Int := D.1
abbrev dNa (D : dT) : Nat := D.2.1.1
abbrev dNm (D : dT) : Nat → Int64 := D.2.1.2.1
abbrev dPu (D : dT) : Nat → Int := D.2.1.2.2.1
abbrev dSt (D : dT) : Nat → Int := D.2.1.2.2.2.1
abbrev dCA (D : dT) : Nat → List Lw := D.2.1.2.2.2.2
abbrev dNg (D : dT) : Nat := D.2.2.1.1
abbrev dGu (D : dT) : Nat → Int × Int × Int × Int := D.2.2.1.2.1
abbrev dCG (D : dT) : Nat → List Lw := D.2.2.1.2.2
abbrev dNr (D : dT) : Nat := D.2.2.2.1.1
abbrev dRa (D : dT) : Nat → Int := D.2.2.2.1.2.1
abbrev dCR (D : dT) : Nat → List Lw := D.2.2.2.1.2.2
abbrev dLs (D : dT) : Option (List Cw) := D.2.2.2.2.1
abbrev dLl (D : dT) : Option (List Cw) := D.2.2.2.2.2
/-- a COND on both sides -/
def CE (M N : gM) (t h sz cc lc : Nat) (w w2' e2 : Int32) (L : List Lw) : Prop := (L = [] ∧ w = -1 ∧ w2' = e2) ∨ ((∀ l ∈ L, okL l) ∧ (∃ l L', L = l :: L' ∧ l.1 = false) ∧ (∃ c : Nat, w = i3 (c : Int) ∧ SG (M.1 (t + 1)) c (L.flatMap lw ++ [i3 9]) ∧ c + (L.flatMap lw).length + 1 ≤ sz) ∧ ∃ c : Nat, w2' = i3 (c : Int) ∧ e2 = i3 ((c + L.length : Nat) : Int) ∧ 200 * h ≤ c ∧ c + L.length ≤ 200 * h + lc ∧ rQ N h (500 * h + cc) c 0 L)
def LE (M N : gM) (t h sz cc : Nat) (w f e : Int32) (X : Option (List Cw)) : Prop := (X = none ∧ w = -1 ∧ f = -1) ∨ ∃ Y, X = some Y ∧ dF 15 Y 0 1 ∧ (∃ c : Nat, w = i3 (c : Int) ∧ SG (M.1 (t + 1)) c (Y.map ec1 ++ [i3 9]) ∧ c + Y.length + 1 ≤ sz) ∧ ∃ c : Nat, f = i3 (c : Int) ∧ e = i3 ((c + Y.length : Nat) : Int) ∧ 500 * h ≤ c ∧ c + Y.length ≤ 500 * h + cc ∧ FV (N.1 29) (N.1 30) c Y
def DC (M N : gM) (t h sz cc lc : Nat) (D : dT) : Prop := ((M.1 t 0 = i3 (dSz D).1 ∧ M.1 t 1 = i3 (dSz D).2.1 ∧ M.1 t 2 = i3 (dSz D).2.2) ∧ N.1 6 h = i3 (dSz D).1 ∧ N.1 7 h = i3 (dSz D).2.1 ∧ N.1 8 h = i3 (dSz D).2.2) ∧ ((M.1 t 5 = i3 (dNa D : Int) ∧ M.1 t 6 = i3 (dNg D : Int) ∧ M.1 t 7 = i3 (dNr D : Int)) ∧ (N.1 11 h = i3 (dNa D : Int) ∧ N.1 17 h = i3 (dNg D : Int) ∧ N.1 24 h = i3 (dNr D : Int)) ∧ dNa D ≤ 6 ∧ dNg D ≤ 8 ∧ dNr D ≤ 12) ∧ (∀ a : Nat, a < dNa D → (M.2.1 (t + 2) a = dNm D a ∧ N.2.1 12 (6 * h + a) = dNm D a) ∧ (M.1 (t + 3) a = i3 (dPu D a) ∧ N.1 13 (6 * h + a) = i3 (dPu D a)) ∧ (M.1 (t + 4) a = i3 (dSt D a) ∧ N.1 14 (6 * h + a) = i3 (dSt D a)) ∧ CE M N t h sz cc lc (M.1 (t + 5) a) (N.1 15 (6 * h + a)) (N.1 16 (6 * h + a)) (dCA D a)) ∧ (∀ k : Nat, k < dNg D → (M.1 (t + 6) (5 * k) = i3 (dGu D k).1 ∧ N.1 18 (8 * h + k) = i3 (dGu D k).1) ∧ (M.1 (t + 6) (5 * k + 1) = i3 (dGu D k).2.1 ∧ N.1 19 (8 * h + k) = i3 (dGu D k).2.1) ∧ (M.1 (t + 6) (5 * k + 2) = i3 (dGu D k).2.2.1 ∧ N.1 20 (8 * h + k) = i3 (dGu D k).2.2.1) ∧ (M.1 (t + 6) (5 * k + 3) = i3 (dGu D k).2.2.2 ∧ N.1 21 (8 * h + k) = i3 (dGu D k).2.2.2) ∧ CE M N t h sz cc lc (M.1 (t + 6) (5 * k + 4)) (N.1 22 (8 * h + k)) (N.1 23 (8 * h + k)) (dCG D k)) ∧ (∀ r : Nat, r < dNr D → (M.1 (t + 8) r = i3 (dRa D r) ∧ N.1 25 (12 * h + r) = i3 (dRa D r)) ∧ CE M N t h sz cc lc (M.1 (t + 7) r) (N.1 26 (12 * h + r)) (N.1 27 (12 * h + r)) (dCR D r)) ∧ LE M N t h sz cc (M.1 t 3) (N.1 9 (2 * h)) (N.1 10 (2 * h)) (dLs D) ∧ LE M N t h sz cc (M.1 t 4) (N.1 9 (2 * h + 1)) (N.1 10 (2 * h + 1)) (dLl D)
/-- the bounds that a text without FAULTS keeps -/
def dB (D : dT) : Prop := (1 ≤ (dSz D).1 ∧ (dSz D).1 ≤ 8 ∧ 1 ≤ (dSz D).2.1 ∧ (dSz D).2.1 ≤ 10 ∧ 1 ≤ (dSz D).2.2 ∧ (dSz D).2.2 ≤ 5) ∧ (∀ a, a < dNa D → -9 ≤ dPu D a ∧ dPu D a ≤ 9 ∧ -1 ≤ dSt D a ∧ dSt D a ≤ 1) ∧ (∀ k, k < dNg D → 0 ≤ (dGu D k).1 ∧ (dGu D k).1 ≤ 8 ∧ 0 ≤ (dGu D k).2.1 ∧ (dGu D k).2.1 ≤ 8 ∧ -6 ≤ (dGu D k).2.2.1 ∧ (dGu D k).2.2.1 ≤ (dGu D k).2.2.2 ∧ (dGu D k).2.2.2 ≤ 6) ∧ (∀ r, r < dNr D → 0 ≤ dRa D r ∧ dRa D r < dNa D)
section
variable {M N M' N' : gM} {t h sz cc lc sz' cc' lc' : Nat} {D : dT}
/-- words and literals below the marks are the same -/
def WB (t h sz cc lc : Nat) (M N M' N' : gM) : Prop := (∀ k, k < sz → M'.1 (t + 1) k = M.1 (t + 1) k) ∧ (∀ k, 500 * h ≤ k → k < 500 * h + cc → N'.1 29 k = N.1 29 k ∧ N'.1 30 k = N.1 30 k) ∧ ∀ q, 32 ≤ q → q ≤ 37 → ∀ k, 200 * h ≤ k → k < 200 * h + lc → N'.1 q k = N.1 q k
theorem CE.mv {w v e : Int32} {L : List Lw} (H : CE M N t h sz cc lc w v e L) (g : WB t h sz cc lc M N M' N') (h1 : sz ≤ sz') (h2 : cc ≤ cc') (h3 : lc ≤ lc') : CE M' N' t h sz' cc' lc' w v e L := by
  rcases H with H | ⟨a, b, ⟨c, c1, c2, c3⟩, d, d1, d2, d3, d4, d5⟩
  · exact Or.inl H
  · refine Or.inr ⟨a, b, ⟨c, c1, SG_c _ _ (fun k k1 k2 => ?_) c2, by omega⟩, d, d1, d2, d3, by omega, ?_⟩
    · rw [List.length_append, List.length_singleton] at k2
      exact g.1 k (by omega)
    · exact rQ_m (by omega) (fun j j1 j2 => g.2.1 j j1 j2) L _ _ (fun q q1 q2 j j1 j2 => g.2.2 q q1 q2 j (by omega) (by omega)) d5
theorem LE.mv {w f e : Int32} {X : Option (List Cw)} (H : LE M N t h sz cc w f e X) (g : WB t h sz cc lc M N M' N') (h1 : sz ≤ sz') (h2 : cc ≤ cc') : LE M' N' t h sz' cc' w f e X := by
  rcases H with H | ⟨Y, a, b, ⟨c, c1, c2, c3⟩, d, d1, d2, d3, d4, d5⟩
  · exact Or.inl H
  · refine Or.inr ⟨Y, a, b, ⟨c, c1, SG_c _ _ (fun k k1 k2 => ?_) c2, by omega⟩, d, d1, d2, d3, by omega, ?_⟩
    · rw [List.length_append, List.length_singleton, List.length_map] at k2
      exact g.1 k (by omega)
    · exact FV_c _ _ (fun j j1 j2 => g.2.1 j (by omega) (by omega)) d5
/-- nothing of what was read has changed -/
theorem DC.g (H : DC M N t h sz cc lc D) (g : WB t h sz cc lc M N M' N') (h1 : sz ≤ sz') (h2 : cc ≤ cc') (h3 : lc ≤ lc')
    (f0 : ∀ j, j ≤ 7 → M'.1 t j = M.1 t j) (f1 : ∀ k, 3 ≤ k → k ≤ 5 → ∀ a, a < dNa D → M'.1 (t + k) a = M.1 (t + k) a) (f2 : ∀ a, a < dNa D → M'.2.1 (t + 2) a = M.2.1 (t + 2) a) (f3 : ∀ j, j < 5 * dNg D → M'.1 (t + 6) j = M.1 (t + 6) j) (f4 : ∀ r, r < dNr D → M'.1 (t + 7) r = M.1 (t + 7) r ∧ M'.1 (t + 8) r = M.1 (t + 8) r)
    (e0 : ∀ k, k = 6 ∨ k = 7 ∨ k = 8 ∨ k = 11 ∨ k = 17 ∨ k = 24 → N'.1 k h = N.1 k h) (e1 : ∀ k, k = 9 ∨ k = 10 → N'.1 k (2 * h) = N.1 k (2 * h) ∧ N'.1 k (2 * h + 1) = N.1 k (2 * h + 1)) (e2 : ∀ a, a < dNa D → N'.2.1 12 (6 * h + a) = N.2.1 12 (6 * h + a)) (e3 : ∀ k, 13 ≤ k → k ≤ 16 → ∀ a, a < dNa D → N'.1 k (6 * h + a) = N.1 k (6 * h + a)) (e4 : ∀ k, 18 ≤ k → k ≤ 23 → ∀ a, a < dNg D → N'.1 k (8 * h + a) = N.1 k (8 * h + a)) (e5 : ∀ k, 25 ≤ k → k ≤ 27 → ∀ a, a < dNr D → N'.1 k (12 * h + a) = N.1 k (12 * h + a)) : DC M' N' t h sz' cc' lc' D := by
  obtain ⟨⟨⟨a1, a2, a3⟩, a4, a5, a6⟩, ⟨⟨b1, b2, b3⟩, ⟨b4, b5, b6⟩, b7⟩, c, d, e, l1, l2⟩ := H
  refine ⟨⟨⟨by rw [f0 0 (by omega), a1], by rw [f0 1 (by omega), a2], by rw [f0 2 (by omega), a3]⟩, by rw [e0 6 (by omega), a4], by rw [e0 7 (by omega), a5], by rw [e0 8 (by omega), a6]⟩, ⟨⟨by rw [f0 5 (by omega), b1], by rw [f0 6 (by omega), b2], by rw [f0 7 (by omega), b3]⟩, ⟨by rw [e0 11 (by omega), b4], by rw [e0 17 (by omega), b5], by rw [e0 24 (by omega), b6]⟩, b7⟩, fun a ha => ?_, fun k hk => ?_, fun r hr => ?_, ?_, ?_⟩
  · obtain ⟨⟨q1, q2⟩, ⟨q3, q4⟩, ⟨q5, q6⟩, q7⟩ := c a ha
    rw [f2 a ha, e2 a ha, f1 3 (by omega) (by omega) a ha, f1 4 (by omega) (by omega) a ha, f1 5 (by omega) (by omega) a ha, e3 13 (by omega) (by omega) a ha, e3 14 (by omega) (by omega) a ha, e3 15 (by omega) (by omega) a ha, e3 16 (by omega) (by omega) a ha]
    exact ⟨⟨q1, q2⟩, ⟨q3, q4⟩, ⟨q5, q6⟩, q7.mv g h1 h2 h3⟩
  · obtain ⟨q1, q2, q3, q4, q5⟩ := d k hk
    rw [f3 (5 * k) (by omega), f3 (5 * k + 1) (by omega), f3 (5 * k + 2) (by omega), f3 (5 * k + 3) (by omega), f3 (5 * k + 4) (by omega), e4 18 (by omega) (by omega) k hk, e4 19 (by omega) (by omega) k hk, e4 20 (by omega) (by omega) k hk, e4 21 (by omega) (by omega) k hk, e4 22 (by omega) (by omega) k hk, e4 23 (by omega) (by omega) k hk]
    exact ⟨q1, q2, q3, q4, q5.mv g h1 h2 h3⟩
  · obtain ⟨q1, q2⟩ := e r hr
    rw [(f4 r hr).1, (f4 r hr).2, e5 25 (by omega) (by omega) r hr, e5 26 (by omega) (by omega) r hr, e5 27 (by omega) (by omega) r hr]
    exact ⟨q1, q2.mv g h1 h2 h3⟩
  · rw [f0 3 (by omega), (e1 9 (by omega)).1, (e1 10 (by omega)).1]
    exact l1.mv g h1 h2
  · rw [f0 4 (by omega), (e1 9 (by omega)).2, (e1 10 (by omega)).2]
    exact l2.mv g h1 h2
/-- as above, where whole cells are the same -/
theorem DC.c (H : DC M N t h sz cc lc D) (f1 : ∀ k, t ≤ k → k ≤ t + 8 → M'.1 k = M.1 k) (f2 : M'.2.1 (t + 2) = M.2.1 (t + 2)) (e1 : ∀ k, 6 ≤ k → k ≤ 37 → N'.1 k = N.1 k) (e2 : N'.2.1 12 = N.2.1 12) : DC M' N' t h sz cc lc D := H.g ⟨fun k _ => by rw [f1 (t + 1) (by omega) (by omega)], fun k _ _ => by rw [e1 29 (by omega) (by omega), e1 30 (by omega) (by omega)]; exact ⟨rfl, rfl⟩, fun q q1 q2 k _ _ => by rw [e1 q (by omega) (by omega)]⟩ (Nat.le_refl _) (Nat.le_refl _) (Nat.le_refl _) (fun j _ => by rw [f1 t (by omega) (by omega)]) (fun k k1 k2 a _ => by rw [f1 (t + k) (by omega) (by omega)]) (fun a _ => by rw [f2]) (fun j _ => by rw [f1 (t + 6) (by omega) (by omega)]) (fun r _ => by rw [f1 (t + 7) (by omega) (by omega), f1 (t + 8) (by omega) (by omega)]; exact ⟨rfl, rfl⟩) (fun k hk => by rw [e1 k (by omega) (by omega)]) (fun k hk => by rw [e1 k (by omega) (by omega)]; exact ⟨rfl, rfl⟩) (fun a _ => by rw [e2]) (fun k k1 k2 a _ => by rw [e1 k (by omega) (by omega)]) (fun k k1 k2 a _ => by rw [e1 k (by omega) (by omega)]) (fun k k1 k2 a _ => by rw [e1 k (by omega) (by omega)])
/-- behind a sum or a COND -/
theorem DC.x (H : DC M N t h sz cc lc D) (ht : t = 3 ∨ t = 12) (f : EF t sz M M') (g : EG h cc lc N N') (h1 : sz ≤ sz') (h2 : cc ≤ cc') (h3 : lc ≤ lc') : DC M' N' t h sz' cc' lc' D := by
  have hk : ∀ k, 2 ≤ k → k ≤ 8 → M'.1 (t + k) = M.1 (t + k) := fun k k1 k2 => f.1 (t + k) (by omega) (by omega) (by omega) (by omega)
  have hn : ∀ k, 6 ≤ k → k ≤ 27 → N'.1 k = N.1 k := fun k k1 k2 => g.1 k (by omega) (by omega) (by omega)
  exact H.g ⟨fun k hk => f.2.2.2.2 k hk, fun k k1 k2 => g.2.2.2.2.1 k (Or.inl k2), fun q q1 q2 k k1 k2 => g.2.2.2.2.2 q q1 q2 k (Or.inl k2)⟩ h1 h2 h3 (fun j hj => f.2.2.2.1 j (by omega)) (fun k k1 k2 a _ => by rw [hk k (by omega) (by omega)]) (fun a _ => by rw [f.2.1]) (fun j _ => by rw [hk 6 (by omega) (by omega)]) (fun r _ => by rw [hk 7 (by omega) (by omega), hk 8 (by omega) (by omega)]; exact ⟨rfl, rfl⟩) (fun k hk => by rw [hn k (by omega) (by omega)]) (fun k hk => by rw [hn k (by omega) (by omega)]; exact ⟨rfl, rfl⟩) (fun a _ => by rw [g.2.1]) (fun k k1 k2 a _ => by rw [hn k (by omega) (by omega)]) (fun k k1 k2 a _ => by rw [hn k (by omega) (by omega)]) (fun k k1 k2 a _ => by rw [hn k (by omega) (by omega)])
end
/-! what a whole reading may change -/
def inH (k h j : Nat) : Prop := ((k = 6 ∨ k = 7 ∨ k = 8 ∨ k = 11 ∨ k = 17 ∨ k = 24) ∧ j = h) ∨ ((k = 9 ∨ k = 10) ∧ (j = 2 * h ∨ j = 2 * h + 1)) ∨ ((13 ≤ k ∧ k ≤ 16) ∧ 6 * h ≤ j ∧ j < 6 * h + 6) ∨ ((18 ≤ k ∧ k ≤ 23) ∧ 8 * h ≤ j ∧ j < 8 * h + 8) ∨ ((25 ≤ k ∧ k ≤ 27) ∧ 12 * h ≤ j ∧ j < 12 * h + 12) ∨ ((k = 29 ∨ k = 30) ∧ 500 * h ≤ j ∧ j < 500 * h + 500) ∨ ((32 ≤ k ∧ k ≤ 37) ∧ 200 * h ≤ j ∧ j < 200 * h + 200)
def fR (j : Nat) : Prop := j = 8 ∨ j = 9 ∨ j = 10 ∨ j = 11 ∨ j = 12 ∨ j = 59 ∨ j = 60 ∨ j = 62 ∨ j = 63
def PF1 (t : Nat) (M M' : gM) : Prop := (∀ k, k ≠ 21 → k ≠ 22 → ¬ (t ≤ k ∧ k ≤ t + 8) → M'.1 k = M.1 k ∧ M'.2.1 k = M.2.1 k) ∧ M'.2.2 = M.2.2
def PF2 (h : Nat) (N N' : gM) : Prop := (∀ k, k ≠ 0 → ¬ (6 ≤ k ∧ k ≤ 37) → k ≠ 45 → N'.1 k = N.1 k ∧ N'.2.1 k = N.2.1 k) ∧ (∀ j, ¬ fR j → N'.1 0 j = N.1 0 j) ∧ ∀ k j, inH k (1 - h) j → N'.1 k j = N.1 k j
theorem PF1.rf {t : Nat} {M : gM} : PF1 t M M := ⟨fun _ _ _ _ => ⟨rfl, rfl⟩, rfl⟩
theorem PF2.rf {h : Nat} {M : gM} : PF2 h M M := ⟨fun _ _ _ _ => ⟨rfl, rfl⟩, fun _ _ => rfl, fun _ _ _ => rfl⟩
theorem PF1.tr {t : Nat} {M M1 M2 : gM} (a : PF1 t M M1) (b : PF1 t M1 M2) : PF1 t M M2 := ⟨fun k k1 k2 k3 => ⟨(b.1 k k1 k2 k3).1.trans (a.1 k k1 k2 k3).1, (b.1 k k1 k2 k3).2.trans (a.1 k k1 k2 k3).2⟩, b.2.trans a.2⟩
theorem PF2.tr {h : Nat} {M M1 M2 : gM} (a : PF2 h M M1) (b : PF2 h M1 M2) : PF2 h M M2 := ⟨fun k k1 k2 k3 => ⟨(b.1 k k1 k2 k3).1.trans (a.1 k k1 k2 k3).1, (b.1 k k1 k2 k3).2.trans (a.1 k k1 k2 k3).2⟩, fun j hj => (b.2.1 j hj).trans (a.2.1 j hj), fun k j hj => (b.2.2 k j hj).trans (a.2.2 k j hj)⟩
theorem EF.pf {t sz : Nat} {M M' : gM} (f : EF t sz M M') : PF1 t M M' := ⟨fun k k1 k2 k3 => ⟨f.1 k k1 k2 (by omega) (by omega), by rw [f.2.1]⟩, by rw [f.2.1]⟩
theorem EG.pf {h c l : Nat} {N N' : gM} (hh : h < 2) (g : EG h c l N N') : PF2 h N N' := by
  refine ⟨fun k k1 k2 k3 => ⟨g.1 k k1 (by omega) k3, by rw [g.2.1]⟩, fun j hj => g.2.2.1 j (by unfold fR at hj; omega), fun k j hj => ?_⟩
  unfold inH at hj
  by_cases a : k = 29 ∨ k = 30
  · have := g.2.2.2.2.1 j (by omega)
    rcases a with a | a <;> subst a
    · exact this.1
    · exact this.2
  · by_cases b : 32 ≤ k ∧ k ≤ 37
    · exact g.2.2.2.2.2 k b.1 b.2 j (by omega)
    · rw [g.1 k (by omega) (by omega) (by omega)]
theorem PF1.o {t : Nat} {M M' : gM} (a : PF1 t M M') {j : Nat} {x : Int32} : PF1 t M (sI M' 21 j x) := ⟨fun k k1 k2 k3 => ⟨by rw [rI_n k1]; exact (a.1 k k1 k2 k3).1, (a.1 k k1 k2 k3).2⟩, a.2⟩
theorem PF1.w {t : Nat} {M M' : gM} (a : PF1 t M M') {q j : Nat} {x : Int32} (hq : t ≤ q ∧ q ≤ t + 8) : PF1 t M (sI M' q j x) := ⟨fun k k1 k2 k3 => ⟨by rw [rI_n (by omega)]; exact (a.1 k k1 k2 k3).1, (a.1 k k1 k2 k3).2⟩, a.2⟩
theorem PF1.l {t : Nat} {M M' : gM} (a : PF1 t M M') {q j : Nat} {x : Int64} (hq : t ≤ q ∧ q ≤ t + 8) : PF1 t M (sL M' q j x) := ⟨fun k k1 k2 k3 => ⟨(a.1 k k1 k2 k3).1, by rw [rL_n (by omega)]; exact (a.1 k k1 k2 k3).2⟩, a.2⟩
theorem PF2.o {h : Nat} {N N' : gM} (a : PF2 h N N') {j : Nat} {x : Int32} (hj : fR j) : PF2 h N (sI N' 0 j x) := ⟨fun k k1 k2 k3 => ⟨by rw [rI_n k1]; exact (a.1 k k1 k2 k3).1, (a.1 k k1 k2 k3).2⟩, fun q hq => by rw [rI_e, up_n (show q ≠ j from fun e => hq (by rw [e]; exact hj))]; exact a.2.1 q hq, fun k q hq => by rw [rI_n (by unfold inH at hq; omega)]; exact a.2.2 k q hq⟩
theorem PF2.w {h : Nat} {N N' : gM} (a : PF2 h N N') {k j : Nat} {x : Int32} (hk : 6 ≤ k ∧ k ≤ 37) (hj : ¬ inH k (1 - h) j) : PF2 h N (sI N' k j x) := by
  refine ⟨fun q k1 k2 k3 => ⟨by rw [rI_n (by omega)]; exact (a.1 q k1 k2 k3).1, (a.1 q k1 k2 k3).2⟩, fun q hq => by rw [rI_n (by omega)]; exact a.2.1 q hq, fun q s hs => ?_⟩
  by_cases e : q = k
  · subst e
    rw [rI_e, up_n (show s ≠ j from fun e => hj (by rw [← e]; exact hs))]
    exact a.2.2 q s hs
  · rw [rI_n e]
    exact a.2.2 q s hs
theorem PF2.l {h : Nat} {N N' : gM} (a : PF2 h N N') {j : Nat} {x : Int64} : PF2 h N (sL N' 12 j x) := ⟨fun k k1 k2 k3 => ⟨(a.1 k k1 k2 k3).1, by rw [rL_n (by omega)]; exact (a.1 k k1 k2 k3).2⟩, a.2.1, a.2.2⟩
/-! FAULTS of meaning -/
def ntM (b : Bool) (f s : Nat) (q : Nat × Nat) : Nat × Nat := if b = true ∧ q.1 = 0 then (f, s) else q
def cM (q : Nat × Nat) (M : gM) : Prop := M.1 21 2 = i3 (q.1 : Int) ∧ (q.1 ≠ 0 → M.1 21 3 = i3 (q.2 : Int))
def rM (q : Nat × Nat) (N : gM) : Prop := N.1 0 11 = i3 (q.1 : Int) ∧ (q.1 ≠ 0 → N.1 0 12 = i3 (q.2 : Int))
theorem nt_2 {b b' : Bool} {f s : Nat} {q : Nat × Nat} (hf : f ≠ 0) : ntM b' f s (ntM b f s q) = ntM (b || b') f s q := by
  unfold ntM
  by_cases h : q.1 = 0
  · cases b <;> cases b' <;> simp [h, hf]
  · cases b <;> cases b' <;> simp [h]
section
variable {tb : Nat → Nat} {n t h i : Nat} {M N : gM} {q : Nat × Nat}
theorem CH.note (H : CH tb n t i M) (hm : cM q M) (hq : q.1 < 6) {f : Nat} : ∃ M', f_X1_note (i3 (f : Int)) M = some ((), M') ∧ cM (ntM true f (stT tb n i) q) M' ∧ (∀ k, k ≠ 21 → M'.1 k = M.1 k) ∧ M'.2 = M.2 ∧ ∀ j, j ≠ 2 → j ≠ 3 → M'.1 21 j = M.1 21 j := by
  obtain ⟨ht, hi, hC, h6, h4, h1⟩ := H
  have hi4 := hi.2.2.1
  obtain ⟨m1, m2⟩ := hm
  rw [f_X1_note, m1]
  by_cases e : q.1 = 0
  · refine ⟨sI (sI M 21 2 (i3 (f : Int))) 21 3 (i3 ((stT tb n i : Nat) : Int)), ?_, ?_, fun k hk => by rw [rI_n hk, rI_n hk], rfl, fun j a b => by rw [rI_e, up_n b, rI_e, up_n a]⟩
    · rw [e, if_pos (by rfl), g_m, rI_e, up_n (by decide), h4, iL401, if_neg (by rw [i3_le (by omega) (by omega) (by omega) (by omega)]; omega), ck_ok (by omega) (by omega) (by omega), g_m, tn_n (by omega), rI_n (by decide), (hC i (by omega) (by omega) hi.2.2.2).2.1]
    · unfold ntM
      rw [if_pos ⟨rfl, e⟩]
      exact ⟨by rw [rI_e, up_n (by decide), rI_e, up_e], fun _ => by rw [rI_e, up_e]⟩
  · refine ⟨M, ?_, ?_, fun _ _ => rfl, rfl, fun _ _ _ => rfl⟩
    · rw [if_neg (by rw [iL0, i3_eq (by omega) (by omega) (by omega) (by omega)]; omega)]
    · unfold ntM
      rw [if_neg (fun g => e g.2)]
      exact ⟨m1, m2⟩
theorem r_tells (hD : DT tb n 2001 N) (hi : IX tb n i) (hm : rM q N) (hq : q.1 < 6) {f : Nat} (hf : f < 6) (hp : q.1 ≠ 0 → q.2 < stT tb n i ∨ (q.2 = stT tb n i ∧ q.1 ≤ f)) : ∃ N', f_X10_tells (i3 (f : Int)) (i3 (i : Int)) N = some ((), N') ∧ rM (ntM true f (stT tb n i) q) N' ∧ (∀ k, k ≠ 0 → N'.1 k = N.1 k) ∧ N'.2 = N.2 ∧ ∀ j, j ≠ 11 → j ≠ 12 → N'.1 0 j = N.1 0 j := by
  have hi4 := hi.2.2.1
  have d2 := (hD i (by omega) (by omega) hi.2.2.2).2.1
  have hst := hi.r.2.1
  obtain ⟨m1, m2⟩ := hm
  rw [f_X10_tells, ck_ok (by omega) (by omega) (by omega), g_v, tn_n (by omega), d2, m1]
  by_cases e : q.1 = 0
  · refine ⟨sI (sI N 0 11 (i3 (f : Int))) 0 12 (i3 ((stT tb n i : Nat) : Int)), ?_, ?_, fun k hk => by rw [rI_n hk, rI_n hk], rfl, fun j a b => by rw [rI_e, up_n b, rI_e, up_n a]⟩
    · rw [e, if_pos (by rfl), g_m, g_m]
    · unfold ntM
      rw [if_pos ⟨rfl, e⟩]
      exact ⟨by rw [rI_e, up_n (by decide), rI_e, up_e], fun _ => by rw [rI_e, up_e]⟩
  · refine ⟨N, ?_, ?_, fun _ _ => rfl, rfl, fun _ _ _ => rfl⟩
    · rw [if_neg (by rw [iL0, i3_eq (by omega) (by omega) (by omega) (by omega)]; omega), m2 e]
      rcases hp e with g | ⟨g1, g2⟩
      · rw [if_pos (by rw [i3_lt (by omega) (by omega) (by omega) (by omega)]; omega)]
      · rw [g1, if_neg (by rw [i3_lt (by omega) (by omega) (by omega) (by omega)]; omega), if_pos rfl, if_neg (by rw [i3_lt (by omega) (by omega) (by omega) (by omega)]; omega)]
    · unfold ntM
      rw [if_neg (fun g => e g.2)]
      exact ⟨m1, m2⟩
end
