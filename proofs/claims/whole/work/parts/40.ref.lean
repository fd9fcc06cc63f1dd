/-! ===== the reference: its text and what it lays ===== -/
/-- nothing but the cells of S and, of the object itself, the fields J have changed -/
def Fo (S J : List Nat) (M M' : gM) : Prop := (∀ k, k ≠ 0 → k ∉ S → M'.1 k = M.1 k ∧ M'.2.1 k = M.2.1 k) ∧ ∀ j, j ∉ J → M'.1 0 j = M.1 0 j
theorem Fo.rf {S J : List Nat} {M : gM} : Fo S J M M := ⟨fun _ _ _ => ⟨rfl, rfl⟩, fun _ _ => rfl⟩
theorem Fo.tr {S J : List Nat} {M M1 M2 : gM} (h : Fo S J M M1) (h2 : Fo S J M1 M2) : Fo S J M M2 := ⟨fun k hk hs => ⟨(h2.1 k hk hs).1.trans (h.1 k hk hs).1, (h2.1 k hk hs).2.trans (h.1 k hk hs).2⟩, fun j hj => (h2.2 j hj).trans (h.2 j hj)⟩
theorem Fo.up {S J T K : List Nat} {M M1 : gM} (h : Fo S J M M1) (hs : ∀ k ∈ S, k ∈ T) (hj : ∀ k ∈ J, k ∈ K) : Fo T K M M1 := ⟨fun k hk ht => h.1 k hk (fun e => ht (hs k e)), fun j hk => h.2 j (fun e => hk (hj j e))⟩
theorem Fo.i {S J : List Nat} {M M1 : gM} {k j : Nat} {x : Int32} (h : Fo S J M M1) (hk : k ∈ S) (h0 : k ≠ 0) : Fo S J M (sI M1 k j x) := by
  refine ⟨fun q hq hs => ?_, fun q hq => by rw [rI_n (Ne.symm h0), h.2 q hq]⟩
  have hn : q ≠ k := fun e => hs (e ▸ hk)
  exact ⟨by rw [rI_n hn, (h.1 q hq hs).1], (h.1 q hq hs).2⟩
theorem Fo.o {S J : List Nat} {M M1 : gM} {j : Nat} {x : Int32} (h : Fo S J M M1) (hj : j ∈ J) : Fo S J M (sI M1 0 j x) := by
  refine ⟨fun q hq hs => ⟨by rw [rI_n hq, (h.1 q hq hs).1], (h.1 q hq hs).2⟩, fun q hq => ?_⟩
  have hn : q ≠ j := fun e => hq (e ▸ hj)
  rw [rI_e, up_n hn, h.2 q hq]
theorem Fo.l {S J : List Nat} {M M1 : gM} {k j : Nat} {x : Int64} (h : Fo S J M M1) (hk : k ∈ S) : Fo S J M (sL M1 k j x) := by
  refine ⟨fun q hq hs => ?_, h.2⟩
  have hn : q ≠ k := fun e => hs (e ▸ hk)
  exact ⟨(h.1 q hq hs).1, by rw [rL_n hn, (h.1 q hq hs).2]⟩
theorem Fo.e1 {S J : List Nat} {M M1 : gM} (h : Fo S J M M1) {k : Nat} (h0 : k ≠ 0) (hk : k ∉ S) : M1.1 k = M.1 k := (h.1 k h0 hk).1
theorem Fo.e2 {S J : List Nat} {M M1 : gM} (h : Fo S J M M1) {k : Nat} (h0 : k ≠ 0) (hk : k ∉ S) : M1.2.1 k = M.2.1 k := (h.1 k h0 hk).2
theorem Fo.e0 {S J : List Nat} {M M1 : gM} (h : Fo S J M M1) {j : Nat} (hj : j ∉ J) : M1.1 0 j = M.1 0 j := h.2 j hj
/-- the words and literals of half h are the same -/
def Hf (h : Nat) (M N : gM) : Prop := ∀ k, 29 ≤ k → k ≤ 37 → k ≠ 31 → ∀ j, (k ≤ 30 → 500 * h ≤ j ∧ j < 500 * h + 500) → (32 ≤ k → 200 * h ≤ j ∧ j < 200 * h + 200) → N.1 k j = M.1 k j
theorem Hf.a {h : Nat} {M N : gM} (e : ∀ k, 29 ≤ k → k ≤ 37 → N.1 k = M.1 k) : Hf h M N := fun k h1 h2 _ j _ _ => by rw [e k h1 h2]
theorem Hf.tr {h : Nat} {M N P : gM} (e1 : Hf h M N) (e2 : Hf h N P) : Hf h M P := fun k h1 h2 h3 j h4 h5 => (e2 k h1 h2 h3 j h4 h5).trans (e1 k h1 h2 h3 j h4 h5)
def Cond2 (M : gM) (h : Nat) (c e : Int32) (φ : V6 Bool) : Prop := ∀ N : gM, Hf h M N → wp (f_X10_isHeld c e N) (fun r N' => r = φ (N.1 0 64) (N.1 0 65) (N.1 0 66) (N.1 0 67) (N.1 0 68) (N.1 0 69) ∧ Fo [46] [70] N N')
def Sum2 (M : gM) (h : Nat) (c e : Int32) (φ : V6 (Option Int32)) : Prop := ∀ N : gM, Hf h M N → wp (f_X10_sum c e N) (fun r N' => Fo [46] [70] N N' ∧ match φ (N.1 0 64) (N.1 0 65) (N.1 0 66) (N.1 0 67) (N.1 0 68) (N.1 0 69) with
  | none => N'.1 0 70 = 1
  | some v => N'.1 0 70 = 0 ∧ r = v)
def Law2 (M : gM) (h : Nat) (c e : Int32) (d φ : V6 (Option Int32)) : Prop := (c < 0 ∧ φ = d) ∨ (¬ c < 0 ∧ Sum2 M h c e φ)
def Act2 (M : gM) (h : Nat) (R : tR) : Prop := (M.1 11 h = 0 ∧ rNa R = 1 ∧ rPu R 0 = 0 ∧ rSt R 0 = 1 ∧ rCA R 0 = fun _ _ _ _ _ _ => true) ∨ (M.1 11 h = i3 (rNa R) ∧ ∀ a : Nat, a < rNa R → M.1 13 (6 * h + a) = i3 (rPu R a) ∧ M.1 14 (6 * h + a) = i3 (rSt R a) ∧ Cond2 M h (M.1 15 (6 * h + a)) (M.1 16 (6 * h + a)) (rCA R a))
def Rp2 (M : gM) (h : Nat) (R : tR) : Prop := (M.1 6 h = i3 (rLen R) ∧ M.1 7 h = i3 (rWid R) ∧ M.1 8 h = i3 (rFas R) ∧ M.1 17 h = i3 (rNg R) ∧ M.1 24 h = i3 (rNr R)) ∧ Act2 M h R ∧ (∀ k : Nat, k < rNg R → M.1 18 (8 * h + k) = i3 (rGu R k).1 ∧ M.1 19 (8 * h + k) = i3 (rGu R k).2.1 ∧ M.1 20 (8 * h + k) = i3 (rGu R k).2.2.1 ∧ M.1 21 (8 * h + k) = i3 (rGu R k).2.2.2 ∧ Cond2 M h (M.1 22 (8 * h + k)) (M.1 23 (8 * h + k)) (rCG R k)) ∧ (∀ r : Nat, r < rNr R → M.1 25 (12 * h + r) = i3 (rRa R r) ∧ Cond2 M h (M.1 26 (12 * h + r)) (M.1 27 (12 * h + r)) (rCR R r)) ∧ Law2 M h (M.1 9 (2 * h)) (M.1 10 (2 * h)) dSw (rSw R) ∧ Law2 M h (M.1 9 (2 * h + 1)) (M.1 10 (2 * h + 1)) dLe (rLe R)
theorem Cond2.mv {M M' : gM} {q : Nat} (e : Hf q M M') {c d : Int32} {φ : V6 Bool} (h : Cond2 M q c d φ) : Cond2 M' q c d φ := fun N hN => h N (e.tr hN)
theorem Law2.mv {M M' : gM} {q : Nat} (e : Hf q M M') {c d : Int32} {φ ψ : V6 (Option Int32)} (h : Law2 M q c d ψ φ) : Law2 M' q c d ψ φ := h.elim Or.inl (fun g => Or.inr ⟨g.1, fun N hN => g.2 N (e.tr hN)⟩)
theorem Rp2.mv {M M' : gM} {h : Nat} {R : tR} (H : Rp2 M h R) (e : ∀ k, 6 ≤ k → k ≤ 37 → M'.1 k = M.1 k) : Rp2 M' h R := by
  have e2 : Hf h M M' := Hf.a (fun k h1 h2 => e k (by omega) h2)
  unfold Rp2 Act2
  rw [e 6 (by omega) (by omega), e 7 (by omega) (by omega), e 8 (by omega) (by omega), e 9 (by omega) (by omega), e 10 (by omega) (by omega), e 11 (by omega) (by omega), e 13 (by omega) (by omega), e 14 (by omega) (by omega), e 15 (by omega) (by omega), e 16 (by omega) (by omega), e 17 (by omega) (by omega), e 18 (by omega) (by omega), e 19 (by omega) (by omega), e 20 (by omega) (by omega), e 21 (by omega) (by omega), e 22 (by omega) (by omega), e 23 (by omega) (by omega), e 24 (by omega) (by omega), e 25 (by omega) (by omega), e 26 (by omega) (by omega), e 27 (by omega) (by omega)]
  obtain ⟨h1, h2, h3, h4, h5, h6⟩ := H
  refine ⟨h1, h2.elim Or.inl (fun g => Or.inr ⟨g.1, fun a ha => ⟨(g.2 a ha).1, (g.2 a ha).2.1, (g.2 a ha).2.2.mv e2⟩⟩), fun k hk => ⟨(h3 k hk).1, (h3 k hk).2.1, (h3 k hk).2.2.1, (h3 k hk).2.2.2.1, (h3 k hk).2.2.2.2.mv e2⟩, fun r hr => ⟨(h4 r hr).1, (h4 r hr).2.mv e2⟩, h5.mv e2, h6.mv e2⟩
def B2 (R : tR) (p : Int) (h : Nat) (M : gM) : Prop := tOk R ∧ (1 ≤ p ∧ p ≤ 4) ∧ h < 2 ∧ M.1 0 13 = i3 h ∧ M.1 0 47 = i3 p ∧ Rp2 M h R
theorem B2.mv {R : tR} {p : Int} {h : Nat} {M M' : gM} {S J : List Nat} (H : B2 R p h M) (f : Fo S J M M') (hS : ∀ k ∈ S, 38 ≤ k) (hJ : 13 ∉ J ∧ 47 ∉ J) : B2 R p h M' := by
  obtain ⟨h1, h2, h3, h4, h5, h6⟩ := H
  exact ⟨h1, h2, h3, by rw [f.e0 hJ.1, h4], by rw [f.e0 hJ.2, h5], h6.mv (fun k hk1 hk2 => f.e1 (by omega) (fun hs => by have := hS k hs; omega))⟩
theorem d_ck {h : Nat} {β : Type} {o : Option β} (h2 : h < 2) : g_ck (i3 (h : Int)) 2 o = o := ck_ok (by omega) (by omega) (by omega)
theorem d_place {R : tR} {p : Int} {h : Nat} {M : gM} (H : B2 R p h M) {a l s : Int} (ha : -2147483648 ≤ a ∧ a < 2147483648) (hl : -2147483648 ≤ l ∧ l < 2147483648) (hs : -2147483648 ≤ s ∧ s < 2147483648) : f_X10_isPlace (i3 a) (i3 l) (i3 s) M = some (b_ (inR R a l s), M) := by
  obtain ⟨hR, hp, hh, h13, h47, ⟨g1, g2, g3, -⟩, -⟩ := H
  obtain ⟨⟨r1, r2, r3, r4, r5, r6⟩, -⟩ := hR
  rw [f_X10_isPlace]
  simp (disch := omega) only [h13, d_ck, tn_n, g1, g2, g3, i3_lit, i3_neg, i3_add, i3_sub, i3_mul, i3_lt, i3_le, i3_eq]
  by_cases hi : inR R a l s
  · have hi2 := hi
    obtain ⟨b1, b2, b3, b4, b5, b6⟩ := hi2
    rw [if_neg (by omega), if_neg (by omega), if_neg (by omega), if_neg (by omega), if_neg (by omega), if_neg (by omega), b_t hi]
  · rw [b_f hi]
    repeat' split
    all_goals first
      | rfl
      | exact absurd ⟨by omega, by omega, by omega, by omega, by omega, by omega⟩ hi
theorem d_at {s : Nat} (h : s < 2147483648) {M : gM} : f_X10_atOf (i3 s) M = some (i3 (gAt s), M) := by rw [f_X10_atOf, e_at h]
theorem d_le {s : Nat} (h : s < 2147483648) {M : gM} : f_X10_leanOf (i3 s) M = some (i3 (gLe s), M) := by rw [f_X10_leanOf, e_le h]
theorem d_sw {s : Nat} (h : s < 2147483648) {M : gM} : f_X10_swingOf (i3 s) M = some (i3 (gSw s), M) := by rw [f_X10_swingOf, e_sw h]
theorem d_state {R : tR} {p : Int} {h : Nat} {M : gM} (H : B2 R p h M) {z : Int} (hz : -2147483648 ≤ z ∧ z < 2147483648) : f_X10_isState (i3 z) M = some (b_ (stP R z), M) := by
  rw [f_X10_isState]
  simp (disch := omega) only [i3_lit, i3_neg, i3_add, i3_sub, i3_mul, i3_lt, i3_le, i3_eq]
  by_cases h1 : z < 0
  · rw [if_pos h1, b_f (fun h => by have := h.1; omega)]
  · rw [if_neg h1]
    by_cases h2 : 2079 ≤ z
    · rw [if_pos h2, b_f (fun h => by have := h.2.1; omega)]
    · rw [if_neg h2]
      obtain ⟨s, rfl⟩ : ∃ s : Nat, z = s := ⟨z.toNat, by omega⟩
      have g := gx s (by omega)
      rw [d_at (by omega), g_b_some, d_le (by omega), g_b_some, d_sw (by omega), g_b_some, d_place H (by omega) (by omega) (by omega), g_b_some]
      have e : stP R (s : Int) ↔ inR R (gAt s) (gLe s) (gSw s) := ⟨fun h => by have := h.2.2; rw [Int.toNat_natCast] at this; exact this, fun h => ⟨by omega, by omega, by rw [Int.toNat_natCast]; exact h⟩⟩
      rw [b_e e]
      by_cases hi : inR R (gAt s) (gLe s) (gSw s)
      · rw [b_t hi, if_pos rfl]
      · rw [b_f hi, if_neg (by decide)]
theorem d_over {R : tR} {p : Int} {h : Nat} {M : gM} (H : B2 R p h M) {s : Nat} (hs : s < 2079) : f_X10_isOver (i3 s) M = some (b_ (ovP R s), M) := by
  obtain ⟨hR, hp, hh, h13, h47, ⟨g1, -⟩, -⟩ := H
  obtain ⟨⟨r1, r2, -⟩, -⟩ := hR
  have g := gx s hs
  rw [f_X10_isOver, d_at (by omega), g_b_some]
  simp (disch := omega) only [h13, d_ck, tn_n, g1, i3_eq]
  by_cases h : ovP R s
  · rw [if_pos (show gAt s = rLen R from h), b_t h]
  · rw [if_neg (show ¬ gAt s = rLen R from h), b_f h]
theorem d_acts {R : tR} {p : Int} {h : Nat} {M : gM} (H : B2 R p h M) : f_X10_actsOf M = some (i3 (rNa R), M) := by
  obtain ⟨hR, hp, hh, h13, h47, -, g2, -⟩ := H
  have hna := hR.2.1
  rw [f_X10_actsOf]
  simp (disch := omega) only [h13, d_ck, tn_n]
  rcases g2 with ⟨g1, g2, -⟩ | ⟨g1, -⟩
  · rw [if_pos g1, g2]
    rfl
  · rw [g1, if_neg]
    rw [i3_lit]
    simp (disch := omega) only [i3_eq]
    omega
theorem d_push {R : tR} {p : Int} {h a : Nat} {M : gM} (H : B2 R p h M) (ha : a < rNa R) : f_X10_pushOf (i3 a) M = some (i3 (rPu R a), M) := by
  obtain ⟨hR, hp, hh, h13, h47, -, g2, -⟩ := H
  have hna := hR.2.1
  rw [f_X10_pushOf]
  have e1 : (6 * (h : Int) + a).toNat = 6 * h + a := by omega
  simp (disch := omega) only [h13, d_ck, tn_n, i3_lit, i3_neg, i3_add, i3_sub, i3_mul, ck_ok, i3_tn, e1, Int.toNat_natCast]
  rcases g2 with ⟨g1, g2, g3, -⟩ | ⟨g1, g2⟩
  · have : a = 0 := by omega
    subst this
    rw [if_pos (show M.1 11 h = i3 0 from g1), g3]
  · rw [g1, if_neg, (g2 a ha).1]
    simp (disch := omega) only [i3_eq]
    omega
/-- the variables as they stand -/
def Vr (M : gM) (s : Nat) (pu g p : Int) : Prop := M.1 0 64 = i3 (gAt s) ∧ M.1 0 65 = i3 (gLe s) ∧ M.1 0 66 = i3 (gSw s) ∧ M.1 0 67 = i3 pu ∧ M.1 0 68 = i3 g ∧ M.1 0 69 = i3 p
theorem Vr.mv {M M' : gM} {s : Nat} {pu g p : Int} {S J : List Nat} (h : Vr M s pu g p) (f : Fo S J M M') (hJ : ∀ j ∈ J, j < 64 ∨ 69 < j) : Vr M' s pu g p := by
  have hn : ∀ j, 64 ≤ j → j ≤ 69 → j ∉ J := fun j h1 h2 hj => by have := hJ j hj; omega
  unfold Vr
  rw [f.e0 (hn 64 (by omega) (by omega)), f.e0 (hn 65 (by omega) (by omega)), f.e0 (hn 66 (by omega) (by omega)), f.e0 (hn 67 (by omega) (by omega)), f.e0 (hn 68 (by omega) (by omega)), f.e0 (hn 69 (by omega) (by omega))]
  exact h
abbrev jVr : List Nat := [64, 65, 66, 67, 68, 69]
theorem d_look {R : tR} {p : Int} {h s : Nat} {M : gM} (H : B2 R p h M) (hs : s < 2079) {pu g : Int} : wp (f_X10_look (i3 s) (i3 pu) (i3 g) M) (fun _ N => Fo [] jVr M N ∧ Vr N s pu g p) := by
  have h47 := H.2.2.2.2.1
  rw [f_X10_look]
  simp (disch := omega) only [d_at, d_le, d_sw, wp_some, wp_m, wp_v, g_b_some]
  refine ⟨(((((Fo.rf.o (by decide)).o (by decide)).o (by decide)).o (by decide)).o (by decide)).o (by decide), ?_⟩
  unfold Vr
  simp only [rI_e, up_x]
  simp [h47]
theorem d_cond {M N : gM} {q : Nat} {c e : Int32} {φ : V6 Bool} (h : Cond2 M q c e φ) {S J : List Nat} (f : Fo S J M N) (hS : ∀ k ∈ S, 38 ≤ k) {s : Nat} {pu g p : Int} (ha : Vr N s pu g p) : wp (f_X10_isHeld c e N) (fun r N' => r = atS φ s pu g p ∧ Fo [46] [70] N N') := by
  obtain ⟨a0, a1, a2, a3, a4, a5⟩ := ha
  have := h N (Hf.a (fun k h1 h2 => f.e1 (by omega) (fun hk => by have := hS k hk; omega)))
  rw [a0, a1, a2, a3, a4, a5] at this
  exact this
abbrev jV : List Nat := [64, 65, 66, 67, 68, 69, 70]
theorem d_may {R : tR} {p : Int} {h s a : Nat} {M : gM} (H : B2 R p h M) (hs : s < 2079) (ha : a < rNa R) : wp (f_X10_mayDo (i3 s) (i3 a) M) (fun r N => r = b_ (caP R p s a) ∧ Fo [46] jV M N) := by
  obtain ⟨hR, hp, hh, h13, h47, -, g2, -⟩ := id H
  have hna := hR.2.1
  rw [f_X10_mayDo, d_over H hs, g_b_some]
  simp (disch := omega) only [b_if]
  refine wp_if (fun hx => ?_) (fun hx => ?_)
  · rw [wp_some]
    exact ⟨(b_f (ca_ov hx)).symm, Fo.rf⟩
  · simp (disch := omega) only [h13, d_ck, tn_n]
    rcases g2 with ⟨g1, g2, g3, g4, g5⟩ | ⟨g1, g2⟩
    · have : a = 0 := by omega
      subst this
      rw [if_pos g1, wp_some]
      exact ⟨(b_t ⟨ha, hx, by rw [g5]; rfl⟩).symm, Fo.rf⟩
    · rw [g1, if_neg (by rw [i3_lit, i3_eq (by omega) (by omega) (by omega) (by omega)]; omega), d_push H ha, g_b_some]
      refine wp_b _ (d_look (pu := rPu R a) (g := 0) H hs) (fun _ N hN => ?_)
      obtain ⟨f, hv⟩ := hN
      have e1 : (6 * (h : Int) + a).toNat = 6 * h + a := by omega
      rw [f.e0 (by decide), h13]
      simp (disch := omega) only [i3_lit, i3_neg, i3_add, i3_sub, i3_mul, ck_ok, i3_tn, e1]
      rw [f.e1 (by decide) (by decide), f.e1 (by decide) (by decide)]
      refine wp_b _ (d_cond (g2 a ha).2.2 f (by decide) hv) (fun r N2 hN => ?_)
      obtain ⟨rfl, f2⟩ := hN
      rw [wp_some]
      refine ⟨?_, (f.up (by decide) (by decide)).tr (f2.up (by decide) (by decide))⟩
      by_cases hc : atS (rCA R a) s (rPu R a) 0 p = true
      · rw [hc, b_t ⟨ha, hx, hc⟩]
      · rw [b_f (fun h => hc h.2.2)]
        exact Bool.eq_false_iff.2 hc
