/-! ===== BLIND: rows of ACTS under whatever gusts come ===== -/
/-- all that may be (and is not OVER) can do an ACT, and none falls -/
def goB (R : tR) (p : Int) (Y : Nat → Prop) (a : Nat) : Prop := ∀ s, Y s → caP R p s a ∧ ∀ g : Int, loR R p s ≤ g → g ≤ hiR R p s → 0 ≤ nxR R p s a g
def nxB (R : tR) (p : Int) (Y : Nat → Prop) (a : Nat) (q : Nat) : Prop := ¬ ovP R q ∧ ∃ (s : Nat) (g : Int), Y s ∧ loR R p s ≤ g ∧ g ≤ hiR R p s ∧ nxR R p s a g = (q : Int)
/-- the row of ACTS that a number spells -/
def blN (R : tR) (p : Int) : Nat → (Nat → Prop) → Nat → Prop
  | 0, _, _ => True
  | n + 1, Y, r => goB R p Y (r / rNa R ^ n % rNa R) ∧ blN R p n (nxB R p Y (r / rNa R ^ n % rNa R)) r
theorem cN_add {A : Nat → Prop} {q : Nat} (hq : ¬ A q) : ∀ n : Nat, q < n → cN (fun s => A s ∨ s = q) n = cN A n + 1 := by
  have e : ∀ n : Nat, n ≤ q → cN (fun s => A s ∨ s = q) n = cN A n := fun n hn => cN_c (fun s hs => ⟨fun h => h.elim id (fun h => by omega), Or.inl⟩)
  intro n
  induction n with
  | zero => intro h; omega
  | succ n ih =>
    intro h
    by_cases hqn : q = n
    · subst hqn
      rw [cN_t (Or.inr rfl), cN_f hq, e q (Nat.le_refl _)]
    · by_cases hA : A n
      · rw [cN_t (Or.inl hA), cN_t hA, ih (by omega)]
      · rw [cN_f (fun h => h.elim hA (fun h => hqn h.symm)), cN_f hA, ih (by omega)]
theorem cN_all (n : Nat) : cN (fun _ => True) n = n := by
  induction n with
  | zero => rfl
  | succ n ih => rw [cN_t trivial, ih]
theorem cN_room {A : Nat → Prop} {q n : Nat} (hq : ¬ A q) (h : q < n) : cN A n < n := by
  have := cN_lt (P := A) (Q := fun _ => True) trivial hq n h (fun _ _ _ => trivial)
  rw [cN_all] at this
  exact this
theorem cN_none {A : Nat → Prop} (n : Nat) (h : ∀ s : Nat, s < n → ¬ A s) : cN A n = 0 := by
  induction n with
  | zero => rfl
  | succ n ih => rw [cN_f (h n (by omega)), ih (fun s hs => h s (by omega))]
/-! the class -/
def agI (mt lv : Nat) (A : Nat → Prop) (N : gM) : Prop := N.1 57 12 = i3 mt ∧ N.1 64 (lv + 1) = i3 (cN A 2079 : Nat) ∧ (∀ q : Nat, q < 2079 → (N.1 65 q = i3 mt ↔ A q)) ∧ (∀ q : Nat, q < 2079 → ∃ v : Nat, v ≤ mt ∧ N.1 65 q = i3 v) ∧ (∀ i : Nat, i < cN A 2079 → ∃ q : Nat, q < 2079 ∧ N.1 63 ((lv + 1) * 2079 + i) = i3 q ∧ A q) ∧ ∀ q : Nat, q < 2079 → A q → ∃ i, i < cN A 2079 ∧ N.1 63 ((lv + 1) * 2079 + i) = i3 q
abbrev cBl : List Nat := cBt ++ [57, 63, 64, 65]
def agF (lv : Nat) (M N : gM) : Prop := Fr cBl M N ∧ (∀ j, j ≠ 12 → N.1 57 j = M.1 57 j) ∧ (∀ i : Nat, i < (lv + 1) * 2079 → N.1 63 i = M.1 63 i) ∧ ∀ j : Nat, j ≤ lv → N.1 64 j = M.1 64 j
theorem agF.rf {lv : Nat} {M : gM} : agF lv M M := ⟨Fr.rf, fun _ _ => rfl, fun _ _ => rfl, fun _ _ => rfl⟩
theorem agF.tr {lv : Nat} {M N L : gM} (h : agF lv M N) (g : agF lv N L) : agF lv M L := ⟨h.1.tr g.1, fun j hj => (g.2.1 j hj).trans (h.2.1 j hj), fun i hi => (g.2.2.1 i hi).trans (h.2.2.1 i hi), fun j hj => (g.2.2.2 j hj).trans (h.2.2.2 j hj)⟩
theorem agF.c {lv : Nat} {M N : gM} (h : Fr cBt M N) : agF lv M N := ⟨h.up (by decide), fun j _ => by rw [h.e1 (by decide)], fun i _ => by rw [h.e1 (by decide)], fun j _ => by rw [h.e1 (by decide)]⟩
theorem agI.c {mt lv : Nat} {A : Nat → Prop} {N N2 : gM} (h : agI mt lv A N) (f : Fr cBt N N2) : agI mt lv A N2 := by
  unfold agI
  rw [f.e1 (by decide), f.e1 (by decide), f.e1 (by decide), f.e1 (by decide)]
  exact h
theorem agI.q {mt lv : Nat} {A B : Nat → Prop} {N : gM} (h : agI mt lv A N) (e : ∀ q : Nat, q < 2079 → (A q ↔ B q)) : agI mt lv B N := by
  obtain ⟨h1, h2, h3, h4, h5, h6⟩ := h
  have ec : cN A 2079 = cN B 2079 := cN_c e
  rw [ec] at h2 h5 h6
  exact ⟨h1, h2, fun q hq => (h3 q hq).trans (e q hq), h4, fun i hi => by
    obtain ⟨q, g1, g2, g3⟩ := h5 i hi
    exact ⟨q, g1, g2, (e q g1).1 g3⟩, fun q hq hb => h6 q hq ((e q hq).2 hb)⟩
theorem k_ag71 {R : tR} {p : Int} {t st mt lv a s i : Nat} {A : Nat → Prop} {M0 : gM} {k21 : Int32 → Int32 → Int32 → gM → Option (Bool × gM)} {Q : Bool → gM → Prop} (hs : s < 2079) (ha : a < rNa R) (hlv : lv < 4) (hmt : mt < 2000000000)
    (hno : ∀ N, CB R p t st N → agF lv M0 N → (∃ B, agI mt lv B N) → (∃ g : Int, loR R p s ≤ g ∧ g ≤ hiR R p s ∧ ¬ 0 ≤ nxR R p s a g) → Q false N)
    (hk : ∀ N, CB R p t st N → agF lv M0 N → (∀ g : Int, loR R p s ≤ g → g ≤ hiR R p s → 0 ≤ nxR R p s a g) → agI mt lv (fun q => A q ∨ ¬ ovP R q ∧ ∃ g : Int, loR R p s ≤ g ∧ g ≤ hiR R p s ∧ nxR R p s a g = (q : Int)) N → wp (k21 (i3 lv) (i3 a) (i3 ((i + 1 : Nat) : Int)) N) Q) : ∀ (n : Nat) (g : Int) (M : gM), CB R p t st M → agF lv M0 M → loR R p s ≤ g → g ≤ hiR R p s + 1 → hiR R p s + 1 - g < n → (∀ x : Int, loR R p s ≤ x → x < g → 0 ≤ nxR R p s a x) → agI mt lv (fun q => A q ∨ ¬ ovP R q ∧ ∃ x : Int, loR R p s ≤ x ∧ x < g ∧ nxR R p s a x = (q : Int)) M →
    wp (f_X6_allGoOn_71 k21 n (i3 lv) (i3 a) (i3 i) (i3 s) (i3 g) M) Q := by
  intro n
  induction n with
  | zero => intro g M _ _ _ h1 h2; omega
  | succ n ih =>
    intro g M hC fr hg1 hg2 hn hok hI
    have hR := hC.1.1
    have hlh := lh_r (p := p) (s := s) hR
    rw [f_X6_allGoOn_71]
    refine wp_b _ (c_great hs hC) (fun r N hN => ?_)
    obtain ⟨rfl, hC1, f1⟩ := hN
    have fr1 := fr.tr (agF.c f1)
    have hI1 := hI.c f1
    rw [show i3 (i : Int) + 1 = i3 ((i + 1 : Nat) : Int) from i3_sn i]
    simp (disch := omega) only [i3_lt]
    refine wp_if (fun hx => ?_) (fun hx => ?_)
    · refine hk N hC1 fr1 (fun x h1 h2 => hok x h1 (by omega)) (hI1.q (fun q hq => ⟨fun h => h.elim Or.inl (fun ⟨h1, x, h2, h3, h4⟩ => Or.inr ⟨h1, x, h2, by omega, h4⟩), fun h => h.elim Or.inl (fun ⟨h1, x, h2, h3, h4⟩ => Or.inr ⟨h1, x, h2, by omega, h4⟩)⟩))
    · refine wp_b _ (c_after hs ha (by omega) hC1) (fun r N2 hN => ?_)
      obtain ⟨rfl, hC2, f2⟩ := hN
      have fr2 := fr1.tr (agF.c f2)
      have hI2 := hI1.c f2
      rcases nx_q hR p s a g with hq | ⟨q, hq, hq2, hq3⟩
      · rw [hq, if_neg (show ¬ (0 : Int32) ≤ i3 (-2) by decide), wp_some]
        exact hno N2 hC2 fr2 ⟨_, hI2⟩ ⟨g, hg1, by omega, by omega⟩
      · rw [hq]
        have e0 : ((0 : Int32) ≤ i3 (q : Int)) := by
          rw [iL0, i3_le (by omega) (by omega) (by omega) (by omega)]
          omega
        rw [if_pos e0]
        obtain ⟨j1, j2, j3, j4, j5, j6⟩ := id hI2
        have el : (lv : Int) + 1 = ((lv + 1 : Nat) : Int) := by omega
        have hcl := cN_le (P := fun q => A q ∨ ¬ ovP R q ∧ ∃ x : Int, loR R p s ≤ x ∧ x < g ∧ nxR R p s a x = (q : Int)) 2079
        have e1 : (((lv + 1 : Nat) : Int)).toNat = lv + 1 := by omega
        rw [show i3 (lv : Int) + 1 = i3 ((lv + 1 : Nat) : Int) from i3_sn lv, show i3 g + 1 = i3 (g + 1) from i3_add g 1]
        simp (disch := omega) only [ck_ok, i3_tn, Int.toNat_natCast]
        rw [wp_v, j2, k_or hC2, k_over hC2 hq2, g_b_some, b_if]
        -- what was met before, or is OVER
        have skip : (ovP R q ∨ (A q ∨ ¬ ovP R q ∧ ∃ x : Int, loR R p s ≤ x ∧ x < g ∧ nxR R p s a x = (q : Int))) → wp (f_X6_allGoOn_71 k21 n (i3 lv) (i3 a) (i3 i) (i3 s) (i3 (g + 1)) N2) Q := by
          intro hold
          refine ih (g + 1) N2 hC2 fr2 (by omega) (by omega) (by omega) (fun x h1 h2 => ?_) (hI2.q (fun u hu => ⟨fun h => h.elim Or.inl (fun ⟨h1, x, h2, h3, h4⟩ => Or.inr ⟨h1, x, h2, by omega, h4⟩), fun h => ?_⟩))
          · by_cases hxg : x = g
            · subst hxg; omega
            · exact hok x h1 (by omega)
          · rcases h with h | ⟨h1, x, h2, h3, h4⟩
            · exact Or.inl h
            · by_cases hxg : x = g
              · subst hxg
                have : u = q := by omega
                subst this
                exact hold.elim (fun h => absurd h h1) id
              · exact Or.inr ⟨h1, x, h2, by omega, h4⟩
        refine wp_if (fun ho => ?_) (fun ho => ?_)
        · exact skip (Or.inl ho)
        · rw [j1]
          by_cases hA : A q ∨ ¬ ovP R q ∧ ∃ x : Int, loR R p s ≤ x ∧ x < g ∧ nxR R p s a x = (q : Int)
          · rw [if_pos ((j3 q hq2).2 hA)]
            exact skip (Or.inr hA)
          · have hroom := cN_room (A := fun q => A q ∨ ¬ ovP R q ∧ ∃ x : Int, loR R p s ≤ x ∧ x < g ∧ nxR R p s a x = (q : Int)) hA hq2
            rw [if_neg (fun h => hA ((j3 q hq2).1 h))]
            generalize hcn : cN (fun q => A q ∨ ¬ ovP R q ∧ ∃ x : Int, loR R p s ≤ x ∧ x < g ∧ nxR R p s a x = (q : Int)) 2079 = c at j2 j5 j6 hcl hroom
            have e2 : ((lv + 1 : Nat) : Int) * 2079 + (c : Int) = (((lv + 1) * 2079 + c : Nat) : Int) := by omega
            simp (disch := omega) only [iL2079, i3_le, iL1, i3_mul, i3_add]
            rw [if_neg (by omega), wp_m]
            simp (disch := omega) only [ck_ok, i3_tn, Int.toNat_natCast, e2, wp_m]
            have hB : ∀ u : Nat, (A u ∨ ¬ ovP R u ∧ ∃ x : Int, loR R p s ≤ x ∧ x < g + 1 ∧ nxR R p s a x = (u : Int)) ↔ ((A u ∨ ¬ ovP R u ∧ ∃ x : Int, loR R p s ≤ x ∧ x < g ∧ nxR R p s a x = (u : Int)) ∨ u = q) := by
              intro u
              constructor
              · rintro (h | ⟨h1, x, h2, h3, h4⟩)
                · exact Or.inl (Or.inl h)
                · by_cases hxg : x = g
                  · subst hxg
                    exact Or.inr (by omega)
                  · exact Or.inl (Or.inr ⟨h1, x, h2, by omega, h4⟩)
              · rintro ((h | ⟨h1, x, h2, h3, h4⟩) | h)
                · exact Or.inl h
                · exact Or.inr ⟨h1, x, h2, by omega, h4⟩
                · subst h
                  exact Or.inr ⟨ho, g, hg1, by omega, hq⟩
            have q57 : (sI (sI (sI N2 65 q (i3 mt)) 63 ((lv + 1) * 2079 + c) (i3 q)) 64 (lv + 1) (i3 ((c : Int) + 1))).1 57 = N2.1 57 := by rw [rI_n (by decide), rI_n (by decide), rI_n (by decide)]
            have q65 : (sI (sI (sI N2 65 q (i3 mt)) 63 ((lv + 1) * 2079 + c) (i3 q)) 64 (lv + 1) (i3 ((c : Int) + 1))).1 65 = upd (N2.1 65) q (i3 mt) := by rw [rI_n (by decide), rI_n (by decide), rI_e]
            have q63 : (sI (sI (sI N2 65 q (i3 mt)) 63 ((lv + 1) * 2079 + c) (i3 q)) 64 (lv + 1) (i3 ((c : Int) + 1))).1 63 = upd (N2.1 63) ((lv + 1) * 2079 + c) (i3 q) := by rw [rI_n (by decide), rI_e, rI_n (by decide)]
            have q64 : (sI (sI (sI N2 65 q (i3 mt)) 63 ((lv + 1) * 2079 + c) (i3 q)) 64 (lv + 1) (i3 ((c : Int) + 1))).1 64 = upd (N2.1 64) (lv + 1) (i3 ((c : Int) + 1)) := by rw [rI_e, rI_n (by decide), rI_n (by decide)]
            have fQ : Fr [63, 64, 65] N2 (sI (sI (sI N2 65 q (i3 mt)) 63 ((lv + 1) * 2079 + c) (i3 q)) 64 (lv + 1) (i3 ((c : Int) + 1))) := ((Fr.rf.i (by decide)).i (by decide)).i (by decide)
            generalize sI (sI (sI N2 65 q (i3 mt)) 63 ((lv + 1) * 2079 + c) (i3 q)) 64 (lv + 1) (i3 ((c : Int) + 1)) = N3 at q57 q63 q64 q65 fQ ⊢
            have ecn : cN (fun u => A u ∨ ¬ ovP R u ∧ ∃ x : Int, loR R p s ≤ x ∧ x < g + 1 ∧ nxR R p s a x = (u : Int)) 2079 = c + 1 := by
              rw [cN_c (fun u _ => hB u), cN_add (A := fun q => A q ∨ ¬ ovP R q ∧ ∃ x : Int, loR R p s ≤ x ∧ x < g ∧ nxR R p s a x = (q : Int)) hA 2079 hq2, hcn]
            refine ih (g + 1) N3 (hC2.mv fQ (by decide)) (fr2.tr ⟨fQ.up (by decide), fun j _ => by rw [q57], fun j hj => by rw [q63, up_n (by omega)], fun j hj => by rw [q64, up_n (by omega)]⟩) (by omega) (by omega) (by omega) (fun x h1 h2 => ?_) ⟨by rw [q57, j1], by rw [q64, up_e, ecn]; rfl, fun u hu => ?_, fun u hu => ?_, fun j hj => ?_, fun u hu hb => ?_⟩
            · by_cases hxg : x = g
              · subst hxg; omega
              · exact hok x h1 (by omega)
            · rw [q65]
              by_cases huq : u = q
              · subst huq
                rw [up_e]
                exact ⟨fun _ => (hB u).2 (Or.inr rfl), fun _ => rfl⟩
              · rw [up_n huq]
                exact (j3 u hu).trans ⟨fun h => (hB u).2 (Or.inl h), fun h => ((hB u).1 h).resolve_right huq⟩
            · rw [q65]
              by_cases huq : u = q
              · subst huq
                exact ⟨mt, Nat.le_refl _, up_e⟩
              · rw [up_n huq]
                exact j4 u hu
            · rw [ecn] at hj
              rw [q63]
              by_cases hjc : j = c
              · subst hjc
                exact ⟨q, hq2, up_e, (hB q).2 (Or.inr rfl)⟩
              · obtain ⟨u, v1, v2, v3⟩ := j5 j (by omega)
                exact ⟨u, v1, by rw [up_n (by omega), v2], (hB u).2 (Or.inl v3)⟩
            · rw [ecn, q63]
              rcases (hB u).1 hb with h | h
              · obtain ⟨j, v1, v2⟩ := j6 u hu h
                exact ⟨j, by omega, by rw [up_n (by omega), v2]⟩
              · subst h
                exact ⟨c, by omega, up_e⟩
/-- a level's set -/
def LsB (N : gM) (lv : Nat) (Y : Nat → Prop) : Prop := ∃ n : Nat, n ≤ 2079 ∧ N.1 64 lv = i3 n ∧ (∀ i : Nat, i < n → ∃ q : Nat, q < 2079 ∧ N.1 63 (lv * 2079 + i) = i3 q ∧ Y q) ∧ ∀ q : Nat, q < 2079 → Y q → ∃ i, i < n ∧ N.1 63 (lv * 2079 + i) = i3 q
def mtI (mt : Nat) (N : gM) : Prop := N.1 57 12 = i3 mt ∧ ∀ q : Nat, q < 2079 → ∃ v : Nat, v ≤ mt ∧ N.1 65 q = i3 v
theorem k_ag {R : tR} {p : Int} {t st mt lv a : Nat} {Y : Nat → Prop} {M : gM} (hC : CB R p t st M) (ha : a < rNa R) (hlv : lv < 4) (hmt : mt + 1 < 2000000000) (hm : mtI mt M) (hY : LsB M lv Y) (hY2 : ∀ s, Y s → s < 2079 ∧ ¬ ovP R s) : wp (f_X6_allGoOn (i3 lv) (i3 a) M) (fun r N => r = b_ (goB R p Y a) ∧ CB R p t st N ∧ agF lv M N ∧ mtI (mt + 1) N ∧ (goB R p Y a → LsB N (lv + 1) (nxB R p Y a))) := by
  have hR := hC.1.1
  have hna := hR.2.1
  obtain ⟨n0, hn0, h64, hL1, hL2⟩ := hY
  rw [f_X6_allGoOn, hm.1]
  rw [show i3 (lv : Int) + 1 = i3 ((lv + 1 : Nat) : Int) from i3_sn lv, i3_sn, wp_m]
  simp (disch := omega) only [ck_ok, i3_tn, Int.toNat_natCast]
  rw [wp_m]
  have f1 : Fr [57, 64] M (sI (sI M 57 12 (i3 ((mt + 1 : Nat) : Int))) 64 (lv + 1) 0) := (Fr.rf.i (by decide)).i (by decide)
  have q57 : (sI (sI M 57 12 (i3 ((mt + 1 : Nat) : Int))) 64 (lv + 1) 0).1 57 = upd (M.1 57) 12 (i3 ((mt + 1 : Nat) : Int)) := by rw [rI_n (by decide), rI_e]
  have q64 : (sI (sI M 57 12 (i3 ((mt + 1 : Nat) : Int))) 64 (lv + 1) 0).1 64 = upd (M.1 64) (lv + 1) 0 := by rw [rI_e, rI_n (by decide)]
  generalize sI (sI M 57 12 (i3 ((mt + 1 : Nat) : Int))) 64 (lv + 1) 0 = M1 at f1 q57 q64 ⊢
  have hC1 := hC.mv f1 (by decide)
  have fr1 : agF lv M M1 := ⟨f1.up (by decide), fun j hj => by rw [q57, up_n hj], fun i _ => by rw [f1.e1 (by decide)], fun j hj => by rw [q64, up_n (by omega)]⟩
  have hI1 : agI (mt + 1) lv (fun _ => False) M1 := by
    have e0 : cN (fun _ => False) 2079 = 0 := cN_none 2079 (fun _ _ h => h)
    refine ⟨by rw [q57, up_e], by rw [q64, up_e, e0]; rfl, fun q hq => ⟨fun h => ?_, fun h => h.elim⟩, fun q hq => ?_, fun i hi => by rw [e0] at hi; omega, fun q _ h => h.elim⟩
    · obtain ⟨v, v1, v2⟩ := hm.2 q hq
      rw [f1.e1 (by decide), v2, i3_eq (by omega) (by omega) (by omega) (by omega)] at h
      omega
    · obtain ⟨v, v1, v2⟩ := hm.2 q hq
      exact ⟨v, by omega, by rw [f1.e1 (by decide), v2]⟩
  -- the entries, one by one
  refine wp_lp (F := fun n x (_ : Unit) M => f_X6_allGoOn_21 n (i3 lv) (i3 a) (i3 x) M)
    (I := fun x _ N => CB R p t st N ∧ agF lv M N ∧ (∀ i : Nat, i < x → ∀ s : Nat, s < 2079 → M.1 63 (lv * 2079 + i) = i3 s → caP R p s a ∧ ∀ g : Int, loR R p s ≤ g → g ≤ hiR R p s → 0 ≤ nxR R p s a g) ∧ agI (mt + 1) lv (fun q => ¬ ovP R q ∧ ∃ (s : Nat) (g : Int) (i : Nat), i < x ∧ s < 2079 ∧ M.1 63 (lv * 2079 + i) = i3 s ∧ loR R p s ≤ g ∧ g ≤ hiR R p s ∧ nxR R p s a g = (q : Int)) N) n0 ?_ ?_ FU 0 () M1 (by omega) (by rw [FU_s]; omega) ⟨hC1, fr1, fun i hi => by omega, hI1.q (fun q _ => ⟨fun h => h.elim, fun ⟨_, s, g, i, h, _⟩ => by omega⟩)⟩
  · intro n x _ N hx hI hk2
    obtain ⟨i1, fr, i4, i5⟩ := hI
    obtain ⟨s, hs, es, hYs⟩ := hL1 x hx
    have e1 : (lv : Int) * 2079 + x = ((lv * 2079 + x : Nat) : Int) := by omega
    have e64 : N.1 64 lv = i3 n0 := by rw [fr.2.2.2 lv (Nat.le_refl _), h64]
    have e63 : N.1 63 (lv * 2079 + x) = i3 s := by rw [fr.2.2.1 _ (by omega), es]
    have same : ∀ q : Nat, q < 2079 → M.1 63 (lv * 2079 + x) = i3 q → q = s := fun q hq eq => by
      rw [es, i3_eq (by omega) (by omega) (by omega) (by omega)] at eq
      omega
    rw [f_X6_allGoOn_21]
    simp (disch := omega) only [iL2079, i3_mul, i3_add, e1, ck_ok, i3_tn, Int.toNat_natCast, e64, e63, i3_le]
    rw [if_neg (by omega), wp_v]
    refine wp_b _ (c_allows hs (by omega) i1) (fun r N2 hN => ?_)
    obtain ⟨rfl, hC2, f2⟩ := hN
    rw [b_if]
    refine wp_if (fun hc => ?_) (fun hc => ?_)
    · refine wp_b _ (c_least hs hC2) (fun r N3 hN => ?_)
      obtain ⟨rfl, hC3, f3⟩ := hN
      have fr3 := (fr.tr (agF.c f2)).tr (agF.c f3)
      have hlh := lh_r (p := p) (s := s) hR
      refine k_ag71 (M0 := M) (A := fun q => ¬ ovP R q ∧ ∃ (s : Nat) (g : Int) (i : Nat), i < x ∧ s < 2079 ∧ M.1 63 (lv * 2079 + i) = i3 s ∧ loR R p s ≤ g ∧ g ≤ hiR R p s ∧ nxR R p s a g = (q : Int)) hs ha hlv (by omega) (fun N4 u1 u2 u3 u4 => ?_) (fun N4 u1 u2 u3 u4 => ?_) FU (loR R p s) N3 hC3 fr3 (by omega) (by omega) (by rw [FU_s]; omega) (fun x h1 h2 => by omega) (((i5.c f2).c f3).q (fun q _ => ⟨Or.inl, fun h => h.elim id (fun ⟨_, x, _, _, _⟩ => by omega)⟩))
      · have hng : ¬ goB R p Y a := fun hg => by
          obtain ⟨g, g1, g2, g3⟩ := u4
          exact g3 ((hg s hYs).2 g g1 g2)
        obtain ⟨B, hB⟩ := u3
        exact ⟨(b_f hng).symm, u1, u2, ⟨hB.1, hB.2.2.2.1⟩, fun hg => absurd hg hng⟩
      · refine hk2 () N4 ⟨u1, u2, fun i hi q hq eq => ?_, u4.q (fun q hq => ⟨fun h => ?_, fun h => ?_⟩)⟩
        · by_cases hix : i = x
          · subst hix
            rw [same q hq eq]
            exact ⟨hc, u3⟩
          · exact i4 i (by omega) q hq eq
        · rcases h with ⟨h1, s2, g, i, h2, h3⟩ | ⟨h1, g, h2, h3, h4⟩
          · exact ⟨h1, s2, g, i, by omega, h3⟩
          · exact ⟨h1, s, g, x, by omega, hs, es, h2, h3, h4⟩
        · obtain ⟨h1, s2, g, i, h2, h3, h4, h5⟩ := h
          by_cases hix : i = x
          · subst hix
            rw [same s2 h3 h4] at h5
            exact Or.inr ⟨h1, g, h5⟩
          · exact Or.inl ⟨h1, s2, g, i, by omega, h3, h4, h5⟩
    · rw [wp_some]
      have hng : ¬ goB R p Y a := fun hg => hc (hg s hYs).1
      have := i5.c f2
      exact ⟨(b_f hng).symm, hC2, fr.tr (agF.c f2), ⟨this.1, this.2.2.2.1⟩, fun hg => absurd hg hng⟩
  · intro n _ N hI
    obtain ⟨i1, fr, i4, i5⟩ := hI
    have e64 : N.1 64 lv = i3 n0 := by rw [fr.2.2.2 lv (Nat.le_refl _), h64]
    rw [f_X6_allGoOn_21]
    simp (disch := omega) only [ck_ok, i3_tn, Int.toNat_natCast, e64, i3_le]
    rw [if_pos (by omega), wp_some]
    have hg : goB R p Y a := fun s hYs => by
      obtain ⟨i, v1, v2⟩ := hL2 s (hY2 s hYs).1 hYs
      exact i4 i v1 s (hY2 s hYs).1 v2
    have i6 : agI (mt + 1) lv (nxB R p Y a) N := i5.q (fun q hq => ⟨fun ⟨h1, s, g, i, h2, h3, h4, h5⟩ => ?_, fun ⟨h1, s, g, h2, h3⟩ => ?_⟩)
    · refine ⟨(b_t hg).symm, i1, fr, ⟨i6.1, i6.2.2.2.1⟩, fun _ => ⟨cN (nxB R p Y a) 2079, cN_le 2079, i6.2.1, i6.2.2.2.2.1, i6.2.2.2.2.2⟩⟩
    · obtain ⟨s2, v1, v2, v3⟩ := hL1 i h2
      have : s2 = s := by
        rw [v2, i3_eq (by omega) (by omega) (by omega) (by omega)] at h4
        omega
      subst this
      exact ⟨h1, s2, g, v3, h5⟩
    · obtain ⟨i, v1, v2⟩ := hL2 s (hY2 s h2).1 h2
      exact ⟨h1, s, g, i, v1, (hY2 s h2).1, v2, h3⟩
