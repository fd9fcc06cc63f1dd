/-! ===== the reference's BLIND ===== -/
theorem i3_divn {a b : Nat} (ha : a < 2147483648) (hb : b < 2147483648) : i3 (a : Int) / i3 (b : Int) = i3 ((a / b : Nat) : Int) := by
  rw [i3_div (by omega) (by omega) (by omega) (by omega)]
  rfl
theorem i3_modn {a b : Nat} (ha : a < 2147483648) (hb : b < 2147483648) : i3 (a : Int) - i3 (a : Int) / i3 (b : Int) * i3 (b : Int) = i3 ((a % b : Nat) : Int) := by
  rw [i3_divn ha hb, i3_mul, i3_sub]
  congr 1
  have := Nat.div_add_mod a b
  have h2 : ((a / b : Nat) : Int) * (b : Int) = ((a / b * b : Nat) : Int) := rfl
  rw [h2, Nat.mul_comm]
  omega
theorem i3_nz {b : Nat} (h : 0 < b) (h2 : b < 2147483648) : i3 (b : Int) ≠ 0 := by
  intro e
  rw [iL0, i3_eq (by omega) (by omega) (by omega) (by omega)] at e
  omega
/-- all that may be, with what is OVER -/
def myI (R : tR) (off : Nat) (X : Nat → Prop) (N : gM) : Prop := (∀ q : Nat, q < 2079 → N.1 61 (off + q) = b2i (b_ (X q))) ∧ ∀ q, X q → stP R q
def nxM (R : tR) (p : Int) (X : Nat → Prop) (a q : Nat) : Prop := (X q ∧ ovP R q) ∨ ∃ (s : Nat) (g : Int), X s ∧ ¬ ovP R s ∧ loR R p s ≤ g ∧ g ≤ hiR R p s ∧ nxR R p s a g = (q : Int)
def oB (R : tR) (X : Nat → Prop) (s : Nat) : Prop := X s ∧ ¬ ovP R s
theorem nxM_B {R : tR} {p : Int} {X : Nat → Prop} {a : Nat} : oB R (nxM R p X a) = nxB R p (oB R X) a := by
  funext q
  apply propext
  constructor
  · rintro ⟨(h | ⟨s, g, h1, h2, h3⟩), h4⟩
    · exact absurd h.2 h4
    · exact ⟨h4, s, g, ⟨h1, h2⟩, h3⟩
  · rintro ⟨h1, s, g, h2, h3⟩
    exact ⟨Or.inr ⟨s, g, h2.1, h2.2, h3⟩, h1⟩
theorem iL4158 : (4158 : Int32) = i3 4158 := rfl
theorem d_g92 {R : tR} {p : Int} {h a s : Nat} {B : Nat → Prop} {k28 : Int32 → Int32 → gM → Option (Bool × gM)} {Q : Bool → gM → Prop} {M0 : gM} (H : D2 R p h M0) (hs : stP R s) (hc : caP R p s a)
    (hno : ∀ N, Fo [61] [] M0 N → (∃ g : Int, loR R p s ≤ g ∧ g ≤ hiR R p s ∧ ¬ 0 ≤ nxR R p s a g) → Q false N)
    (hk : ∀ N, Fo [61] [] M0 N → (∀ q : Nat, q < 2079 → N.1 61 q = M0.1 61 q) → (∀ g : Int, loR R p s ≤ g → g ≤ hiR R p s → 0 ≤ nxR R p s a g) → (∀ q : Nat, q < 2079 → N.1 61 (2079 + q) = b2i (b_ (B q ∨ ∃ g : Int, loR R p s ≤ g ∧ g ≤ hiR R p s ∧ nxR R p s a g = (q : Int)))) → wp (k28 (i3 a) (i3 ((s + 1 : Nat) : Int)) N) Q) : ∀ (n : Nat) (g : Int) (M : gM), Fo [61] [] M0 M → loR R p s ≤ g → g ≤ hiR R p s + 1 → hiR R p s + 1 - g < n → (∀ q : Nat, q < 2079 → M.1 61 q = M0.1 61 q) → (∀ x : Int, loR R p s ≤ x → x < g → 0 ≤ nxR R p s a x) → (∀ q : Nat, q < 2079 → M.1 61 (2079 + q) = b2i (b_ (B q ∨ ∃ x : Int, loR R p s ≤ x ∧ x < g ∧ nxR R p s a x = (q : Int)))) →
    wp (f_X10_goesBlindly_92 k28 n (i3 a) (i3 s) (i3 g) M) Q := by
  have hR := H.1.1
  have hs2 := st_lt hs
  have hlh := lh_r (p := p) (s := s) hR
  intro n
  induction n with
  | zero => intro g M _ _ h1 h2; omega
  | succ n ih =>
    intro g M f hg1 hg2 hn hlow hok hB
    have H1 := H.mv f (by decide) (by decide)
    rw [f_X10_goesBlindly_92]
    rw [show i3 (s : Int) + 1 = i3 ((s + 1 : Nat) : Int) from i3_sn s]
    simp (disch := omega) only [ck_ok, i3_tn, Int.toNat_natCast, d_hi H1 hs, i3_lt]
    refine wp_if (fun hx => ?_) (fun hx => ?_)
    · refine hk M f hlow (fun x h1 h2 => hok x h1 (by omega)) (fun q hq => ?_)
      rw [hB q hq]
      congr 1
      exact b_e ⟨fun h => h.elim Or.inl (fun ⟨x, h1, h2, h3⟩ => Or.inr ⟨x, h1, by omega, h3⟩), fun h => h.elim Or.inl (fun ⟨x, h1, h2, h3⟩ => Or.inr ⟨x, h1, by omega, h3⟩)⟩
    · rw [d_leads H1 hs hc (by omega), g_b_some]
      rcases nx_q hR p s a g with hq | ⟨q, hq, hq2, hq3⟩
      · rw [hq, if_pos (show i3 (-2) = ((-2) : Int32) from rfl), wp_some]
        exact hno M f ⟨g, hg1, by omega, by omega⟩
      · have e1 : (2079 : Int) + q = ((2079 + q : Nat) : Int) := by omega
        rw [hq, show i3 g + 1 = i3 (g + 1) from i3_add g 1]
        simp (disch := omega) only [i3_m2, i3_eq]
        rw [if_neg (by omega)]
        simp (disch := omega) only [iL2079, i3_add, e1, ck_ok, i3_tn, Int.toNat_natCast]
        rw [wp_m, show zb (1 : Int32) = 1 from rfl]
        refine ih (g + 1) _ (f.i (by decide) (by decide)) (by omega) (by omega) (by omega) (fun u hu => by rw [rI_e, up_n (by omega)]; exact hlow u hu) (fun x h1 h2 => ?_) (fun u hu => ?_)
        · by_cases hxg : x = g
          · subst hxg; omega
          · exact hok x h1 (by omega)
        · rw [rI_e]
          by_cases huq : u = q
          · subst huq
            rw [up_e, b_t (Or.inr ⟨g, hg1, by omega, hq⟩)]
            rfl
          · rw [up_n (by omega), hB u hu]
            congr 1
            refine b_e ⟨fun h => h.elim Or.inl (fun ⟨x, h1, h2, h3⟩ => Or.inr ⟨x, h1, by omega, h3⟩), fun h => h.elim Or.inl (fun ⟨x, h1, h2, h3⟩ => Or.inr ⟨x, h1, ?_, h3⟩)⟩
            by_cases hxg : x = g
            · subst hxg
              omega
            · omega
theorem d_goes {R : tR} {p : Int} {h a : Nat} {X : Nat → Prop} {M : gM} (H : D2 R p h M) (ha : a < rNa R) (hX : myI R 0 X M) : wp (f_X10_goesBlindly (i3 a) M) (fun r N => r = b_ (goB R p (oB R X) a) ∧ Fo [61] [] M N ∧ (goB R p (oB R X) a → myI R 2079 (nxM R p X a) N)) := by
  have hR := H.1.1
  have hna := hR.2.1
  rw [f_X10_goesBlindly]
  refine wp_lp (F := fun n x (_ : Unit) M => f_X10_goesBlindly_2 n (i3 a) (i3 x) M) (I := fun x _ N => Fo [61] [] M N ∧ (∀ q : Nat, q < 2079 → N.1 61 q = M.1 61 q) ∧ ∀ q : Nat, q < x → N.1 61 (2079 + q) = 0) 2079 ?_ ?_ FU 0 () M (by omega) (by rw [FU_s]; omega) ⟨Fo.rf, fun _ _ => rfl, fun q hq => by omega⟩
  · intro n x _ N hx hI hk2
    obtain ⟨f, i1, i2⟩ := hI
    have e1 : (2079 : Int) + x = ((2079 + x : Nat) : Int) := by omega
    rw [f_X10_goesBlindly_2]
    rw [show i3 (x : Int) + 1 = i3 ((x + 1 : Nat) : Int) from i3_sn x]
    simp (disch := omega) only [iL2079, i3_le, i3_add, e1, ck_ok, i3_tn, Int.toNat_natCast]
    rw [if_neg (by omega), wp_m, show zb (0 : Int32) = 0 from rfl]
    refine hk2 () _ ⟨f.i (by decide) (by decide), fun q hq => by rw [rI_e, up_n (by omega)]; exact i1 q hq, fun q hq => ?_⟩
    rw [rI_e]
    by_cases hqx : q = x
    · subst hqx; rw [up_e]
    · rw [up_n (by omega)]; exact i2 q (by omega)
  · intro n _ N0 hI
    obtain ⟨f0, j1, j2⟩ := hI
    rw [f_X10_goesBlindly_2]
    simp (disch := omega) only [iL2079, i3_le]
    rw [if_pos (by omega)]
    refine wp_lp (F := fun n x (_ : Unit) M => f_X10_goesBlindly_28 n (i3 a) (i3 x) M) (I := fun x _ N => Fo [61] [] M N ∧ (∀ q : Nat, q < 2079 → N.1 61 q = M.1 61 q) ∧ (∀ s : Nat, s < x → oB R X s → caP R p s a ∧ ∀ g : Int, loR R p s ≤ g → g ≤ hiR R p s → 0 ≤ nxR R p s a g) ∧ ∀ q : Nat, q < 2079 → N.1 61 (2079 + q) = b2i (b_ ((q < x ∧ X q ∧ ovP R q) ∨ ∃ (s : Nat) (g : Int), s < x ∧ X s ∧ ¬ ovP R s ∧ loR R p s ≤ g ∧ g ≤ hiR R p s ∧ nxR R p s a g = (q : Int)))) 2079 ?_ ?_ FU 0 () N0 (by omega) (by rw [FU_s]; omega) ⟨f0, j1, fun s hs => by omega, fun q hq => ?_⟩
    · intro n x _ N hx hI hk2
      obtain ⟨f, i1, i2, i4⟩ := hI
      have H1 := H.mv f (by decide) (by decide)
      have e61 : N.1 61 x = b2i (b_ (X x)) := by
        rw [i1 x hx]
        have := hX.1 x hx
        rw [Nat.zero_add] at this
        exact this
      rw [f_X10_goesBlindly_28]
      rw [show i3 (x : Int) + 1 = i3 ((x + 1 : Nat) : Int) from i3_sn x]
      simp (disch := omega) only [iL2079, i3_le, ck_ok, i3_tn, Int.toNat_natCast, e61, b2i_0, b_ifn]
      rw [if_neg (by omega)]
      refine wp_if (fun hxX => ?_) (fun hxX => ?_)
      · refine hk2 () N ⟨f, i1, fun s hs ho => ?_, fun q hq => ?_⟩
        · by_cases hsx : s = x
          · subst hsx; exact absurd ho.1 hxX
          · exact i2 s (by omega) ho
        · rw [i4 q hq]
          congr 1
          refine b_e ⟨fun h => h.elim (fun h => Or.inl ⟨by omega, h.2⟩) (fun ⟨s, g, h1, h2⟩ => Or.inr ⟨s, g, by omega, h2⟩), fun h => ?_⟩
          rcases h with h | ⟨s, g, h1, h2⟩
          · by_cases hqx : q = x
            · subst hqx; exact absurd h.2.1 hxX
            · exact Or.inl ⟨by omega, h.2⟩
          · by_cases hsx : s = x
            · subst hsx; exact absurd h2.1 hxX
            · exact Or.inr ⟨s, g, by omega, h2⟩
      · have hxX : X x := Classical.not_not.1 hxX
        have hst := hX.2 x hxX
        rw [d_over H1.1 hx, g_b_some, b_if]
        refine wp_if (fun ho => ?_) (fun ho => ?_)
        · have e1 : (2079 : Int) + x = ((2079 + x : Nat) : Int) := by omega
          simp (disch := omega) only [i3_add, e1, ck_ok, i3_tn, Int.toNat_natCast]
          rw [wp_m, show zb (1 : Int32) = 1 from rfl]
          refine hk2 () _ ⟨f.i (by decide) (by decide), fun q hq => by rw [rI_e, up_n (by omega)]; exact i1 q hq, fun s hs hob => ?_, fun q hq => ?_⟩
          · by_cases hsx : s = x
            · subst hsx; exact absurd ho hob.2
            · exact i2 s (by omega) hob
          · rw [rI_e]
            by_cases hqx : q = x
            · subst hqx
              rw [up_e, b_t (Or.inl ⟨by omega, hxX, ho⟩)]
              rfl
            · rw [up_n (by omega), i4 q hq]
              congr 1
              refine b_e ⟨fun h => h.elim (fun h => Or.inl ⟨by omega, h.2⟩) (fun ⟨s, g, h1, h2⟩ => Or.inr ⟨s, g, by omega, h2⟩), fun h => h.elim (fun h => Or.inl ⟨by omega, h.2⟩) (fun ⟨s, g, h1, h2⟩ => Or.inr ⟨s, g, ?_, h2⟩)⟩
              by_cases hsx : s = x
              · subst hsx; exact absurd ho h2.2.1
              · omega
        · have e1 : (6 : Int) * x + a = ((6 * x + a : Nat) : Int) := by omega
          have ng : ¬ (caP R p x a ∧ ∀ g : Int, loR R p x ≤ g → g ≤ hiR R p x → 0 ≤ nxR R p x a g) → ¬ goB R p (oB R X) a := fun h hg => h (hg x ⟨hxX, ho⟩)
          simp (disch := omega) only [iL6, i3_mul, i3_add, e1, ck_ok, i3_tn, Int.toNat_natCast, d_can H1 hst ha, b2i_0, b_ifn, d_lo H1 hst]
          refine wp_if (fun hc => ?_) (fun hc => ?_)
          · rw [wp_some]
            have hng := ng (fun h => hc h.1)
            exact ⟨(b_f hng).symm, f, fun hg => absurd hg hng⟩
          · have hc : caP R p x a := Classical.not_not.1 hc
            have hlh := lh_r (p := p) (s := x) hR
            rw [wp_v]
            refine d_g92 (B := fun q => (q < x ∧ X q ∧ ovP R q) ∨ ∃ (s : Nat) (g : Int), s < x ∧ X s ∧ ¬ ovP R s ∧ loR R p s ≤ g ∧ g ≤ hiR R p s ∧ nxR R p s a g = (q : Int)) H1 hst hc (fun N2 u1 u2 => ?_) (fun N2 u1 u2 u3 u4 => ?_) FU (loR R p x) N Fo.rf (by omega) (by omega) (by rw [FU_s]; omega) (fun q _ => rfl) (fun x h1 h2 => by omega) (fun q hq => ?_)
            · obtain ⟨g, v1, v2, v3⟩ := u2
              have hng := ng (fun h => v3 (h.2 g v1 v2))
              exact ⟨(b_f hng).symm, f.tr u1, fun hg => absurd hg hng⟩
            · refine hk2 () N2 ⟨f.tr u1, fun q hq => (u2 q hq).trans (i1 q hq), fun s hs hob => ?_, fun q hq => ?_⟩
              · by_cases hsx : s = x
                · subst hsx; exact ⟨hc, u3⟩
                · exact i2 s (by omega) hob
              · rw [u4 q hq]
                congr 1
                refine b_e ⟨fun h => ?_, fun h => ?_⟩
                · rcases h with (h | ⟨s, g, h1, h2⟩) | ⟨g, h2⟩
                  · exact Or.inl ⟨by omega, h.2⟩
                  · exact Or.inr ⟨s, g, by omega, h2⟩
                  · exact Or.inr ⟨x, g, by omega, hxX, ho, h2⟩
                · rcases h with h | ⟨s, g, h1, h2, h3, h4⟩
                  · by_cases hqx : q = x
                    · subst hqx; exact absurd h.2.2 ho
                    · exact Or.inl (Or.inl ⟨by omega, h.2⟩)
                  · by_cases hsx : s = x
                    · subst hsx
                      exact Or.inr ⟨g, h4⟩
                    · exact Or.inl (Or.inr ⟨s, g, by omega, h2, h3, h4⟩)
            · rw [i4 q hq]
              congr 1
              exact b_e ⟨Or.inl, fun h => h.elim id (fun ⟨x, h1, h2, _⟩ => by omega)⟩
    · intro n _ N hI
      obtain ⟨f, i1, i2, i4⟩ := hI
      rw [f_X10_goesBlindly_28]
      simp (disch := omega) only [iL2079, i3_le]
      rw [if_pos (by omega), wp_some]
      have hg : goB R p (oB R X) a := fun s hs => i2 s (st_lt (hX.2 s hs.1)) hs
      refine ⟨(b_t hg).symm, f, fun _ => ⟨fun q hq => ?_, fun q hq => ?_⟩⟩
      · rw [i4 q hq]
        congr 1
        exact b_e ⟨fun h => h.elim (fun h => Or.inl h.2) (fun ⟨s, g, _, h2⟩ => Or.inr ⟨s, g, h2⟩), fun h => h.elim (fun h => Or.inl ⟨hq, h⟩) (fun ⟨s, g, h2⟩ => Or.inr ⟨s, g, st_lt (hX.2 s h2.1), h2⟩)⟩
      · rcases hq with h | ⟨s, g, h1, h2, h3, h4, h5⟩
        · exact hX.2 q h.1
        · rcases nx_r hR p s a g with h | h
          · omega
          · rw [← h5]; exact h
    · rw [j2 q hq, b_f]
      · rfl
      · rintro (h | ⟨s, g, h, _⟩) <;> omega
/-- a row of ACTS, by its number -/
theorem d_is69 {R : tR} {p : Int} {h nn row : Nat} (hn : nn ≤ 4) (hr : row < 2000) {M0 : gM} : ∀ (n k : Nat) (X : Nat → Prop) (M : gM) (un : Nat), k ≤ nn → nn < n + k → D2 R p h M → Fo [61] [] M0 M → myI R 0 X M → (k < nn → un = rNa R ^ (nn - 1 - k)) → 0 < un → un < 2000 →
    wp (f_X10_isBlindly_69 n (i3 nn) (i3 row) (i3 (rNa R)) (i3 un) (i3 k) M) (fun r N => r = b_ (blN R p (nn - k) (oB R X) row) ∧ Fo [61] [] M0 N) := by
  intro n
  induction n with
  | zero => intro k X M un h1 h2; omega
  | succ n ih =>
    intro k X M un h1 h2 H f hX hun hu1 hu2
    have hR := H.1.1
    have hna := hR.2.1
    rw [f_X10_isBlindly_69]
    simp (disch := omega) only [i3_le]
    refine wp_if (fun hx => ?_) (fun hx => ?_)
    · have : k = nn := by omega
      subst this
      rw [wp_some, Nat.sub_self]
      exact ⟨(b_t trivial).symm, f⟩
    · have hun := hun (by omega)
      have hdiv : row / un ≤ row := Nat.div_le_self _ _
      have ha : row / un % rNa R < rNa R := Nat.mod_lt _ (by omega)
      rw [nz_ok (i3_nz hu1 (by omega)), nz_ok (i3_nz (by omega) (by omega)), i3_divn (by omega) (by omega), i3_modn (by omega) (by omega), wp_v]
      -- the ACT
      have go : ∀ un2 : Nat, (k + 1 < nn → un2 = rNa R ^ (nn - 1 - (k + 1))) → 0 < un2 → un2 < 2000 → wp (f_X10_isBlindly_102 (f_X10_isBlindly_69 n) (i3 nn) (i3 row) (i3 (rNa R)) (i3 k) (i3 ((row / un % rNa R : Nat) : Int)) (i3 un2) M) (fun r N => r = b_ (blN R p (nn - k) (oB R X) row) ∧ Fo [61] [] M0 N) := by
        intro un2 hv1 hv2 hv3
        have ebl : blN R p (nn - k) (oB R X) row ↔ goB R p (oB R X) (row / un % rNa R) ∧ blN R p (nn - (k + 1)) (oB R (nxM R p X (row / un % rNa R))) row := by
          rw [show nn - k = (nn - (k + 1)) + 1 by omega, blN, show nn - (k + 1) = nn - 1 - k by omega, ← hun, nxM_B]
        rw [f_X10_isBlindly_102]
        refine wp_b _ (d_goes H ha hX) (fun r N hN => ?_)
        obtain ⟨rfl, g1, g2⟩ := hN
        rw [b_if]
        refine wp_if (fun hg => ?_) (fun hg => ?_)
        · have hX2 := g2 hg
          refine wp_lp (F := fun m x (_ : Unit) M => f_X10_isBlindly_118 (f_X10_isBlindly_69 n) m (i3 nn) (i3 row) (i3 (rNa R)) (i3 un2) (i3 k) (i3 x) M) (I := fun x _ L => Fo [61] [] N L ∧ (∀ q : Nat, q < 2079 → L.1 61 (2079 + q) = N.1 61 (2079 + q)) ∧ ∀ q : Nat, q < x → L.1 61 q = N.1 61 (2079 + q)) 2079 ?_ ?_ FU 0 () N (by omega) (by rw [FU_s]; omega) ⟨Fo.rf, fun _ _ => rfl, fun q hq => by omega⟩
          · intro m x _ L hx hI hk2
            obtain ⟨fL, i1, i2⟩ := hI
            have e1 : (2079 : Int) + x = ((2079 + x : Nat) : Int) := by omega
            have e61 : L.1 61 (2079 + x) = b2i (b_ (nxM R p X (row / un % rNa R) x)) := by rw [i1 x hx]; exact hX2.1 x hx
            rw [f_X10_isBlindly_118]
            rw [show i3 (x : Int) + 1 = i3 ((x + 1 : Nat) : Int) from i3_sn x]
            simp (disch := omega) only [iL2079, i3_le, i3_add, e1, ck_ok, i3_tn, Int.toNat_natCast, e61, zb_ok]
            rw [if_neg (by omega), wp_m]
            refine hk2 () _ ⟨fL.i (by decide) (by decide), fun q hq => by rw [rI_e, up_n (by omega)]; exact i1 q hq, fun q hq => ?_⟩
            rw [rI_e]
            by_cases hqx : q = x
            · subst hqx
              rw [up_e, ← hX2.1 q hx]
            · rw [up_n hqx]
              exact i2 q (by omega)
          · intro m _ L hI
            obtain ⟨fL, i1, i2⟩ := hI
            rw [f_X10_isBlindly_118]
            simp (disch := omega) only [iL2079, i3_le]
            rw [if_pos (by omega), i3_sn]
            refine wp_mono (ih (k + 1) (nxM R p X (row / un % rNa R)) L un2 (by omega) (by omega) ((H.mv g1 (by decide) (by decide)).mv fL (by decide) (by decide)) ((f.tr g1).tr fL) ⟨fun q hq => by rw [Nat.zero_add, i2 q hq]; exact hX2.1 q hq, hX2.2⟩ hv1 hv2 hv3) (fun r L2 hL => ⟨hL.1.trans ?_, hL.2⟩)
            exact b_e ⟨fun h => ebl.2 ⟨hg, h⟩, fun h => (ebl.1 h).2⟩
        · rw [wp_some]
          exact ⟨(b_f (fun h => hg (ebl.1 h).1)).symm, f.tr g1⟩
      simp (disch := omega) only [iL1, i3_sub, i3_le]
      refine wp_if (fun hx2 => ?_) (fun hx2 => ?_)
      · exact go un (fun h => by omega) hu1 hu2
      · have hpow : un = rNa R ^ (nn - 1 - (k + 1)) * rNa R := by
          rw [hun, ← Nat.pow_succ]
          congr 1
          omega
        have hud : un / rNa R = rNa R ^ (nn - 1 - (k + 1)) := by
          rw [hpow]
          exact Nat.mul_div_cancel _ (by omega)
        rw [nz_ok (i3_nz (by omega) (by omega)), i3_divn (by omega) (by omega), hud]
        have hpp := pw_pos hR (nn - 1 - (k + 1))
        have hpl := pw_le hR (nn - 1 - (k + 1)) (by omega)
        exact go _ (fun _ => rfl) hpp (by omega)
theorem d_is {R : tR} {p : Int} {h nn row s0 : Nat} (hn1 : 1 ≤ nn) (hn : nn ≤ 4) (hr : row < 2000) {M : gM} (H : D2 R p h M) (hs : stP R s0) : wp (f_X10_isBlindly (i3 s0) (i3 nn) (i3 row) M) (fun r N => r = b_ (blN R p nn (bs0 R s0) row) ∧ Fo [61] [] M N) := by
  have hR := H.1.1
  have hna := hR.2.1
  have hs2 := st_lt hs
  rw [f_X10_isBlindly, d_acts H.1, g_b_some]
  refine wp_lp (F := fun n x (_ : Unit) M => f_X10_isBlindly_9 n (i3 s0) (i3 nn) (i3 row) (i3 (rNa R)) (i3 x) M) (I := fun x _ N => Fo [61] [] M N ∧ ∀ q : Nat, q < x → N.1 61 q = b2i (b_ (q = s0))) 2079 ?_ ?_ FU 0 () M (by omega) (by rw [FU_s]; omega) ⟨Fo.rf, fun q hq => by omega⟩
  · intro n x _ N hx hI hk2
    obtain ⟨f, i1⟩ := hI
    rw [f_X10_isBlindly_9]
    rw [show i3 (x : Int) + 1 = i3 ((x + 1 : Nat) : Int) from i3_sn x]
    simp (disch := omega) only [iL2079, i3_le, i3_eq, ck_ok, i3_tn, Int.toNat_natCast]
    rw [if_neg (by omega)]
    have fin : ∀ v : Bool, v = b_ (x = s0) → wp (f_X10_isBlindly_9 n (i3 s0) (i3 nn) (i3 row) (i3 (rNa R)) (i3 ((x + 1 : Nat) : Int)) (sI N 61 x (b2i v))) (fun r N => r = b_ (blN R p nn (bs0 R s0) row) ∧ Fo [61] [] M N) := by
      intro v hv
      refine hk2 () _ ⟨f.i (by decide) (by decide), fun q hq => ?_⟩
      rw [rI_e]
      by_cases hqx : q = x
      · subst hqx; rw [up_e, hv]
      · rw [up_n hqx]; exact i1 q (by omega)
    refine wp_if (fun hx2 => ?_) (fun hx2 => ?_)
    · exact fin true (by rw [b_t]; omega)
    · exact fin false (by rw [b_f]; omega)
  · intro n _ N hI
    obtain ⟨f, i1⟩ := hI
    rw [f_X10_isBlindly_9]
    simp (disch := omega) only [iL2079, i3_le]
    rw [if_pos (by omega)]
    have key : ∀ (m k : Nat), 1 ≤ k → k ≤ nn → nn < m + k → wp (f_X10_isBlindly_47 m (i3 nn) (i3 row) (i3 (rNa R)) (i3 ((rNa R ^ (k - 1) : Nat) : Int)) (i3 k) N) (fun r N => r = b_ (blN R p nn (bs0 R s0) row) ∧ Fo [61] [] M N) := by
      intro m
      induction m with
      | zero => intro k h1 h2; omega
      | succ m ih =>
        intro k h1 h2 h3
        rw [f_X10_isBlindly_47]
        simp (disch := omega) only [i3_le]
        refine wp_if (fun hx => ?_) (fun hx => ?_)
        · have : k = nn := by omega
          subst this
          have hpp := pw_pos hR (k - 1)
          have hpl := pw_le hR (k - 1) (by omega)
          have e : bs0 R s0 = oB R (fun q => q = s0) := rfl
          rw [e]
          exact d_is69 hn hr FU 0 (fun q => q = s0) N _ (by omega) (by rw [FU_s]; omega) (H.mv f (by decide) (by decide)) f ⟨fun q hq => by rw [Nat.zero_add]; exact i1 q hq, fun q hq => by rw [show q = s0 from hq]; exact hs⟩ (fun _ => rfl) hpp (by omega)
        · rw [i3_mul, wp_v, i3_sn]
          have e2 : ((rNa R ^ (k - 1) : Nat) : Int) * (rNa R : Int) = ((rNa R ^ (k + 1 - 1) : Nat) : Int) := by
            rw [show k + 1 - 1 = (k - 1) + 1 by omega, Nat.pow_succ]
            rfl
          rw [e2]
          exact ih (k + 1) (by omega) (by omega) (by omega)
    exact key FU 1 (by omega) hn1 (by rw [FU_s]; omega)
theorem d_rowsOf {R : tR} {p : Int} {h nn : Nat} (hn : nn ≤ 4) {M : gM} (H : B2 R p h M) : f_X10_rowsOf (i3 nn) M = some (i3 ((rNa R ^ nn : Nat) : Int), M) := by
  have hna := H.1.2.1
  rw [f_X10_rowsOf]
  have key : ∀ (m k : Nat), k ≤ nn → nn < m + k → f_X10_rowsOf_4 m (i3 nn) (i3 ((rNa R ^ k : Nat) : Int)) (i3 k) M = some (i3 ((rNa R ^ nn : Nat) : Int), M) := by
    intro m
    induction m with
    | zero => intro k h1 h2; omega
    | succ m ih =>
      intro k h1 h2
      rw [f_X10_rowsOf_4]
      simp (disch := omega) only [i3_le]
      by_cases hx : (nn : Int) ≤ k
      · have : k = nn := by omega
        subst this
        rw [if_pos hx]
      · rw [if_neg hx, d_acts H, g_b_some, i3_mul, g_v, i3_sn]
        have e2 : ((rNa R ^ k : Nat) : Int) * (rNa R : Int) = ((rNa R ^ (k + 1) : Nat) : Int) := by
          rw [Nat.pow_succ]
          rfl
        rw [e2]
        exact ih (k + 1) (by omega) (by omega)
  exact key FU 0 (by omega) (by rw [FU_s]; omega)
theorem d_blind {R : tR} {p : Int} {h nn s0 : Nat} (hn1 : 1 ≤ nn) (hn : nn ≤ 4) {M : gM} (H : D2 R p h M) (hs : stP R s0) : wp (f_X10_blind_36 FU (i3 s0) (i3 nn) (i3 ((0 : Nat) : Int)) (i3 ((rNa R ^ nn : Nat) : Int)) (i3 ((0 : Nat) : Int)) M) (fun r N => r = i3 (cN (blN R p nn (bs0 R s0)) (rNa R ^ nn) : Nat) ∧ Fo [61] [] M N) := by
  have hpl := pw_le H.1.1 nn hn
  refine wp_lp (F := fun n x (c : Nat) M => f_X10_blind_36 n (i3 s0) (i3 nn) (i3 c) (i3 ((rNa R ^ nn : Nat) : Int)) (i3 x) M) (I := fun x c N => Fo [61] [] M N ∧ c = cN (blN R p nn (bs0 R s0)) x) (rNa R ^ nn) ?_ ?_ FU 0 0 M (by omega) (by rw [FU_s]; omega) ⟨Fo.rf, rfl⟩
  · intro n x c N hx hI hk2
    obtain ⟨f, i1⟩ := hI
    rw [f_X10_blind_36]
    rw [show i3 (x : Int) + 1 = i3 ((x + 1 : Nat) : Int) from i3_sn x]
    simp (disch := omega) only [i3_le]
    rw [if_neg (by omega)]
    refine wp_b _ (d_is hn1 hn (by omega) (H.mv f (by decide) (by decide)) hs) (fun r N2 hN => ?_)
    obtain ⟨rfl, f2⟩ := hN
    rw [b_if]
    refine wp_if (fun hb => ?_) (fun hb => ?_)
    · rw [wp_v, i3_sn]
      exact hk2 (c + 1) N2 ⟨f.tr f2, by rw [cN_t hb, i1]⟩
    · rw [wp_v, iL0, i3_add]
      exact hk2 (c + 0) N2 ⟨f.tr f2, by rw [cN_f hb, i1]; rfl⟩
  · intro n c N hI
    obtain ⟨f, i1⟩ := hI
    rw [f_X10_blind_36]
    simp (disch := omega) only [i3_le]
    rw [if_pos (by omega), wp_some, i1]
    exact ⟨rfl, f⟩
noncomputable def blA (R : tR) (p : Int) (nn s0 i : Nat) : Int := @ite _ (frB R p nn (bs0 R s0) = -1) (Classical.propDecidable _) (-1) (((frB R p nn (bs0 R s0)).toNat / rNa R ^ (nn - 1 - i) % rNa R : Nat) : Int)
theorem d_bAct {R : tR} {p : Int} {h nn s0 i : Nat} (hn1 : 1 ≤ nn) (hn : nn ≤ 4) (hi : i < nn) {M : gM} (H : D2 R p h M) (hs : stP R s0) : wp (f_X10_blindAct_43 FU (i3 s0) (i3 nn) (i3 i) (i3 ((rNa R ^ nn : Nat) : Int)) (i3 ((0 : Nat) : Int)) M) (fun r N => r = i3 (blA R p nn s0 i) ∧ Fo [61] [] M N) := by
  have hR := H.1.1
  have hna := hR.2.1
  have hpl := pw_le hR nn hn
  refine wp_lp (F := fun n x (_ : Unit) M => f_X10_blindAct_43 n (i3 s0) (i3 nn) (i3 i) (i3 ((rNa R ^ nn : Nat) : Int)) (i3 x) M) (I := fun x _ N => Fo [61] [] M N ∧ ∀ r : Nat, r < x → ¬ blN R p nn (bs0 R s0) r) (rNa R ^ nn) ?_ ?_ FU 0 () M (by omega) (by rw [FU_s]; omega) ⟨Fo.rf, fun r hr => by omega⟩
  · intro n x _ N hx hI hk2
    obtain ⟨f, i1⟩ := hI
    rw [f_X10_blindAct_43]
    rw [show i3 (x : Int) + 1 = i3 ((x + 1 : Nat) : Int) from i3_sn x]
    simp (disch := omega) only [i3_le]
    rw [if_neg (by omega)]
    refine wp_b _ (d_is hn1 hn (by omega) (H.mv f (by decide) (by decide)) hs) (fun r N2 hN => ?_)
    obtain ⟨rfl, f2⟩ := hN
    rw [b_if]
    refine wp_if (fun hb => ?_) (fun hb => ?_)
    · have hfr : frB R p nn (bs0 R s0) = x := leA_e hx hb i1
      have H2 := (H.mv f (by decide) (by decide)).mv f2 (by decide) (by decide)
      rw [iL1, i3_sub, wp_v]
      have key : ∀ (m k : Nat), i ≤ k → k < nn → k < m + i → wp (f_X10_blindAct_73 m (i3 i) (i3 ((x / rNa R ^ (nn - 1 - k) : Nat) : Int)) (i3 k) N2) (fun r N => r = i3 (blA R p nn s0 i) ∧ Fo [61] [] M N) := by
        intro m
        induction m with
        | zero => intro k h1 h2; omega
        | succ m ih =>
          intro k h1 h2 h3
          have hd : x / rNa R ^ (nn - 1 - k) ≤ x := Nat.div_le_self _ _
          rw [f_X10_blindAct_73]
          simp (disch := omega) only [i3_le]
          rw [d_acts H2.1, g_b_some, g_b_some]
          refine wp_if (fun hx => ?_) (fun hx => ?_)
          · have : k = i := by omega
            subst this
            rw [nz_ok (i3_nz (by omega) (by omega)), i3_modn (by omega) (by omega), wp_some]
            refine ⟨?_, f.tr f2⟩
            unfold blA
            rw [hfr, if_neg (by omega), Int.toNat_natCast]
          · rw [nz_ok (i3_nz (by omega) (by omega)), i3_divn (by omega) (by omega), wp_v, i3_m1, i3_add]
            have e1 : (k : Int) + -1 = ((k - 1 : Nat) : Int) := by omega
            have e2 : x / rNa R ^ (nn - 1 - k) / rNa R = x / rNa R ^ (nn - 1 - (k - 1)) := by
              rw [Nat.div_div_eq_div_mul, ← Nat.pow_succ]
              congr 2
              omega
            rw [e1, e2]
            exact ih (k - 1) (by omega) (by omega) (by omega)
      have e1 : (nn : Int) - 1 = ((nn - 1 : Nat) : Int) := by omega
      have := key FU (nn - 1) (by omega) (by omega) (by rw [FU_s]; omega)
      rw [Nat.sub_self, Nat.pow_zero, Nat.div_one] at this
      rw [e1]
      exact this
    · refine hk2 () N2 ⟨f.tr f2, fun r hr => ?_⟩
      by_cases hrx : r = x
      · subst hrx; exact hb
      · exact i1 r (by omega)
  · intro n _ N hI
    obtain ⟨f, i1⟩ := hI
    rw [f_X10_blindAct_43]
    simp (disch := omega) only [i3_le]
    rw [if_pos (by omega), wp_some]
    refine ⟨?_, f⟩
    unfold blA
    rw [if_pos (show frB R p nn (bs0 R s0) = -1 from leA_d i1)]
    rfl
