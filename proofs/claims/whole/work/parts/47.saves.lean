/-! ===== the reference: what can be kept for ever ===== -/
def wS (N : gM) (s : Nat) : Prop := ¬ N.1 55 s = 0
def wI (R : tR) (p k : Int) (N : gM) : Prop := (∀ s : Nat, s < 2079 → N.1 55 s = 0 ∨ N.1 55 s = 1) ∧ (∀ s : Nat, s < 2079 → sfR R p k s → wS N s) ∧ ∀ s : Nat, s < 2079 → wS N s → stP R s
theorem d_saved {R : tR} {p : Int} {h s a kk : Nat} {M : gM} (H : D2 R p h M) (hkk : kk ≤ 6) (hs : stP R s) (hc : caP R p s a) : f_X10_isSaved (i3 s) (i3 a) (i3 kk) M = some (b_ (gdP R p (wS M) kk s a), M) := by
  have hR := H.1.1
  have hs2 := st_lt hs
  have hlh := lh_r (p := p) (s := s) hR
  rw [f_X10_isSaved]
  simp (disch := omega) only [ck_ok, i3_tn, Int.toNat_natCast, d_lo H hs, g_v, i3_sub]
  rw [gl_all (F := fun n g => f_X10_isSaved_10 n (i3 s) (i3 a) (i3 kk) (i3 g) M) (ok := okP R p (wS M) s a) (lo := loR R p s - kk) (hi := hiR R p s + kk) ?_ FU (loR R p s - kk) (by omega) (by omega) (by rw [FU_s]; omega), gd_i (k := kk) (by omega) (by omega)]
  intro n g h1 h2
  rw [f_X10_isSaved_10]
  simp (disch := omega) only [ck_ok, i3_tn, Int.toNat_natCast, d_hi H hs, i3_add, i3_lt]
  by_cases hx : hiR R p s + kk < g
  · rw [if_pos hx, if_pos hx]
  · rw [if_neg hx, if_neg hx, d_leads H hs hc (by omega), g_b_some]
    rcases nx_q hR p s a g with hq | ⟨q, hq, hq2, hq3⟩
    · rw [hq, if_pos (show i3 (-2) = ((-2) : Int32) from rfl), if_neg (ok_f hq)]
    · rw [hq, i3_m2]
      simp (disch := omega) only [i3_eq]
      rw [if_neg (by omega)]
      simp (disch := omega) only [ck_ok, i3_tn, Int.toNat_natCast, iL1, i3_add]
      have e : okP R p (wS M) s a g ↔ ¬ M.1 55 q = 0 := ok_t hq
      by_cases g1 : M.1 55 q = 0
      · rw [if_pos g1, if_neg (fun h => (e.1 h) g1)]
      · rw [if_neg g1, if_pos (e.2 g1)]
theorem d_s69 {R : tR} {p : Int} {h s kk : Nat} {M : gM} {k36 : Int32 → Int32 → Int32 → gM → Option (Unit × gM)} {x2 : Int32} (H : D2 R p h M) (hkk : kk ≤ 6) (hs : stP R s) : ∀ (n a : Nat) (b : Bool), a ≤ rNa R → rNa R < n + a →
    f_X10_saves_69 k36 n (i3 kk) x2 (i3 s) (b2i b) (i3 a) M = f_X10_saves_122 k36 (i3 kk) x2 (i3 s) (b2i (b_ (b = true ∨ ∃ c, a ≤ c ∧ caP R p s c ∧ gdP R p (wS M) kk s c))) M := by
  have hR := H.1.1
  have hna := hR.2.1
  have hs2 := st_lt hs
  intro n
  induction n with
  | zero => intro a b h1 h2; omega
  | succ n ih =>
    intro a b h1 h2
    have e1 : (6 * (s : Int) + a).toNat = 6 * s + a := by omega
    rw [f_X10_saves_69, d_acts H.1, g_b_some]
    simp (disch := omega) only [i3_le]
    by_cases hx : (rNa R : Int) ≤ a
    · rw [if_pos hx]
      congr 2
      cases b with
      | true => exact (b_t (Or.inl rfl)).symm
      | false => exact (b_f (fun h => h.elim (fun h => by cases h) (fun ⟨c, h1, h2, _⟩ => by have := h2.1; omega))).symm
    · rw [if_neg hx]
      simp (disch := omega) only [b2i_0]
      cases b with
      | true => rw [if_neg (by decide), b_t (Or.inl rfl)]
      | false =>
        rw [if_pos rfl, i3_sn]
        simp (disch := omega) only [iL6, i3_mul, i3_add, ck_ok, i3_tn, e1, d_can H hs (show a < rNa R by omega), b2i_0, b_ifn]
        have fin : ∀ b2 : Bool, (b2 = true ↔ caP R p s a ∧ gdP R p (wS M) kk s a) → f_X10_saves_69 k36 n (i3 kk) x2 (i3 s) (b2i b2) (i3 ((a + 1 : Nat) : Int)) M = f_X10_saves_122 k36 (i3 kk) x2 (i3 s) (b2i (b_ (false = true ∨ ∃ c, a ≤ c ∧ caP R p s c ∧ gdP R p (wS M) kk s c))) M := by
          intro b2 hb2
          rw [ih (a + 1) b2 (by omega) (by omega)]
          congr 2
          refine b_e ⟨fun h => Or.inr (h.elim (fun h => ⟨a, Nat.le_refl _, hb2.1 h⟩) (fun ⟨c, h1, h2⟩ => ⟨c, by omega, h2⟩)), fun h => ?_⟩
          rcases h with h | ⟨c, q1, q2⟩
          · cases h
          · by_cases hca : c = a
            · subst hca
              exact Or.inl (hb2.2 q2)
            · exact Or.inr ⟨c, by omega, q2⟩
        by_cases hc : caP R p s a
        · rw [if_neg (fun h => h hc), d_saved H hkk hs hc, g_b_some]
          simp (disch := omega) only [b_if]
          by_cases hg : gdP R p (wS M) kk s a
          · rw [if_pos hg]
            exact fin true ⟨fun _ => ⟨hc, hg⟩, fun _ => rfl⟩
          · rw [if_neg hg]
            exact fin false ⟨fun h => (by cases h), fun h => absurd h.2 hg⟩
        · rw [if_pos hc]
          exact fin false ⟨fun h => (by cases h), fun h => absurd h.1 hc⟩
theorem d_s36 {R : tR} {p : Int} {h kk : Nat} {M : gM} {k28 : Int32 → Int32 → gM → Option (Unit × gM)} {Q : Unit → gM → Prop} (hkk : kk ≤ 6) (H : D2 R p h M) (hI : wI R p kk M)
    (hk : ∀ (b : Bool) N, Fo [55] [] M N → wI R p kk N → (b = false → ∀ s : Nat, s < 2079 → opP R s → wS N s → ∃ a, caP R p s a ∧ gdP R p (wS N) kk s a) → (b = true → cN (wS N) 2079 < cN (wS M) 2079) → wp (k28 (i3 kk) (b2i b) N) Q) :
    wp (f_X10_saves_36 k28 FU (i3 kk) (b2i false) (i3 ((0 : Nat) : Int)) M) Q := by
  have hR := H.1.1
  refine wp_lp (F := fun n x (c : Bool) M => f_X10_saves_36 k28 n (i3 kk) (b2i c) (i3 x) M)
    (I := fun x c N => Fo [55] [] M N ∧ wI R p kk N ∧ (∀ s, wS N s → wS M s) ∧ (c = false → (∀ s, wS M s → wS N s) ∧ ∀ s : Nat, s < x → opP R s → wS N s → ∃ a, caP R p s a ∧ gdP R p (wS N) kk s a) ∧ (c = true → ∃ s, s < 2079 ∧ wS M s ∧ ¬ wS N s)) 2079 ?_ ?_ FU 0 false M (by omega) (by rw [FU_s]; omega) ⟨Fo.rf, hI, fun s h => h, fun _ => ⟨fun s h => h, fun s hs => by omega⟩, fun h => by cases h⟩
  · intro n x c N hx hIx hk2
    obtain ⟨f, i1, i2, i4, i5⟩ := hIx
    have H1 := H.mv f (by decide) (by decide)
    rw [f_X10_saves_36, i3_sn]
    simp (disch := omega) only [iL2079, i3_le, ck_ok, i3_tn, Int.toNat_natCast]
    rw [if_neg (by omega)]
    have go : (c = false → opP R x → wS N x → ∃ a, caP R p x a ∧ gdP R p (wS N) kk x a) → wp (f_X10_saves_36 k28 n (i3 kk) (b2i c) (i3 ((x + 1 : Nat) : Int)) N) Q := by
      intro g1
      refine hk2 c N ⟨f, i1, i2, fun hc => ⟨(i4 hc).1, fun s hs => ?_⟩, i5⟩
      by_cases hsx : s = x
      · subst hsx; exact g1 hc
      · exact (i4 hc).2 s (by omega)
    refine wp_if (fun h55 => ?_) (fun h55 => ?_)
    · exact go (fun _ _ h => absurd h55 h)
    · have hst := i1.2.2 x hx h55
      rw [d_over H1.1 hx, g_b_some]
      simp (disch := omega) only [b_if]
      refine wp_if (fun ho => ?_) (fun ho => ?_)
      · exact go (fun _ h => absurd ho h.2)
      · have := d_s69 (k36 := f_X10_saves_36 k28 n) (x2 := b2i c) H1 hkk hst FU 0 false (by omega) (by have := hR.2.1; rw [FU_s]; omega)
        rw [show f_X10_saves_69 (f_X10_saves_36 k28 n) FU (i3 (kk : Int)) (b2i c) (i3 (x : Int)) (0 : Int32) (0 : Int32) N = _ from this, f_X10_saves_122]
        simp (disch := omega) only [b2i_0, b_ifn]
        rw [i3_sn]
        refine wp_if (fun hw => ?_) (fun hw => ?_)
        · have hw : ∀ a, ¬ (caP R p x a ∧ gdP R p (wS N) kk x a) := fun a h => hw (Or.inr ⟨a, Nat.zero_le _, h⟩)
          rw [ck_ok (by omega) (by omega) (by omega), wp_m, i3_tn (by omega) (by omega), Int.toNat_natCast]
          have q55 : (sI N 55 x (zb 0)).1 55 = upd (N.1 55) x 0 := rI_e
          have fQ : Fo [55] [] M (sI N 55 x (zb 0)) := f.i (by decide) (by decide)
          generalize sI N 55 x (zb 0) = N2 at q55 fQ ⊢
          have eS : ∀ q, wS N2 q ↔ (q ≠ x ∧ wS N q) := by
            intro q
            unfold wS
            rw [q55]
            by_cases hqx : q = x
            · subst hqx
              rw [up_e]
              exact ⟨fun h => absurd rfl h, fun h => absurd rfl h.1⟩
            · rw [up_n hqx]
              exact ⟨fun h => ⟨hqx, h⟩, fun h => h.2⟩
          refine hk2 true N2 ⟨fQ, ⟨fun q hq => ?_, fun q hq hsf => (eS q).2 ⟨fun e => ?_, i1.2.1 q hq hsf⟩, fun q hq h => i1.2.2 q hq ((eS q).1 h).2⟩, fun q h => i2 q ((eS q).1 h).2, fun h => (by cases h), fun _ => ⟨x, hx, i2 x h55, fun h => ((eS x).1 h).1 rfl⟩⟩
          · rw [q55]
            by_cases hqx : q = x
            · subst hqx
              rw [up_e]
              exact Or.inl rfl
            · rw [up_n hqx]
              exact i1.1 q hq
          · subst e
            rcases (sf_fix.1 hsf).2 with h | ⟨a, h3, h4⟩
            · exact ho h
            · exact hw a ⟨h3, gd_m (fun u hu => i1.2.1 u (st_lt (sf_st hu)) hu) h4⟩
        · refine go (fun _ _ _ => ?_)
          rcases Classical.not_not.1 hw with h | ⟨a, -, h⟩
          · cases h
          · exact ⟨a, h⟩
  · intro n c N hIx
    obtain ⟨f, i1, i2, i4, i5⟩ := hIx
    rw [f_X10_saves_36, i3_sn]
    simp (disch := omega) only [iL2079, i3_le]
    rw [if_pos (by omega)]
    refine hk c N f i1 (fun hc => (i4 hc).2) (fun hc => ?_)
    obtain ⟨s, g1, g2, g3⟩ := i5 hc
    exact cN_lt g2 g3 2079 g1 (fun s _ => i2 s)
theorem w_end {R : tR} {p k : Int} {N : gM} (hR : tOk R) (h : wI R p k N) (ht : ∀ s : Nat, s < 2079 → opP R s → wS N s → ∃ a, caP R p s a ∧ gdP R p (wS N) k s a) : ∀ s : Nat, s < 2079 → N.1 55 s = b2i (b_ (sfR R p k s)) := by
  obtain ⟨h1, h2, h3⟩ := h
  have key : ∀ s, (s < 2079 ∧ wS N s) → sfR R p k s := sf_max (fun s hs => by
    have hst := h3 s hs.1 hs.2
    refine ⟨hst, ?_⟩
    by_cases ho : ovP R s
    · exact Or.inl ho
    · obtain ⟨a, g1, g2⟩ := ht s hs.1 ⟨hst, ho⟩ hs.2
      exact Or.inr ⟨a, g1, (gd_c2 hR (fun t ht _ => ⟨fun h => ⟨ht, h⟩, fun h => h.2⟩)).1 g2⟩)
  intro s hs
  by_cases hsf : sfR R p k s
  · rw [b_t hsf]
    exact (h1 s hs).elim (fun h => absurd h (h2 s hs hsf)) id
  · rw [b_f hsf]
    refine (h1 s hs).elim id (fun h => absurd (key s ⟨hs, ?_⟩) hsf)
    unfold wS
    rw [h]
    decide
theorem d_s28 {R : tR} {p : Int} {h kk : Nat} (hkk : kk ≤ 6) {M0 : gM} : ∀ (n : Nat) (b : Bool) (M : gM), cN (wS M) 2079 + 1 < n → D2 R p h M → Fo [55] [] M0 M → wI R p kk M → (b = false → ∀ s : Nat, s < 2079 → opP R s → wS M s → ∃ a, caP R p s a ∧ gdP R p (wS M) kk s a) →
    wp (f_X10_saves_28 n (i3 kk) (b2i b) M) (fun _ N => Fo [55] [] M0 N ∧ ∀ s : Nat, s < 2079 → N.1 55 s = b2i (b_ (sfR R p kk s))) := by
  intro n
  induction n with
  | zero => intro b M h1; omega
  | succ n ih =>
    intro b M h1 H f hI hb
    rw [f_X10_saves_28]
    simp (disch := omega) only [b2i_0]
    refine wp_if (fun hx => ?_) (fun hx => ?_)
    · rw [wp_some]
      exact ⟨f, w_end H.1.1 hI (hb hx)⟩
    · refine d_s36 hkk H hI (fun b2 N g1 g2 g3 g4 => ?_)
      cases b2 with
      | true => exact ih true N (by have := g4 rfl; omega) (H.mv g1 (by decide) (by decide)) (f.tr g1) g2 g3
      | false =>
        cases n with
        | zero => omega
        | succ n =>
          rw [f_X10_saves_28]
          simp (disch := omega) only [b2i_0]
          rw [if_pos trivial, wp_some]
          exact ⟨f.tr g1, w_end H.1.1 g2 (g3 rfl)⟩
theorem d_saves {R : tR} {p : Int} {h kk : Nat} {M : gM} (hkk : kk ≤ 6) (H : D2 R p h M) : wp (f_X10_saves (i3 kk) M) (fun _ N => Fo [55] [] M N ∧ ∀ s : Nat, s < 2079 → N.1 55 s = b2i (b_ (sfR R p kk s))) := by
  rw [f_X10_saves]
  refine wp_lp (F := fun n x (_ : Unit) M => f_X10_saves_2 n (i3 kk) (i3 x) M) (I := fun x _ N => Fo [55] [] M N ∧ ∀ s : Nat, s < x → N.1 55 s = b2i (b_ (stP R s))) 2079 ?_ ?_ FU 0 () M (by omega) (by rw [FU_s]; omega) ⟨Fo.rf, fun s hs => by omega⟩
  · intro n x _ N hx hI hk
    obtain ⟨f, i1⟩ := hI
    rw [f_X10_saves_2, d_state (H.mv f (by decide) (by decide)).1 (by omega), g_b_some, i3_sn]
    simp (disch := omega) only [iL2079, i3_le, ck_ok, i3_tn, Int.toNat_natCast, wp_m, zb_ok]
    rw [if_neg (by omega)]
    refine hk () _ ⟨f.i (by decide) (by decide), fun s hs => ?_⟩
    rw [rI_e]
    by_cases hsx : s = x
    · subst hsx
      rw [up_e]
    · rw [up_n hsx]
      exact i1 s (by omega)
  · intro n _ N hI
    obtain ⟨f, i1⟩ := hI
    rw [f_X10_saves_2, i3_sn]
    simp (disch := omega) only [iL2079, i3_le]
    rw [if_pos (by omega)]
    have := cN_le (P := wS N) 2079
    refine d_s28 hkk FU true N (by rw [FU_s]; omega) (H.mv f (by decide) (by decide)) f ⟨fun s hs => ?_, fun s hs hsf => ?_, fun s hs hw => ?_⟩ (fun h => by cases h)
    · rw [i1 s hs]
      cases b_ (stP R s) <;> simp [b2i]
    · unfold wS
      rw [i1 s hs, b_t (sf_st hsf)]
      decide
    · apply Classical.byContradiction
      intro hst
      exact hw (by rw [i1 s hs, b_f hst]; rfl)
