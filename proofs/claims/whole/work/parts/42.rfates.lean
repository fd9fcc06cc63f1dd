/-! ===== the reference's FATES ===== -/
def D2 (R : tR) (p : Int) (h : Nat) (M : gM) : Prop := B2 R p h M ∧ TB R p M
theorem TB.mv {R : tR} {p : Int} {M M' : gM} {S J : List Nat} (H : TB R p M) (f : Fo S J M M') (hS : ∀ k ∈ S, k < 47 ∨ 50 < k) : TB R p M' := by
  intro s hs hst
  have hn : ∀ k, 47 ≤ k → k ≤ 50 → k ∉ S := fun k h1 h2 h => by have := hS k h; omega
  unfold tS
  rw [f.e1 (by decide) (hn 47 (by omega) (by omega)), f.e1 (by decide) (hn 48 (by omega) (by omega)), f.e1 (by decide) (hn 49 (by omega) (by omega)), f.e1 (by decide) (hn 50 (by omega) (by omega))]
  exact H s hs hst
theorem D2.mv {R : tR} {p : Int} {h : Nat} {M M' : gM} {S J : List Nat} (H : D2 R p h M) (f : Fo S J M M') (hS : ∀ k ∈ S, 38 ≤ k ∧ (k < 47 ∨ 50 < k)) (hJ : 13 ∉ J ∧ 47 ∉ J) : D2 R p h M' := ⟨H.1.mv f (fun k hk => (hS k hk).1) hJ, H.2.mv f (fun k hk => (hS k hk).2)⟩
theorem d_leads {R : tR} {p : Int} {h s a : Nat} {g : Int} {M : gM} (H : D2 R p h M) (hs : stP R s) (hc : caP R p s a) (hg : -12 ≤ g ∧ g ≤ 12) : f_X10_leads (i3 s) (i3 a) (i3 g) M = some (i3 (nxR R p s a g), M) := by
  have ha := ca_6 H.1.1 hc
  have hs2 := st_lt hs
  have e1 : (25 * (6 * (s : Int) + a) + g + 12).toNat = 25 * (6 * s + a) + (g + 12).toNat := by omega
  have := ((H.2 s hs2 hs).2.2 a hc.1).2 hc (g + 12).toNat (by omega)
  have e2 : (((g + 12).toNat : Nat) : Int) - 12 = g := by omega
  rw [e2] at this
  rw [f_X10_leads]
  simp (disch := omega) only [i3_lit, i3_neg, i3_add, i3_sub, i3_mul, ck_ok, i3_tn, e1, this]
theorem d_can {R : tR} {p : Int} {h s a : Nat} {M : gM} (H : D2 R p h M) (hs : stP R s) (ha : a < rNa R) : M.1 49 (6 * s + a) = b2i (b_ (caP R p s a)) := ((H.2 s (st_lt hs) hs).2.2 a ha).1
theorem d_lo {R : tR} {p : Int} {h s : Nat} {M : gM} (H : D2 R p h M) (hs : stP R s) : M.1 47 s = i3 (loR R p s) := (H.2 s (st_lt hs) hs).1
theorem d_hi {R : tR} {p : Int} {h s : Nat} {M : gM} (H : D2 R p h M) (hs : stP R s) : M.1 48 s = i3 (hiR R p s) := (H.2 s (st_lt hs) hs).2.1
/-- a loop over gusts that looks for one that fails -/
theorem gl_all {F : Nat → Int → Option (Bool × gM)} {ok : Int → Prop} {lo hi : Int} {M : gM} (hF : ∀ n g, lo ≤ g → g ≤ hi + 1 → F (n + 1) g = @ite _ (hi < g) (Classical.propDecidable _) (some (true, M)) (@ite _ (ok g) (Classical.propDecidable _) (F n (g + 1)) (some (false, M)))) : ∀ (n : Nat) (g : Int), lo ≤ g → g ≤ hi + 1 → hi + 1 - g < n → F n g = some (b_ (∀ x, g ≤ x → x ≤ hi → ok x), M) := by
  intro n
  induction n with
  | zero => intro g h1 h2 h3; omega
  | succ n ih =>
    intro g h1 h2 h3
    rw [hF n g h1 h2]
    by_cases hx : hi < g
    · rw [if_pos hx, b_t (fun x h1 h2 => by omega)]
    · rw [if_neg hx]
      by_cases ho : ok g
      · rw [if_pos ho, ih (g + 1) (by omega) (by omega) (by omega)]
        congr 2
        refine b_e ⟨fun h x h1 h2 => ?_, fun h x h1 h2 => h x (by omega) h2⟩
        by_cases hxg : x = g
        · rw [hxg]; exact ho
        · exact h x (by omega) h2
      · rw [if_neg ho, b_f (fun h => ho (h g (by omega) (by omega)))]
theorem ok_f {R : tR} {p : Int} {P : Nat → Prop} {s a : Nat} {g : Int} (h : nxR R p s a g = -2) : ¬ okP R p P s a g := fun h2 => by have := h2.1; omega
theorem ok_t {R : tR} {p : Int} {P : Nat → Prop} {s a q : Nat} {g : Int} (h : nxR R p s a g = (q : Int)) : okP R p P s a g ↔ P q := by
  unfold okP
  rw [h, Int.toNat_natCast]
  exact ⟨fun h => h.2, fun h => ⟨by omega, h⟩⟩
theorem nx_q {R : tR} (hR : tOk R) (p : Int) (s a : Nat) (g : Int) : nxR R p s a g = -2 ∨ ∃ q : Nat, nxR R p s a g = q ∧ q < 2079 ∧ stP R q := by
  rcases nx_r hR p s a g with h | h
  · exact Or.inl h
  · have h1 := h.1
    have h2 := h.2.1
    refine Or.inr ⟨(nxR R p s a g).toNat, by omega, by omega, ?_⟩
    have e : ((nxR R p s a g).toNat : Int) = nxR R p s a g := by omega
    rw [e]
    exact h
theorem gd_i {R : tR} {p : Int} {P : Nat → Prop} {s a : Nat} {k lo hi : Int} (h1 : lo = loR R p s - k) (h2 : hi = hiR R p s + k) : b_ (∀ x, lo ≤ x → x ≤ hi → okP R p P s a x) = b_ (gdP R p P k s a) := b_e ⟨fun h x h3 h4 => h x (by omega) (by omega), fun h x h3 h4 => h x (by omega) (by omega)⟩
theorem i3_m2 : ((-2) : Int32) = i3 (-2) := rfl
theorem i3_m1 : ((-1) : Int32) = i3 (-1) := rfl
theorem d_kept {R : tR} {p : Int} {h s a r : Nat} {P : Nat → Prop} {M : gM} (H : D2 R p h M) (hs : stP R s) (ha : a < rNa R) (hP : ∀ q : Nat, q < 2079 → stP R q → ((M.1 51 q = i3 (-2) ∨ i3 (r : Int) ≤ M.1 51 q) ↔ P q)) : f_X10_isKept (i3 s) (i3 a) (i3 r) M = some (b_ (caP R p s a ∧ gdP R p P 0 s a), M) := by
  have hR := H.1.1
  have hna := hR.2.1
  have hs2 := st_lt hs
  have hlh := lh_r (p := p) (s := s) hR
  have e1 : (6 * (s : Int) + a).toNat = 6 * s + a := by omega
  rw [f_X10_isKept]
  simp (disch := omega) only [iL6, i3_mul, i3_add, ck_ok, i3_tn, e1, d_can H hs ha, b2i_0, Int.toNat_natCast, d_lo H hs, g_v]
  by_cases hc : caP R p s a
  · rw [b_t hc, if_neg (by decide)]
    rw [gl_all (F := fun n g => f_X10_isKept_24 n (i3 s) (i3 a) (i3 r) (i3 g) M) (ok := okP R p P s a) (lo := loR R p s) (hi := hiR R p s) ?_ FU (loR R p s) (by omega) (by omega) (by rw [FU_s]; omega), gd_i (k := 0) (by omega) (by omega)]
    · congr 2
      exact b_e ⟨fun h => ⟨hc, h⟩, fun h => h.2⟩
    · intro n g h1 h2
      rw [f_X10_isKept_24]
      simp (disch := omega) only [ck_ok, i3_tn, Int.toNat_natCast, d_hi H hs, i3_lt]
      by_cases hx : hiR R p s < g
      · rw [if_pos hx, if_pos hx]
      · rw [if_neg hx, if_neg hx, d_leads H hs hc (by omega), g_b_some]
        rcases nx_q hR p s a g with hq | ⟨q, hq, hq2, hq3⟩
        · rw [hq, if_pos (show i3 (-2) = ((-2) : Int32) from rfl), if_neg (ok_f hq)]
        · rw [hq, i3_m2]
          simp (disch := omega) only [i3_eq]
          rw [if_neg (by omega)]
          simp (disch := omega) only [ck_ok, i3_tn, Int.toNat_natCast, iL1, i3_add]
          have e : okP R p P s a g ↔ (M.1 51 q = i3 (-2) ∨ i3 (r : Int) ≤ M.1 51 q) := (ok_t hq).trans (hP q hq2 hq3).symm
          by_cases g1 : M.1 51 q = i3 (-2)
          · rw [if_pos g1, if_pos (e.2 (Or.inl g1))]
          · rw [if_neg g1]
            by_cases g2 : i3 (r : Int) ≤ M.1 51 q
            · rw [if_pos g2, if_pos (e.2 (Or.inr g2))]
            · rw [if_neg g2, if_neg (fun h => (e.1 h).elim g1 g2)]
  · rw [b_f hc, if_pos rfl, b_f (fun h => hc h.1)]
/-- a loop over ACTS that looks for one that does -/
theorem d_f78 {R : tR} {p : Int} {h s r : Nat} {P : Nat → Prop} {M : gM} {k35 : Int32 → Int32 → Int32 → gM → Option (Unit × gM)} {x1 : Int32} (H : D2 R p h M) (hs : stP R s) (hP : ∀ q : Nat, q < 2079 → stP R q → ((M.1 51 q = i3 (-2) ∨ i3 (r : Int) ≤ M.1 51 q) ↔ P q)) : ∀ (n a : Nat) (b : Bool), a ≤ rNa R → rNa R < n + a →
    f_X10_fates_78 k35 n x1 (i3 r) (i3 s) (b2i b) (i3 a) M = f_X10_fates_108 k35 x1 (i3 r) (i3 s) (b2i (b_ (b = true ∨ ∃ c, a ≤ c ∧ caP R p s c ∧ gdP R p P 0 s c))) M := by
  have hR := H.1.1
  have hna := hR.2.1
  intro n
  induction n with
  | zero => intro a b h1 h2; omega
  | succ n ih =>
    intro a b h1 h2
    rw [f_X10_fates_78, d_acts H.1, g_b_some]
    simp (disch := omega) only [i3_le]
    by_cases hx : (rNa R : Int) ≤ a
    · rw [if_pos hx]
      congr 2
      cases b with
      | true => exact (b_t (Or.inl rfl)).symm
      | false => exact (b_f (fun h => h.elim (fun h => by cases h) (fun ⟨c, h1, h2, _⟩ => by have := h2.1; omega))).symm
    · rw [if_neg hx]
      simp (disch := omega) only [b2i_0]
      cases b with
      | true => rw [if_neg (by decide), b_t (Or.inl rfl)]
      | false =>
        rw [if_pos rfl, d_kept H hs (by omega) hP, g_b_some, i3_sn, g_v, ih (a + 1) _ (by omega) (by omega)]
        congr 2
        refine b_e ⟨fun h => Or.inr (h.elim (fun h => ⟨a, Nat.le_refl _, b_i.mp h⟩) (fun ⟨c, h1, h2⟩ => ⟨c, by omega, h2⟩)), fun h => ?_⟩
        rcases h with h | ⟨c, q1, q2⟩
        · cases h
        · by_cases hca : c = a
          · subst hca
            exact Or.inl (b_i.mpr q2)
          · exact Or.inr ⟨c, by omega, q2⟩
def gB (R : tR) (p : Int) (r : Nat) (N : gM) (s : Nat) : Prop := (wfR R p 0 r s ∧ N.1 51 s = i3 (-2)) ∨ ∃ n : Nat, n < r ∧ wfR R p 0 n s ∧ ¬ wfR R p 0 (n + 1) s ∧ N.1 51 s = i3 n
def gS (R : tR) (p : Int) (r : Nat) (N : gM) (s : Nat) : Prop := (wfR R p 0 r s ∧ N.1 51 s = i3 (-2)) ∨ ∃ n : Nat, n ≤ r ∧ wfR R p 0 n s ∧ ¬ wfR R p 0 (n + 1) s ∧ N.1 51 s = i3 n
theorem gS.fl {R : tR} {p : Int} {r s : Nat} {N : gM} (hr : r ≤ 5000) (h : gS R p r N s) : (N.1 51 s = i3 (-2) ∨ i3 (r : Int) ≤ N.1 51 s) ↔ wfR R p 0 r s := by
  rcases h with ⟨h1, h2⟩ | ⟨n, h2, h3, h4, h5⟩
  · exact ⟨fun _ => h1, fun _ => Or.inl h2⟩
  · rw [h5]
    simp (disch := omega) only [i3_le, i3_eq]
    constructor
    · intro h
      have : n = r := by omega
      subst this
      exact h3
    · intro h
      by_cases hn : n = r
      · omega
      · exact absurd (wf_le (by omega) h) h4
theorem d_f35 {R : tR} {p : Int} {h r : Nat} {M : gM} {k27 : Int32 → Int32 → gM → Option (Unit × gM)} {Q : Unit → gM → Prop} (hr : r ≤ 2080) (H : D2 R p h M) (hB : ∀ s : Nat, s < 2079 → stP R s → gB R p r M s)
    (hk : ∀ (b : Bool) N, Fo [51] [] M N → (∀ s : Nat, s < 2079 → stP R s → gB R p (r + 1) N s) → (b = false → ∀ s, wfR R p 0 r s → wfR R p 0 (r + 1) s) → (b = true → ∃ s, wfR R p 0 r s ∧ ¬ wfR R p 0 (r + 1) s) → wp (k27 (b2i b) (i3 ((r + 1 : Nat) : Int)) N) Q) :
    wp (f_X10_fates_35 k27 FU (b2i false) (i3 r) (i3 ((0 : Nat) : Int)) M) Q := by
  have hR := H.1.1
  refine wp_lp (F := fun n x (c : Bool) M => f_X10_fates_35 k27 n (b2i c) (i3 r) (i3 x) M)
    (I := fun x c N => Fo [51] [] M N ∧ (∀ s : Nat, s < 2079 → stP R s → gS R p r N s) ∧ (∀ s : Nat, s < x → stP R s → gB R p (r + 1) N s) ∧ (c = false → ∀ s : Nat, s < x → wfR R p 0 r s → wfR R p 0 (r + 1) s) ∧ (c = true → ∃ s, wfR R p 0 r s ∧ ¬ wfR R p 0 (r + 1) s) ∧ ∀ s, x ≤ s → N.1 51 s = M.1 51 s) 2079 ?_ ?_ FU 0 false M (by omega) (by rw [FU_s]; omega) ⟨Fo.rf, fun s hs hst => ?_, fun s hs => by omega, fun _ s hs => by omega, fun h => (by cases h), fun _ _ => rfl⟩
  · intro n x c N hx hI hk2
    obtain ⟨f, i1, i2, i4, i5, i6⟩ := hI
    have H1 := H.mv f (by decide) (by decide)
    rw [f_X10_fates_35, d_state H1.1 (by omega), g_b_some]
    simp (disch := omega) only [b_if]
    simp only [i3_sn]
    simp (disch := omega) only [iL2079, i3_le, ck_ok, i3_tn, Int.toNat_natCast]
    rw [if_neg (by omega)]
    -- nothing to do
    have go : (stP R x → gB R p (r + 1) N x) → (wfR R p 0 r x → wfR R p 0 (r + 1) x) → wp (f_X10_fates_35 k27 n (b2i c) (i3 r) (i3 ((x + 1 : Nat) : Int)) N) Q := by
      intro g1 g2
      refine hk2 c N ⟨f, i1, fun s hs hst => ?_, fun hc s hs => ?_, i5, fun s hs => i6 s (by omega)⟩
      · by_cases hsx : s = x
        · subst hsx; exact g1 hst
        · exact i2 s (by omega) hst
      · by_cases hsx : s = x
        · subst hsx; exact g2
        · exact i4 hc s (by omega)
    refine wp_if (fun hst => ?_) (fun hst => ?_)
    · refine wp_if (fun h51 => ?_) (fun h51 => ?_)
      · have hw : wfR R p 0 r x := ((i1 x hx hst).fl (by omega)).1 (Or.inl h51)
        rw [d_over H1.1 hx, g_b_some]
        simp (disch := omega) only [b_if]
        refine wp_if (fun ho => ?_) (fun ho => ?_)
        · exact go (fun _ => Or.inl ⟨wf_ov hst ho _, h51⟩) (fun _ => wf_ov hst ho _)
        · have := d_f78 (k35 := f_X10_fates_35 k27 n) (x1 := b2i c) H1 hst (P := wfR R p 0 r) (fun q hq hq2 => (i1 q hq hq2).fl (by omega)) FU 0 false (by omega) (by have := hR.2.1; rw [FU_s]; omega)
          rw [show f_X10_fates_78 (f_X10_fates_35 k27 n) FU (b2i c) (i3 (r : Int)) (i3 (x : Int)) (0 : Int32) (0 : Int32) N = _ from this, f_X10_fates_108]
          simp (disch := omega) only [b2i_0, b_ifn]
          rw [i3_sn]
          have ew : wfR R p 0 (r + 1) x ↔ (false = true ∨ ∃ c, 0 ≤ c ∧ caP R p x c ∧ gdP R p (wfR R p 0 r) 0 x c) := ⟨fun h => Or.inr (h.2.elim (fun h => absurd h ho) (fun ⟨a, h1⟩ => ⟨a, Nat.zero_le _, h1⟩)), fun h => h.elim (fun h => by cases h) (fun ⟨a, _, h1⟩ => ⟨hst, Or.inr ⟨a, h1⟩⟩)⟩
          rw [← ew]
          refine wp_if (fun hw1 => ?_) (fun hw1 => ?_)
          · rw [ck_ok (by omega) (by omega) (by omega), wp_m, i3_tn (by omega) (by omega), Int.toNat_natCast]
            have q51 : (sI N 51 x (i3 r)).1 51 = upd (N.1 51) x (i3 r) := rI_e
            have fQ : Fo [51] [] M (sI N 51 x (i3 r)) := f.i (by decide) (by decide)
            generalize sI N 51 x (i3 r) = N2 at q51 fQ ⊢
            refine hk2 true N2 ⟨fQ, fun s hs hst => ?_, fun s hs hst => ?_, fun h => (by cases h), fun _ => ⟨x, hw, hw1⟩, fun s hs => by rw [q51, up_n (by omega)]; exact i6 s (by omega)⟩
            · by_cases hsx : s = x
              · subst hsx
                exact Or.inr ⟨r, Nat.le_refl _, hw, hw1, by rw [q51, up_e]⟩
              · unfold gS
                rw [q51, up_n hsx]
                exact i1 s hs hst
            · by_cases hsx : s = x
              · subst hsx
                exact Or.inr ⟨r, by omega, hw, hw1, by rw [q51, up_e]⟩
              · unfold gB
                rw [q51, up_n hsx]
                exact i2 s (by omega) hst
          · have hw2 : wfR R p 0 (r + 1) x := Classical.not_not.1 hw1
            exact go (fun _ => Or.inl ⟨hw2, h51⟩) (fun _ => hw2)
      · have e51 := i6 x (Nat.le_refl _)
        rcases hB x hx hst with h | ⟨n, h1, h2, h3, h4⟩
        · exact absurd (e51.trans h.2) h51
        · exact go (fun _ => Or.inr ⟨n, by omega, h2, h3, e51.trans h4⟩) (fun hw => absurd (wf_le (by omega) hw) h3)
    · exact go (fun h => absurd h hst) (fun h => absurd (wf_st h) hst)
  · intro n c N hI
    obtain ⟨f, i1, i2, i4, i5, i6⟩ := hI
    rw [f_X10_fates_35, i3_sn]
    simp (disch := omega) only [iL2079, i3_le]
    rw [if_pos (by omega)]
    exact hk c N f i2 (fun hc s hw => i4 hc s (st_lt (wf_st hw)) hw) i5
  · exact (hB s hs hst).elim Or.inl (fun ⟨n, h1, h2⟩ => Or.inr ⟨n, by omega, h2⟩)
theorem d_frounds {R : tR} {p : Int} {h : Nat} {M0 : gM} : ∀ (n r : Nat) (b : Bool) (M : gM), r ≤ 2080 → 2080 < n + r → D2 R p h M → Fo [51] [] M0 M → (∀ s : Nat, s < 2079 → stP R s → gB R p r M s) → (b = false → 1 ≤ r ∧ ∀ s, wfR R p 0 (r - 1) s → wfR R p 0 r s) → (b = true → r ≤ 2079) →
    wp (f_X10_fates_27 n (b2i b) (i3 r) M) (fun _ N => Fo [51] [] M0 N ∧ ∀ s : Nat, s < 2079 → stP R s → N.1 51 s = i3 (faR R p s)) := by
  intro n
  induction n with
  | zero => intro r b M h1 h2; omega
  | succ n ih =>
    intro r b M h1 h2 H f hB hb1 hb2
    rw [f_X10_fates_27]
    simp (disch := omega) only [b2i_0]
    refine wp_if (fun hx => ?_) (fun hx => ?_)
    · obtain ⟨g1, g2⟩ := hb1 hx
      rw [wp_some]
      refine ⟨f, fun s hs hst => ?_⟩
      rcases hB s hs hst with ⟨q1, q2⟩ | ⟨m, q1, q2, q3, q4⟩
      · have hsf : sfR R p 0 s := by
          obtain ⟨r', rfl⟩ : ∃ r', r = r' + 1 := ⟨r - 1, by omega⟩
          have up : ∀ j, ∀ s, wfR R p 0 (r' + j) s → wfR R p 0 (r' + j + 1) s := by
            intro j
            induction j with
            | zero => exact g2
            | succ j ihj => exact fun s hs => wf_fix _ (fun s _ => ihj s) s (st_lt (wf_st hs)) hs
          have all : ∀ j, wfR R p 0 (r' + j) s := by
            intro j
            induction j with
            | zero => exact wf_d _ _ q1
            | succ j ihj => exact up j s ihj
          exact fun m => wf_le (by omega) (all m)
        rw [q2, show faR R p s = -2 from leA_d (fun n _ hn => hn (hsf _))]
      · rw [q4, fa_e q2 q3]
    · have hx : b = true := by cases b <;> simp_all
      have hr := hb2 hx
      refine d_f35 (by omega) H hB (fun b2 N g1 g2 g3 g4 => ?_)
      refine ih (r + 1) b2 N (by omega) (by omega) (H.mv g1 (by decide) (by decide)) (f.tr g1) g2 (fun hb => ⟨by omega, g3 hb⟩) (fun hb => ?_)
      obtain ⟨s, q1, q2⟩ := g4 hb
      by_cases hr2 : r = 2079
      · subst hr2
        exact absurd (sf_of q1 _) q2
      · omega
def gOk (R : tR) (p : Int) (N : gM) : Prop := ∀ s : Nat, s < 2079 → stP R s → N.1 51 s = i3 (faR R p s)
theorem d_fates {R : tR} {p : Int} {h : Nat} {M : gM} (H : D2 R p h M) : wp (f_X10_fates M) (fun _ N => Fo [51] [] M N ∧ gOk R p N) := by
  rw [f_X10_fates]
  refine wp_lp (F := fun n x (_ : Unit) M => f_X10_fates_2 n (i3 x) M) (I := fun x _ N => Fo [51] [] M N ∧ ∀ s : Nat, s < x → N.1 51 s = i3 (-2)) 2079 ?_ ?_ FU 0 () M (by omega) (by rw [FU_s]; omega) ⟨Fo.rf, fun s hs => by omega⟩
  · intro n x _ N hx hI hk
    obtain ⟨f, i1⟩ := hI
    rw [f_X10_fates_2, i3_sn]
    simp (disch := omega) only [iL2079, i3_le, ck_ok, i3_tn, Int.toNat_natCast, wp_m]
    rw [if_neg (by omega)]
    refine hk () _ ⟨f.i (by decide) (by decide), fun s hs => ?_⟩
    rw [rI_e]
    by_cases hsx : s = x
    · subst hsx
      rw [up_e]
      rfl
    · rw [up_n hsx]
      exact i1 s (by omega)
  · intro n _ N hI
    obtain ⟨f, i1⟩ := hI
    rw [f_X10_fates_2, i3_sn]
    simp (disch := omega) only [iL2079, i3_le]
    rw [if_pos (by omega)]
    exact d_frounds FU 0 true N (by omega) (by rw [FU_s]; omega) (H.mv f (by decide) (by decide)) f (fun s hs hst => Or.inl ⟨hst, i1 s hs⟩) (fun h => by cases h) (fun _ => by omega)
/-! ===== laying ===== -/
def lI (R : tR) (p : Int) (M : gM) : Prop := M.1 0 72 = 0 ∨ (M.1 0 72 = 1 ∧ TB R p M ∧ gOk R p M)
abbrev jL : List Nat := [64, 65, 66, 67, 68, 69, 70, 72, 74, 75, 76]
theorem d_lay {R : tR} {p : Int} {h : Nat} {M : gM} (H : B2 R p h M) (hl : lI R p M) : wp (f_X10_lay M) (fun _ N => Fo (cTb ++ [51]) jL M N ∧ D2 R p h N ∧ gOk R p N ∧ N.1 0 72 = 1 ∧ ((M.1 0 72 = 1 ∧ N = M) ∨ (M.1 0 72 = 0 ∧ N.1 0 74 = 0 ∧ N.1 0 75 = 0 ∧ N.1 0 76 = 0))) := by
  rw [f_X10_lay]
  rcases hl with hl | ⟨hl, h2, h3⟩
  · rw [if_pos hl]
    simp only [wp_m]
    have f1 : Fo [] [72, 74, 75, 76] M (sI (sI (sI (sI M 0 72 1) 0 74 0) 0 75 0) 0 76 0) := (((Fo.rf.o (by decide)).o (by decide)).o (by decide)).o (by decide)
    have e1 : (sI (sI (sI (sI M 0 72 1) 0 74 0) 0 75 0) 0 76 0).1 0 72 = 1 ∧ (sI (sI (sI (sI M 0 72 1) 0 74 0) 0 75 0) 0 76 0).1 0 74 = 0 ∧ (sI (sI (sI (sI M 0 72 1) 0 74 0) 0 75 0) 0 76 0).1 0 75 = 0 ∧ (sI (sI (sI (sI M 0 72 1) 0 74 0) 0 75 0) 0 76 0).1 0 76 = 0 := by
      simp only [rI_e, up_x]
      simp
    generalize sI (sI (sI (sI M 0 72 1) 0 74 0) 0 75 0) 0 76 0 = M1 at f1 e1 ⊢
    have H1 := H.mv f1 (by decide) (by decide)
    refine wp_b _ (d_layAll H1) (fun _ N hN => ?_)
    obtain ⟨f2, hT⟩ := hN
    have H2 : D2 R p h N := ⟨H1.mv f2 (by decide) (by decide), hT⟩
    refine wp_b _ (d_fates H2) (fun _ N2 hN => ?_)
    obtain ⟨f3, hG⟩ := hN
    rw [wp_some]
    have f23 : Fo (cTb ++ [51]) jV M1 N2 := (f2.up (by decide) (by decide)).tr (f3.up (by decide) (by decide))
    refine ⟨(f1.up (by decide) (by decide)).tr (f23.up (by decide) (by decide)), H2.mv f3 (by decide) (by decide), hG, ?_, Or.inr ⟨hl, ?_, ?_, ?_⟩⟩
    · rw [f23.e0 (by decide), e1.1]
    · rw [f23.e0 (by decide), e1.2.1]
    · rw [f23.e0 (by decide), e1.2.2.1]
    · rw [f23.e0 (by decide), e1.2.2.2]
  · rw [if_neg (show ¬ M.1 0 72 = 0 by rw [hl]; decide), wp_some]
    exact ⟨Fo.rf, ⟨H, h2⟩, h3, hl, Or.inl ⟨hl, rfl⟩⟩
