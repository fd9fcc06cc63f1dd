theorem b2i_i1 (b : Bool) : (b2i b = i3 1) = (b = true) := b2i_1 b
theorem b2i_i0 (b : Bool) : (b2i b = i3 0) = (b = false) := b2i_0 b
/-! ===== BORNE ===== -/
noncomputable def boN (R : tR) (p : Int) (s : Nat) : Nat → Int
  | 0 => @ite _ (sfR R p 0 s) (Classical.propDecidable _) 0 (-2)
  | k + 1 => @ite _ (sfR R p ((k + 1 : Nat) : Int) s) (Classical.propDecidable _) ((k + 1 : Nat) : Int) (boN R p s k)
noncomputable def boR (R : tR) (p : Int) (s : Nat) : Int := boN R p s 6
theorem bo_t {R : tR} {p : Int} {s k : Nat} (h : sfR R p (k : Int) s) : boN R p s k = k := by
  cases k with
  | zero => rw [boN, if_pos (show sfR R p 0 s from h)]; rfl
  | succ k => rw [boN, if_pos h]
theorem bo_f {R : tR} {p : Int} {s k : Nat} (h : ¬ sfR R p ((k + 1 : Nat) : Int) s) : boN R p s (k + 1) = boN R p s k := by rw [boN, if_neg h]
theorem bo_lt {R : tR} {p : Int} {s : Nat} : ∀ k : Nat, ¬ sfR R p (k : Int) s → -2 ≤ boN R p s k ∧ boN R p s k < k := by
  intro k
  induction k with
  | zero => intro h; rw [boN, if_neg (show ¬ sfR R p 0 s from h)]; omega
  | succ k ih =>
    intro h
    rw [bo_f h]
    by_cases hk : sfR R p (k : Int) s
    · rw [bo_t hk]; omega
    · have := ih hk
      omega
theorem bo_r {R : tR} {p : Int} {s k : Nat} : -2 ≤ boN R p s k ∧ boN R p s k ≤ k := by
  by_cases h : sfR R p (k : Int) s
  · rw [bo_t h]; omega
  · have := bo_lt k h
    omega
theorem bo_st {R : tR} {p : Int} {s f : Nat} (h : ¬ sfR R p (f : Int) s) : ∀ k : Nat, f ≤ k → boN R p s k = boN R p s f := by
  intro k hk
  induction k with
  | zero => rw [Nat.le_zero.1 hk]
  | succ k ih =>
    by_cases hf : f = k + 1
    · rw [hf]
    · rw [bo_f (fun hs => h (sf_k (by omega) hs)), ih (by omega)]
theorem sf_ov {R : tR} {p k : Int} {s : Nat} (h1 : stP R s) (h2 : ovP R s) : sfR R p k s := fun n => wf_ov h1 h2 n
noncomputable def bcR (R : tR) (p : Int) (f s : Nat) : Int := @ite _ (stP R s ∧ ovP R s) (Classical.propDecidable _) 6 (boN R p s f)
theorem bc_r {R : tR} {p : Int} {f s : Nat} (hf : f ≤ 6) : -2 ≤ bcR R p f s ∧ bcR R p f s ≤ 6 := by
  have := bo_r (R := R) (p := p) (s := s) (k := f)
  unfold bcR
  split <;> omega
theorem bc_ge {R : tR} {p : Int} {f s : Nat} (hf : f ≤ 6) : (f : Int) ≤ bcR R p f s ↔ sfR R p f s := by
  unfold bcR
  split
  · next h => exact ⟨fun _ => sf_ov h.1 h.2, fun _ => by omega⟩
  · by_cases h : sfR R p (f : Int) s
    · rw [bo_t h]
      exact ⟨fun _ => h, fun _ => by omega⟩
    · have := bo_lt f h
      exact ⟨fun h => by omega, fun h2 => absurd h2 h⟩
theorem bc_eq {R : tR} {p : Int} {f s : Nat} (hf : f ≤ 5) : bcR R p f s = f ↔ opP R s ∧ sfR R p f s := by
  unfold bcR
  split
  · next h => exact ⟨fun h => by omega, fun h2 => absurd h.2 h2.1.2⟩
  · next h0 =>
    by_cases h : sfR R p (f : Int) s
    · rw [bo_t h]
      exact ⟨fun _ => ⟨⟨sf_st h, fun ho => h0 ⟨sf_st h, ho⟩⟩, h⟩, fun _ => rfl⟩
    · have := bo_lt f h
      exact ⟨fun h => by omega, fun h2 => absurd h2.2 h⟩
theorem bc_end {R : tR} {p : Int} {f s : Nat} (hf : f ≤ 6) (h : f = 6 ∨ bcR R p f s ≠ f) : bcR R p f s = boR R p s := by
  unfold boR
  by_cases ho : stP R s ∧ ovP R s
  · unfold bcR
    rw [if_pos ho, bo_t (k := 6) (sf_ov ho.1 ho.2)]
    rfl
  · have e : bcR R p f s = boN R p s f := by unfold bcR; rw [if_neg ho]
    rw [e] at h ⊢
    rcases h with h | h
    · rw [h]
    · have hn : ¬ sfR R p (f : Int) s := fun hs => h (bo_t hs)
      rw [bo_st hn 6 hf]
def bI (R : tR) (p : Int) (M : gM) : Prop := M.1 37 12 = i3 (-1) ∨ ∃ f : Nat, f ≤ 6 ∧ M.1 37 12 = i3 f ∧ ∀ s : Nat, s < 2079 → M.1 42 s = i3 (bcR R p f s)
abbrev cBr : List Nat := cBt ++ [37, 42, 44, 45, 46]
theorem k_b177 {R : tR} {p : Int} {t st f s0 : Nat} {k74 : Int32 → Int32 → gM → Option (Int32 × gM)} {Q : Int32 → gM → Prop} {M : gM} (hf : f ≤ 5) (hC : CB R p t st M) (h42 : ∀ s : Nat, s < 2079 → M.1 42 s = i3 (bcR R p f s)) (h44 : ∀ s : Nat, s < 2079 → M.1 44 s = b2i (b_ (sfR R p ((f + 1 : Nat) : Int) s)))
    (hk : ∀ N, CB R p t st N → Fr [37, 42] M N → N.1 37 12 = i3 ((f + 1 : Nat) : Int) → (∀ j, j ≠ 12 → N.1 37 j = M.1 37 j) → (∀ s : Nat, s < 2079 → N.1 42 s = i3 (bcR R p (f + 1) s)) → wp (k74 (i3 s0) (i3 ((f + 1 + 1 : Nat) : Int)) N) Q) :
    wp (f_X5_bearing_177 k74 FU (i3 s0) (i3 ((f + 1 : Nat) : Int)) (i3 ((0 : Nat) : Int)) M) Q := by
  refine wp_lp (F := fun n x (_ : Unit) M => f_X5_bearing_177 k74 n (i3 s0) (i3 ((f + 1 : Nat) : Int)) (i3 x) M) (I := fun x _ N => CB R p t st N ∧ Fr [42] M N ∧ (∀ s : Nat, s < x → N.1 42 s = i3 (bcR R p (f + 1) s)) ∧ ∀ s : Nat, x ≤ s → N.1 42 s = M.1 42 s) 2079 ?_ ?_ FU 0 () M (by omega) (by rw [FU_s]; omega) ⟨hC, Fr.rf, fun s hs => by omega, fun _ _ => rfl⟩
  · intro n x _ N hx hI hk2
    obtain ⟨i1, fr, i4, i5⟩ := hI
    have e42 : N.1 42 x = i3 (bcR R p f x) := by rw [i5 x (Nat.le_refl _), h42 x hx]
    have e44 : N.1 44 x = b2i (b_ (sfR R p ((f + 1 : Nat) : Int) x)) := by rw [fr.e1 (by decide), h44 x hx]
    have hr := bc_r (R := R) (p := p) (f := f) (s := x) (by omega)
    rw [f_X5_bearing_177]
    rw [show i3 (x : Int) + 1 = i3 ((x + 1 : Nat) : Int) from i3_sn x]
    simp (disch := omega) only [iL2079, i3_le, ck_ok, i3_tn, Int.toNat_natCast, e42, e44, b2i_1, b2i_i1, b_if, iL1, i3_sub, wp_m]
    rw [if_neg (by omega)]
    have er : ((f + 1 : Nat) : Int) - 1 = f := by omega
    rw [er]
    simp (disch := omega) only [i3_eq]
    have fin : ∀ v : Int, v = bcR R p (f + 1) x → wp (f_X5_bearing_177 k74 n (i3 s0) (i3 ((f + 1 : Nat) : Int)) (i3 ((x + 1 : Nat) : Int)) (sI N 42 x (i3 v))) Q := by
      intro v hv
      refine hk2 () _ ⟨i1.mv (S := [42]) (Fr.rf.i (by decide)) (by decide), fr.i (by decide), fun s hs => ?_, fun s hs => ?_⟩
      · rw [rI_e]
        by_cases hsx : s = x
        · subst hsx
          rw [up_e, hv]
        · rw [up_n hsx]
          exact i4 s (by omega)
      · rw [rI_e, up_n (by omega)]
        exact i5 s (by omega)
    have hov : stP R x ∧ ovP R x → bcR R p (f + 1) x = 6 := fun h => by unfold bcR; rw [if_pos h]
    have hno : ¬ (stP R x ∧ ovP R x) → bcR R p (f + 1) x = boN R p x (f + 1) := fun h => by unfold bcR; rw [if_neg h]
    have hno2 : ¬ (stP R x ∧ ovP R x) → bcR R p f x = boN R p x f := fun h => by unfold bcR; rw [if_neg h]
    refine wp_if (fun h1 => ?_) (fun h1 => ?_)
    · refine wp_if (fun h2 => ?_) (fun h2 => ?_)
      · refine fin _ ?_
        have := (bc_eq hf).1 h2
        rw [hno (fun h => this.1.2 h.2), bo_t h1]
      · refine fin _ ?_
        by_cases ho : stP R x ∧ ovP R x
        · rw [hov ho]
          unfold bcR
          rw [if_pos ho]
        · exact absurd ((bc_eq hf).2 ⟨⟨sf_st h1, fun h => ho ⟨sf_st h1, h⟩⟩, sf_k (by omega) h1⟩) h2
    · refine fin _ ?_
      have ho : ¬ (stP R x ∧ ovP R x) := fun h => h1 (sf_ov h.1 h.2)
      rw [hno ho, hno2 ho, bo_f h1]
  · intro n _ N hI
    obtain ⟨i1, fr, i4, i5⟩ := hI
    rw [f_X5_bearing_177]
    rw [show i3 ((f + 1 : Nat) : Int) + 1 = i3 ((f + 1 + 1 : Nat) : Int) from i3_sn (f + 1)]
    simp (disch := omega) only [iL2079, i3_le]
    rw [if_pos (by omega), wp_m]
    refine hk _ (i1.mv (S := [37]) (Fr.rf.i (by decide)) (by decide)) ((fr.up (by decide)).i (by decide)) (by rw [rI_e, up_e]) (fun j hj => by rw [rI_e, up_n hj, fr.e1 (by decide)]) (fun s hs => ?_)
    rw [rI_n (by decide)]
    exact i4 s hs
theorem k_b97 {R : tR} {p : Int} {t st f s0 : Nat} {k74 : Int32 → Int32 → gM → Option (Int32 × gM)} {Q : Int32 → gM → Prop} {M : gM} (hf : f ≤ 5) (hC : CB R p t st M) (h42 : ∀ s : Nat, s < 2079 → M.1 42 s = i3 (bcR R p f s))
    (hk : ∀ N, CB R p t st N → Fr cBr M N → N.1 37 12 = i3 ((f + 1 : Nat) : Int) → (∀ j, j ≠ 12 → N.1 37 j = M.1 37 j) → (∀ s : Nat, s < 2079 → N.1 42 s = i3 (bcR R p (f + 1) s)) → wp (k74 (i3 s0) (i3 ((f + 1 + 1 : Nat) : Int)) N) Q) :
    wp (f_X5_bearing_97 k74 FU (i3 s0) (i3 ((f + 1 : Nat) : Int)) (i3 ((0 : Nat) : Int)) (i3 ((0 : Nat) : Int)) M) Q := by
  have hR := hC.1.1
  refine wp_lp (F := fun n x (c : Nat) M => f_X5_bearing_97 k74 n (i3 s0) (i3 ((f + 1 : Nat) : Int)) (i3 c) (i3 x) M) (I := fun x c N => c ≤ x ∧ CB R p t st N ∧ Fr [44, 45, 46] M N ∧ (∀ s : Nat, s < x → N.1 44 s = b2i (b_ (sfR R p (f : Int) s)) ∧ N.1 45 s = i3 0) ∧ (∀ i : Nat, i < c → ∃ s : Nat, s < 2079 ∧ N.1 46 i = i3 s ∧ opP R s) ∧ ∀ s : Nat, s < x → opP R s → sfR R p (f : Int) s → ∃ i, i < c ∧ N.1 46 i = i3 s) 2079 ?_ ?_ FU 0 0 M (by omega) (by rw [FU_s]; omega) ⟨by omega, hC, Fr.rf, fun s hs => by omega, fun i hi => by omega, fun s hs => by omega⟩
  · intro n x c N hx hI hk2
    obtain ⟨i0, i1, fr, i4, i5, i6⟩ := hI
    have e42 : N.1 42 x = i3 (bcR R p f x) := by rw [fr.e1 (by decide), h42 x hx]
    have hr := bc_r (R := R) (p := p) (f := f) (s := x) (by omega)
    have er : ((f + 1 : Nat) : Int) - 1 = f := by omega
    rw [f_X5_bearing_97]
    simp (disch := omega) only [iL2079, i3_le, ck_ok, i3_tn, Int.toNat_natCast, e42, iL1, i3_sub, er, i3_lt]
    rw [if_neg (by omega)]
    have fin : ∀ v : Bool, v = b_ (sfR R p (f : Int) x) → wp (f_X5_bearing_129 (f_X5_bearing_97 k74 n) (i3 s0) (i3 ((f + 1 : Nat) : Int)) (i3 c) (i3 x) (i3 x) (b2i v) N) Q := by
      intro v hv
      rw [f_X5_bearing_129]
      simp only [i3_sn]
      simp (disch := omega) only [ck_ok, i3_tn, Int.toNat_natCast, wp_m]
      have q42 : (sI (sI N 44 x (b2i v)) 45 x 0).1 42 x = i3 (bcR R p f x) := by rw [rI_n (by decide), rI_n (by decide), e42]
      have q44 : (sI (sI N 44 x (b2i v)) 45 x 0).1 44 = upd (N.1 44) x (b2i v) := by rw [rI_n (by decide), rI_e]
      have q45 : (sI (sI N 44 x (b2i v)) 45 x 0).1 45 = upd (N.1 45) x 0 := by rw [rI_e, rI_n (by decide)]
      have q46 : (sI (sI N 44 x (b2i v)) 45 x 0).1 46 = N.1 46 := by rw [rI_n (by decide), rI_n (by decide)]
      have fQ : Fr [44, 45, 46] M (sI (sI N 44 x (b2i v)) 45 x 0) := (fr.i (by decide)).i (by decide)
      have hCQ : CB R p t st (sI (sI N 44 x (b2i v)) 45 x 0) := i1.mv (S := [44, 45]) ((Fr.rf.i (by decide)).i (by decide)) (by decide)
      generalize sI (sI N 44 x (b2i v)) 45 x 0 = N2 at q42 q44 q45 q46 fQ hCQ ⊢
      have tabs : ∀ N3 : gM, N3.1 44 = N2.1 44 → N3.1 45 = N2.1 45 → ∀ s : Nat, s < x + 1 → N3.1 44 s = b2i (b_ (sfR R p (f : Int) s)) ∧ N3.1 45 s = i3 0 := by
        intro N3 e1 e2 s hs
        rw [e1, e2, q44, q45]
        by_cases hsx : s = x
        · subst hsx
          rw [up_e, up_e, hv]
          exact ⟨rfl, rfl⟩
        · rw [up_n hsx, up_n hsx]
          exact i4 s (by omega)
      rw [q42, iL1, i3_sub, er]
      simp (disch := omega) only [i3_eq]
      refine wp_if (fun h1 => ?_) (fun h1 => ?_)
      · rw [wp_m]
        have ho := (bc_eq hf).1 h1
        refine hk2 (c + 1) _ ⟨by omega, hCQ.mv (S := [46]) (Fr.rf.i (by decide)) (by decide), fQ.i (by decide), tabs _ (rI_n (by decide)) (rI_n (by decide)), fun i hi => ?_, fun s hs h2 h3 => ?_⟩
        · rw [rI_e, q46]
          by_cases hic : i = c
          · subst hic
            exact ⟨x, hx, up_e, ho.1⟩
          · rw [up_n hic]
            exact i5 i (by omega)
        · rw [rI_e, q46]
          by_cases hsx : s = x
          · subst hsx
            exact ⟨c, by omega, up_e⟩
          · obtain ⟨i, g1, g2⟩ := i6 s (by omega) h2 h3
            exact ⟨i, by omega, by rw [up_n (by omega), g2]⟩
      · refine hk2 c N2 ⟨by omega, hCQ, fQ, tabs N2 rfl rfl, fun i hi => by rw [q46]; exact i5 i hi, fun s hs h2 h3 => ?_⟩
        by_cases hsx : s = x
        · subst hsx
          exact absurd ((bc_eq hf).2 ⟨h2, h3⟩) h1
        · rw [q46]
          exact i6 s (by omega) h2 h3
    have hge := bc_ge (R := R) (p := p) (f := f) (s := x) (by omega)
    refine wp_if (fun h1 => ?_) (fun h1 => ?_)
    · exact fin false (by rw [b_f (fun h => by have := hge.2 h; omega)])
    · exact fin true (by rw [b_t (hge.1 (by omega))])
  · intro n c N hI
    obtain ⟨i0, i1, fr, i4, i5, i6⟩ := hI
    rw [f_X5_bearing_97]
    simp (disch := omega) only [iL2079, i3_le]
    rw [if_pos (by omega)]
    have hS : ∀ s : Nat, s < 2079 → (vS N s ↔ sfR R p (f : Int) s) := by
      intro s hs
      unfold vS
      rw [(i4 s hs).1]
      by_cases h : sfR R p (f : Int) s
      · rw [b_t h]; exact ⟨fun _ => h, fun _ => rfl⟩
      · rw [b_f h]; exact ⟨fun h2 => absurd h2 (by decide), fun h2 => absurd h2 h⟩
    refine wp_b _ (show wp (f_X5_shrink (i3 c) (i3 ((f + 1 : Nat) : Int)) N) _ from k_shrink (kk := f + 1) (by omega) (M0 := N) FU 0 c true N (by omega) (by rw [FU_s]; omega) i1 Fr.rf ⟨fun s hs => ?_, fun s hs h => (hS s hs).2 (sf_k (by omega) h), fun s hs h => sf_st ((hS s hs).1 h), fun s hs => ⟨0, (i4 s hs).2, by omega, fun a _ _ => Nat.zero_le _⟩⟩ ⟨by omega, i5, fun s hs h1 h2 => i6 s hs h1 ((hS s hs).1 h2)⟩ (fun _ => by omega) (fun h => by cases h)) (fun _ N2 hN => ?_)
    · by_cases h : sfR R p (f : Int) s
      · exact Or.inr ((hS s hs).2 h)
      · exact Or.inl (by rw [(i4 s hs).1, b_f h]; rfl)
    · obtain ⟨g1, g2, g3⟩ := hN
      have f2 : Fr cBr M N2 := (fr.up (by decide)).tr (g2.up (by decide))
      refine k_b177 hf g1 (fun s hs => by rw [g2.e1 (by decide), fr.e1 (by decide), h42 s hs]) g3 (fun N3 u1 u2 u3 u4 u5 => hk N3 u1 (f2.tr (u2.up (by decide))) u3 (fun j hj => by rw [u4 j hj, g2.e1 (by decide), fr.e1 (by decide)]) u5)
theorem k_b74 {R : tR} {p : Int} {t st s0 : Nat} (hs : s0 < 2079) {M0 : gM} : ∀ (n f : Nat) (M : gM), f ≤ 6 → 6 < n + f → CB R p t st M → Fr cBr M0 M → M.1 37 12 = i3 f → (∀ j, j ≠ 12 → M.1 37 j = M0.1 37 j) → (∀ s : Nat, s < 2079 → M.1 42 s = i3 (bcR R p f s)) →
    wp (f_X5_bearing_74 n (i3 s0) (i3 ((f + 1 : Nat) : Int)) M) (fun r N => r = i3 (boR R p s0) ∧ CB R p t st N ∧ Fr cBr M0 N ∧ bI R p N ∧ ∀ j, j ≠ 12 → N.1 37 j = M0.1 37 j) := by
  intro n
  induction n with
  | zero => intro f M h1 h2; omega
  | succ n ih =>
    intro f M h1 h2 hC fr h37 h37' h42
    have hr := bc_r (R := R) (p := p) (f := f) (s := s0) h1
    have er : ((f + 1 : Nat) : Int) - 1 = f := by omega
    rw [f_X5_bearing_74]
    simp (disch := omega) only [iL6, i3_lt, ck_ok, i3_tn, Int.toNat_natCast, h42 s0 hs, iL1, i3_sub, er, i3_eq]
    refine wp_if (fun hx => ?_) (fun hx => ?_)
    · rw [wp_some, bc_end h1 (Or.inl (by omega))]
      exact ⟨rfl, hC, fr, Or.inr ⟨f, h1, h37, h42⟩, h37'⟩
    · refine wp_if (fun hx2 => ?_) (fun hx2 => ?_)
      · refine k_b97 (by omega) hC h42 (fun N g1 g2 g3 g4 g5 => ?_)
        exact ih (f + 1) N (by omega) (by omega) g1 (fr.tr g2) g3 (fun j hj => by rw [g4 j hj, h37' j hj]) g5
      · rw [wp_some, bc_end h1 (Or.inr hx2)]
        exact ⟨rfl, hC, fr, Or.inr ⟨f, h1, h37, h42⟩, h37'⟩
theorem k_bear {R : tR} {p : Int} {t st s0 : Nat} (hs : s0 < 2079) {M : gM} (hC : CB R p t st M) (hk : keO R p M) (hB : bI R p M) : wp (f_X5_bearing (i3 s0) M) (fun r N => r = i3 (boR R p s0) ∧ CB R p t st N ∧ Fr cBr M N ∧ bI R p N ∧ ∀ j, j ≠ 12 → N.1 37 j = M.1 37 j) := by
  rw [f_X5_bearing]
  rcases hB with hB | ⟨f, hf, h37, h42⟩
  · rw [hB, if_pos (show i3 (-1) = ((-1) : Int32) from rfl), wp_m]
    have f1 : Fr [37] M (sI M 37 12 0) := Fr.rf.i (by decide)
    have e12 : (sI M 37 12 0).1 37 12 = i3 0 := by rw [rI_e, up_e]; rfl
    have e37 : ∀ j, j ≠ 12 → (sI M 37 12 0).1 37 j = M.1 37 j := fun j hj => by rw [rI_e, up_n hj]
    have hC1 := hC.mv f1 (by decide)
    generalize sI M 37 12 0 = M1 at f1 e12 e37 hC1 ⊢
    refine wp_lp (F := fun n x (_ : Unit) M => f_X5_bearing_15 (f_X5_bearing_74 FU) n (i3 s0) (i3 x) M) (I := fun x _ N => CB R p t st N ∧ Fr [42] M1 N ∧ ∀ s : Nat, s < x → N.1 42 s = i3 (bcR R p 0 s)) 2079 ?_ ?_ FU 0 () M1 (by omega) (by rw [FU_s]; omega) ⟨hC1, Fr.rf, fun s hs => by omega⟩
    · intro n x _ N hx hI hk2
      obtain ⟨i1, fr, i4⟩ := hI
      have hkN : keO R p N := fun s hs => by
        rw [fr.e1 (by decide), fr.e1 (by decide), f1.e1 (by decide), f1.e1 (by decide)]
        exact hk s hs
      rw [f_X5_bearing_15, k_safe hkN hx, g_b_some, k_or i1, k_over i1 hx, g_b_some]
      rw [show i3 (x : Int) + 1 = i3 ((x + 1 : Nat) : Int) from i3_sn x]
      simp (disch := omega) only [iL2079, i3_le, ck_ok, i3_tn, Int.toNat_natCast, b_if, wp_m]
      rw [if_neg (by omega)]
      have fin : ∀ v : Int32, v = i3 (bcR R p 0 x) → wp (f_X5_bearing_15 (f_X5_bearing_74 FU) n (i3 s0) (i3 ((x + 1 : Nat) : Int)) (sI N 42 x v)) (fun r N => r = i3 (boR R p s0) ∧ CB R p t st N ∧ Fr cBr M N ∧ bI R p N ∧ ∀ j, j ≠ 12 → N.1 37 j = M.1 37 j) := by
        intro v hv
        refine hk2 () _ ⟨i1.mv (S := [42]) (Fr.rf.i (by decide)) (by decide), fr.i (by decide), fun s hs => ?_⟩
        rw [rI_e]
        by_cases hsx : s = x
        · subst hsx
          rw [up_e, hv]
        · rw [up_n hsx]
          exact i4 s (by omega)
      refine wp_if (fun h1 => ?_) (fun h1 => ?_)
      · refine wp_if (fun h2 => ?_) (fun h2 => ?_)
        · exact fin _ (by unfold bcR; rw [if_pos ⟨sf_st h1, h2⟩]; rfl)
        · exact fin _ (by unfold bcR; rw [if_neg (fun h => h2 h.2), bo_t (k := 0) h1]; rfl)
      · exact fin _ (by unfold bcR; rw [if_neg (fun h => h1 (sf_ov h.1 h.2)), boN, if_neg h1]; rfl)
    · intro n _ N hI
      obtain ⟨i1, fr, i4⟩ := hI
      rw [f_X5_bearing_15]
      simp (disch := omega) only [iL2079, i3_le]
      rw [if_pos (by omega), fr.e1 (by decide), e12, iL1, i3_add, wp_v]
      exact k_b74 hs FU 0 N (by omega) (by rw [FU_s]; omega) i1 ((f1.up (by decide)).tr (fr.up (by decide))) (by rw [fr.e1 (by decide), e12]; rfl) (fun j hj => by rw [fr.e1 (by decide), e37 j hj]) i4
  · rw [h37]
    simp (disch := omega) only [i3_m1, i3_eq]
    rw [if_neg (by omega), i3_sn, wp_v]
    exact k_b74 hs FU f M hf (by rw [FU_s]; omega) hC Fr.rf h37 (fun j _ => rfl) h42
