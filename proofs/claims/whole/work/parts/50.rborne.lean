/-! ===== the reference's BORNE and POLES ===== -/
noncomputable def bqR (R : tR) (p : Int) (c s : Nat) : Int := match c with
  | 0 => -2
  | k + 1 => boN R p s k
theorem bq_s {R : tR} {p : Int} {c s : Nat} : bqR R p (c + 1) s = @ite _ (sfR R p (c : Int) s) (Classical.propDecidable _) (c : Int) (bqR R p c s) := by
  cases c with
  | zero => rfl
  | succ k => rfl
def vOk (R : tR) (p : Int) (M : gM) : Prop := ∀ s : Nat, s < 2079 → M.1 53 s = i3 (boR R p s)
theorem d_b64 {R : tR} {p : Int} {c : Nat} {M : gM} {k51 : Int32 → Int32 → gM → Option (Int32 × gM)} {Q : Int32 → gM → Prop} {x1 : Int32} (h53 : ∀ s : Nat, s < 2079 → M.1 53 s = i3 (bqR R p c s)) (h55 : ∀ s : Nat, s < 2079 → M.1 55 s = b2i (b_ (sfR R p (c : Int) s)))
    (hk : ∀ N, Fo [53] [] M N → (∀ s : Nat, s < 2079 → N.1 53 s = i3 (bqR R p (c + 1) s)) → wp (k51 x1 (i3 ((c + 1 : Nat) : Int)) N) Q) :
    wp (f_X10_borne_64 k51 FU x1 (i3 c) (i3 ((0 : Nat) : Int)) M) Q := by
  refine wp_lp (F := fun n x (_ : Unit) M => f_X10_borne_64 k51 n x1 (i3 c) (i3 x) M) (I := fun x _ N => Fo [53] [] M N ∧ (∀ s : Nat, s < x → N.1 53 s = i3 (bqR R p (c + 1) s)) ∧ ∀ s : Nat, x ≤ s → N.1 53 s = M.1 53 s) 2079 ?_ ?_ FU 0 () M (by omega) (by rw [FU_s]; omega) ⟨Fo.rf, fun s hs => by omega, fun _ _ => rfl⟩
  · intro n x _ N hx hI hk2
    obtain ⟨f, i1, i2⟩ := hI
    have e55 : N.1 55 x = b2i (b_ (sfR R p (c : Int) x)) := by rw [f.e1 (by decide) (by decide), h55 x hx]
    rw [f_X10_borne_64]
    rw [show i3 (x : Int) + 1 = i3 ((x + 1 : Nat) : Int) from i3_sn x]
    simp (disch := omega) only [iL2079, i3_le, ck_ok, i3_tn, Int.toNat_natCast, e55, b2i_0, b_ifn]
    rw [if_neg (by omega)]
    refine wp_if (fun h1 => ?_) (fun h1 => ?_)
    · refine hk2 () N ⟨f, fun s hs => ?_, fun s hs => i2 s (by omega)⟩
      by_cases hsx : s = x
      · subst hsx
        rw [i2 s (Nat.le_refl _), h53 s hx, bq_s, if_neg h1]
      · exact i1 s (by omega)
    · have h1 : sfR R p (c : Int) x := Classical.not_not.1 h1
      rw [wp_m]
      refine hk2 () _ ⟨f.i (by decide) (by decide), fun s hs => ?_, fun s hs => ?_⟩
      · rw [rI_e]
        by_cases hsx : s = x
        · subst hsx
          rw [up_e, bq_s, if_pos h1]
        · rw [up_n hsx]
          exact i1 s (by omega)
      · rw [rI_e, up_n (by omega)]
        exact i2 s (by omega)
  · intro n _ N hI
    obtain ⟨f, i1, i2⟩ := hI
    rw [f_X10_borne_64]
    rw [show i3 (c : Int) + 1 = i3 ((c + 1 : Nat) : Int) from i3_sn c]
    simp (disch := omega) only [iL2079, i3_le]
    rw [if_pos (by omega)]
    exact hk N f i1
theorem d_b51 {R : tR} {p : Int} {h s0 : Nat} (hs : s0 < 2079) {M0 : gM} : ∀ (n c : Nat) (M : gM), c ≤ 7 → 7 < n + c → D2 R p h M → Fo [53, 55] [] M0 M → (∀ s : Nat, s < 2079 → M.1 53 s = i3 (bqR R p c s)) →
    wp (f_X10_borne_51 n (i3 s0) (i3 c) M) (fun r N => r = i3 (boR R p s0) ∧ Fo [53, 55] [] M0 N ∧ vOk R p N) := by
  intro n
  induction n with
  | zero => intro c M h1 h2; omega
  | succ n ih =>
    intro c M h1 h2 H f h53
    rw [f_X10_borne_51]
    simp (disch := omega) only [iL7, i3_le]
    refine wp_if (fun hx => ?_) (fun hx => ?_)
    · have : c = 7 := by omega
      subst this
      rw [ck_ok (by omega) (by omega) (by omega), wp_some, tn_n (by omega), h53 s0 hs]
      exact ⟨rfl, f, h53⟩
    · refine wp_b _ (d_saves (kk := c) (by omega) H) (fun _ N hN => ?_)
      obtain ⟨f2, h55⟩ := hN
      refine d_b64 (fun s hs => by rw [f2.e1 (by decide) (by decide), h53 s hs]) h55 (fun N2 g1 g2 => ?_)
      exact ih (c + 1) N2 (by omega) (by omega) ((H.mv f2 (by decide) (by decide)).mv g1 (by decide) (by decide)) (f.tr ((f2.up (by decide) (by decide)).tr (g1.up (by decide) (by decide)))) g2
theorem d_bornes {R : tR} {p : Int} {h s0 : Nat} (hs : s0 < 2079) {M : gM} (H : D2 R p h M) : wp (f_X10_borne_28 FU (i3 s0) (i3 ((0 : Nat) : Int)) M) (fun r N => r = i3 (boR R p s0) ∧ Fo [53, 55] [] M N ∧ vOk R p N) := by
  refine wp_lp (F := fun n x (_ : Unit) M => f_X10_borne_28 n (i3 s0) (i3 x) M) (I := fun x _ N => Fo [53] [] M N ∧ ∀ s : Nat, s < x → N.1 53 s = i3 (-2)) 2079 ?_ ?_ FU 0 () M (by omega) (by rw [FU_s]; omega) ⟨Fo.rf, fun s hs => by omega⟩
  · intro n x _ N hx hI hk2
    obtain ⟨f, i1⟩ := hI
    rw [f_X10_borne_28]
    rw [show i3 (x : Int) + 1 = i3 ((x + 1 : Nat) : Int) from i3_sn x]
    simp (disch := omega) only [iL2079, i3_le, ck_ok, i3_tn, Int.toNat_natCast]
    rw [if_neg (by omega), wp_m]
    refine hk2 () _ ⟨f.i (by decide) (by decide), fun s hs => ?_⟩
    rw [rI_e]
    by_cases hsx : s = x
    · subst hsx
      rw [up_e]
      rfl
    · rw [up_n hsx]
      exact i1 s (by omega)
  · intro n _ N hI
    obtain ⟨f, i1⟩ := hI
    rw [f_X10_borne_28]
    simp (disch := omega) only [iL2079, i3_le]
    rw [if_pos (by omega)]
    exact d_b51 hs FU 0 N (by omega) (by rw [FU_s]; omega) (H.mv f (by decide) (by decide)) (f.up (by decide) (by decide)) (fun s hs => i1 s hs)
/-- POLES, when those from q + 1 on are known -/
noncomputable def pzR (R : tR) (s : Nat) : Nat → Int
  | 0 => -2
  | j + 1 => @ite _ (sfR R (4 - (j : Int)) 0 s) (Classical.propDecidable _) (4 - (j : Int)) (pzR R s j)
theorem pz_4 {R : tR} {s : Nat} : pzR R s 4 = poR R s := rfl
def xOk (R : tR) (M : gM) : Prop := ∀ s : Nat, s < 2079 → M.1 54 s = i3 (poR R s)
theorem B2.pole {R : tR} {p q : Int} {h : Nat} {M : gM} (H : B2 R p h M) (hq : 1 ≤ q ∧ q ≤ 4) : B2 R q h (sI M 0 47 (i3 q)) := by
  obtain ⟨h1, h2, h3, h4, h5, h6⟩ := H
  exact ⟨h1, hq, h3, by rw [rI_e, up_n (by decide), h4], by rw [rI_e, up_e], h6.mv (fun k hk1 hk2 => rI_n (by omega))⟩
theorem d_p73 {R : tR} {j : Nat} {M : gM} {k55 : Int32 → Int32 → gM → Option (Int32 × gM)} {Q : Int32 → gM → Prop} {x1 x2 : Int32} (hj : j < 4) (h47 : M.1 0 47 = i3 (4 - (j : Int))) (h54 : ∀ s : Nat, s < 2079 → M.1 54 s = i3 (pzR R s j)) (h55 : ∀ s : Nat, s < 2079 → M.1 55 s = b2i (b_ (sfR R (4 - (j : Int)) 0 s)))
    (hk : ∀ N, Fo [54] [] M N → (∀ s : Nat, s < 2079 → N.1 54 s = i3 (pzR R s (j + 1))) → wp (k55 x1 x2 (sI N 0 47 (i3 (4 - (j : Int) - 1)))) Q) :
    wp (f_X10_poles_73 k55 FU x1 x2 (i3 ((0 : Nat) : Int)) M) Q := by
  refine wp_lp (F := fun n x (_ : Unit) M => f_X10_poles_73 k55 n x1 x2 (i3 x) M) (I := fun x _ N => Fo [54] [] M N ∧ (∀ s : Nat, s < x → N.1 54 s = i3 (pzR R s (j + 1))) ∧ ∀ s : Nat, x ≤ s → N.1 54 s = M.1 54 s) 2079 ?_ ?_ FU 0 () M (by omega) (by rw [FU_s]; omega) ⟨Fo.rf, fun s hs => by omega, fun _ _ => rfl⟩
  · intro n x _ N hx hI hk2
    obtain ⟨f, i1, i2⟩ := hI
    have e55 : N.1 55 x = b2i (b_ (sfR R (4 - (j : Int)) 0 x)) := by rw [f.e1 (by decide) (by decide), h55 x hx]
    rw [f_X10_poles_73, f.e0 (by decide), h47]
    rw [show i3 (x : Int) + 1 = i3 ((x + 1 : Nat) : Int) from i3_sn x]
    simp (disch := omega) only [iL2079, i3_le, ck_ok, i3_tn, Int.toNat_natCast, e55, b2i_0, b_ifn]
    rw [if_neg (by omega)]
    refine wp_if (fun h1 => ?_) (fun h1 => ?_)
    · refine hk2 () N ⟨f, fun s hs => ?_, fun s hs => i2 s (by omega)⟩
      by_cases hsx : s = x
      · subst hsx
        rw [i2 s (Nat.le_refl _), h54 s hx, pzR, if_neg h1]
      · exact i1 s (by omega)
    · have h1 : sfR R (4 - (j : Int)) 0 x := Classical.not_not.1 h1
      rw [wp_m]
      refine hk2 () _ ⟨f.i (by decide) (by decide), fun s hs => ?_, fun s hs => ?_⟩
      · rw [rI_e]
        by_cases hsx : s = x
        · subst hsx
          rw [up_e, pzR, if_pos h1]
        · rw [up_n hsx]
          exact i1 s (by omega)
      · rw [rI_e, up_n (by omega)]
        exact i2 s (by omega)
  · intro n _ N hI
    obtain ⟨f, i1, i2⟩ := hI
    rw [f_X10_poles_73, f.e0 (by decide), h47]
    simp (disch := omega) only [iL2079, i3_le]
    rw [if_pos (by omega), wp_m, iL1, i3_sub]
    exact hk N f i1
theorem d_p55 {R : tR} {p : Int} {h s0 : Nat} (hp : 1 ≤ p ∧ p ≤ 4) (hs : s0 < 2079) {M0 : gM} (H0 : B2 R p h M0) : ∀ (n j : Nat) (M : gM), j ≤ 4 → 4 < n + j → Fo (cTb ++ [54, 55]) (jV ++ [47]) M0 M → M.1 0 47 = i3 (4 - (j : Int)) → (∀ s : Nat, s < 2079 → M.1 54 s = i3 (pzR R s j)) →
    wp (f_X10_poles_55 n (i3 s0) (i3 p) M) (fun r N => r = i3 (poR R s0) ∧ Fo (cTb ++ [54, 55]) (jV ++ [72]) M0 N ∧ N.1 0 72 = 0 ∧ xOk R N) := by
  intro n
  induction n with
  | zero => intro j M h1 h2; omega
  | succ n ih =>
    intro j M h1 h2 f h47 h54
    rw [f_X10_poles_55, h47]
    simp (disch := omega) only [iL0, i3_le]
    refine wp_if (fun hx => ?_) (fun hx => ?_)
    · have : j = 4 := by omega
      subst this
      rw [wp_m, wp_m, ck_ok (by omega) (by omega) (by omega), wp_some, tn_n (by omega)]
      refine ⟨?_, ⟨fun k hk0 hk => ?_, fun i hi => ?_⟩, ?_, fun s hs => ?_⟩
      · rw [rI_n (by decide), rI_n (by decide), h54 s0 hs, pz_4]
      · rw [rI_n hk0, rI_n hk0]
        exact f.1 k hk0 hk
      · by_cases h47i : i = 47
        · subst h47i
          rw [rI_e, up_n (by decide), rI_e, up_e, H0.2.2.2.2.1]
        · rw [rI_e, up_n (fun e => hi (by subst e; decide)), rI_e, up_n h47i]
          refine f.2 i (fun hm => hi ?_)
          simp at hm hi ⊢
          omega
      · rw [rI_e, up_e]
      · rw [rI_n (by decide), rI_n (by decide), h54 s hs, pz_4]
    · have H : B2 R (4 - (j : Int)) h M := by
        obtain ⟨q1, q2, q3, q4, q5, q6⟩ := H0
        exact ⟨q1, by omega, q3, by rw [f.e0 (by decide), q4], h47, q6.mv (fun k hk1 hk2 => f.e1 (by omega) (by simp; omega))⟩
      refine wp_b _ (d_layAll H) (fun _ N hN => ?_)
      obtain ⟨f2, hT⟩ := hN
      have H2 : D2 R (4 - (j : Int)) h N := ⟨H.mv f2 (by decide) (by decide), hT⟩
      refine wp_b _ (show wp (f_X10_saves (i3 ((0 : Nat) : Int)) N) _ from d_saves (kk := 0) (by omega) H2) (fun _ N2 hN => ?_)
      obtain ⟨f3, h55⟩ := hN
      refine d_p73 (j := j) (by omega) (by rw [f3.e0 (by decide), f2.e0 (by decide), h47]) (fun s hs => by rw [f3.e1 (by decide) (by decide), f2.e1 (by decide) (by decide), h54 s hs]) h55 (fun N3 g1 g2 => ?_)
      have f4 : Fo (cTb ++ [54, 55]) (jV ++ [47]) M0 N3 := ((f.tr (f2.up (by decide) (by decide))).tr (f3.up (by decide) (by decide))).tr (g1.up (by decide) (by decide))
      refine ih (j + 1) _ (by omega) (by omega) (f4.o (by decide)) ?_ (fun s hs => by rw [rI_n (by decide), g2 s hs])
      rw [rI_e, up_e]
      congr 1
      omega
theorem d_poles {R : tR} {p : Int} {h s0 : Nat} (hs : s0 < 2079) {M : gM} (H : B2 R p h M) : wp (f_X10_poles_29 FU (i3 s0) (i3 p) (i3 ((0 : Nat) : Int)) M) (fun r N => r = i3 (poR R s0) ∧ Fo (cTb ++ [54, 55]) (jV ++ [72]) M N ∧ N.1 0 72 = 0 ∧ xOk R N) := by
  refine wp_lp (F := fun n x (_ : Unit) M => f_X10_poles_29 n (i3 s0) (i3 p) (i3 x) M) (I := fun x _ N => Fo [54] [] M N ∧ ∀ s : Nat, s < x → N.1 54 s = i3 (-2)) 2079 ?_ ?_ FU 0 () M (by omega) (by rw [FU_s]; omega) ⟨Fo.rf, fun s hs => by omega⟩
  · intro n x _ N hx hI hk2
    obtain ⟨f, i1⟩ := hI
    rw [f_X10_poles_29]
    rw [show i3 (x : Int) + 1 = i3 ((x + 1 : Nat) : Int) from i3_sn x]
    simp (disch := omega) only [iL2079, i3_le, ck_ok, i3_tn, Int.toNat_natCast]
    rw [if_neg (by omega), wp_m]
    refine hk2 () _ ⟨f.i (by decide) (by decide), fun s hs => ?_⟩
    rw [rI_e]
    by_cases hsx : s = x
    · subst hsx
      rw [up_e]
      rfl
    · rw [up_n hsx]
      exact i1 s (by omega)
  · intro n _ N hI
    obtain ⟨f, i1⟩ := hI
    rw [f_X10_poles_29]
    simp (disch := omega) only [iL2079, i3_le]
    rw [if_pos (by omega), wp_m]
    exact d_p55 H.2.1 hs H FU 0 _ (by omega) (by rw [FU_s]; omega) ((f.up (by decide) (by decide)).o (by decide)) (by rw [rI_e, up_e]; rfl) (fun s hs => by rw [rI_n (by decide)]; exact i1 s hs)
