/-! ===== POLES ===== -/
theorem bt_i0 {m : Int32} {a : Nat} (ha : a < 31) : (((m >>> (i3 (a : Int) &&& 31)) &&& (1 : Int32)) = (0 : Int32)) = (bt m a = false) := by
  have h1 := bt_i (m := m) (a := a) ha
  have h2 : ((m >>> (i3 (a : Int) &&& 31)) &&& (1 : Int32)) = 0 ∨ ((m >>> (i3 (a : Int) &&& 31)) &&& (1 : Int32)) = 1 := by
    have hb : ∀ i, i < 32 → i ≠ 0 → bt ((m >>> (i3 (a : Int) &&& 31)) &&& (1 : Int32)) i = false := fun i hi h0 => by
      rw [b_and]
      have : ∀ i, i < 32 → i ≠ 0 → bt 1 i = false := by decide
      rw [this i hi h0, Bool.and_false]
    cases hz : bt ((m >>> (i3 (a : Int) &&& 31)) &&& (1 : Int32)) 0 with
    | false =>
      refine Or.inl (b_ext (fun i hi => ?_))
      by_cases h0 : i = 0
      · subst h0; rw [hz]; rfl
      · rw [hb i hi h0, b_0]
    | true =>
      refine Or.inr (b_ext (fun i hi => ?_))
      by_cases h0 : i = 0
      · subst h0; rw [hz]; rfl
      · rw [hb i hi h0]
        have : ∀ i, i < 32 → i ≠ 0 → bt 1 i = false := by decide
        rw [this i hi h0]
  apply propext
  constructor
  · intro h
    cases hb : bt m a with
    | false => rfl
    | true =>
      rw [hb] at h1
      rw [h] at h1
      exact absurd (h1.mpr rfl) (by decide)
  · intro h
    rcases h2 with h2 | h2
    · exact h2
    · rw [h1.mp h2] at h
      cases h
theorem bt_set {m : Int32} {v : Bool} {a b : Nat} (ha : a < 31) (hb : b < 32) : bt ((m &&& (((1 : Int32) <<< (i3 (a : Int) &&& 31)) ^^^ ((-1) : Int32))) ||| (b2i v <<< (i3 (a : Int) &&& 31))) b = if b = a then v else bt m b := by
  have h1 := b_shl a (by omega) 1 hb
  have h2 := b_shl a (by omega) (b2i v) hb
  rw [i3_nI] at h1 h2
  rw [b_or, b_and, b_xor, h1, h2, b_m1 b hb]
  have hv : ∀ i, i < 32 → bt (b2i v) i = (decide (i = 0) && v) := by cases v <;> decide
  have h1' : ∀ i, i < 32 → bt 1 i = decide (i = 0) := by decide
  by_cases hab : a ≤ b
  · rw [hv (b - a) (by omega), h1' (b - a) (by omega)]
    by_cases he : b = a
    · subst he; simp
    · have : b - a ≠ 0 := by omega
      simp [hab, he, this]
  · have : b ≠ a := by omega
    simp [hab, this]
theorem Fr.r {S : List Nat} {M M1 : gM} {k j n : Nat} (h : Fr S M M1) (hk : k ∈ S) : Fr S M (sR M1 k j n) := fun q hq => by
  obtain ⟨a, b, c⟩ := h q hq
  have : q ≠ k := fun e => hq (e ▸ hk)
  exact ⟨a, b, by rw [rR_n this, c]⟩
/-- another ROPE or POLE -/
theorem k_settle {R R' : tR} {p p' : Int} {t t' st : Nat} {M : gM} (hC : CB R p t st M) (hst : st + 1 < 65536) (hR : tOk R') (hp : 1 ≤ p' ∧ p' ≤ 4) (ht : t' = 3 ∨ t' = 12) (hr : Rp1 M t' R') : wp (f_X0_settle t' (i3 p') M) (fun _ N => CB R' p' t' (st + 1) N ∧ Fr [27] M N) := by
  obtain ⟨hB, h2, h3, h4, h5⟩ := hC
  rw [f_X0_settle]
  simp only [wp_m, wp_some]
  have f1 : Fr [27] M (sI (sI (sR M 27 0 t') 27 1 (i3 p')) 27 2 ((sI (sR M 27 0 t') 27 1 (i3 p')).1 27 2 + 1)) := ((Fr.rf.r (by decide)).i (by decide)).i (by decide)
  have e2 : (sI (sI (sR M 27 0 t') 27 1 (i3 p')) 27 2 ((sI (sR M 27 0 t') 27 1 (i3 p')).1 27 2 + 1)).1 27 2 = i3 ((st + 1 : Nat) : Int) := by
    rw [rI_e, up_e, rI_e, up_n (by decide), rR_1, h3, i3_sn]
  have e1 : (sI (sI (sR M 27 0 t') 27 1 (i3 p')) 27 2 ((sI (sR M 27 0 t') 27 1 (i3 p')).1 27 2 + 1)).1 27 1 = i3 p' := by
    rw [rI_e, up_n (by decide), rI_e, up_e]
  have e0 : (sI (sI (sR M 27 0 t') 27 1 (i3 p')) 27 2 ((sI (sR M 27 0 t') 27 1 (i3 p')).1 27 2 + 1)).2.2 27 0 = t' := by
    rw [rI_2, rI_2, rR_e, uR_e]
  generalize sI (sI (sR M 27 0 t') 27 1 (i3 p')) 27 2 ((sI (sR M 27 0 t') 27 1 (i3 p')).1 27 2 + 1) = N at f1 e0 e1 e2 ⊢
  refine ⟨⟨⟨hR, hp, ht, e0, e1, hr.mv (fun k h1 h2 => f1.e1 (by simp; omega))⟩, ⟨by omega, hst⟩, e2, fun s hs => ?_, fun i hi => ?_⟩, f1⟩
  · obtain ⟨e, g1, g2, -⟩ := h4 s hs
    exact ⟨e, by omega, by rw [f1.e1 (by decide), g2], fun h => by omega⟩
  · obtain ⟨G, g1, g2, g3, -⟩ := h5 i hi
    exact ⟨G, g1, by rw [f1.e2 (by decide), g2], by omega, fun h => by omega⟩
noncomputable def poR (R : tR) (s : Nat) : Int := @ite _ (sfR R 1 0 s) (Classical.propDecidable _) 1 (@ite _ (sfR R 2 0 s) (Classical.propDecidable _) 2 (@ite _ (sfR R 3 0 s) (Classical.propDecidable _) 3 (@ite _ (sfR R 4 0 s) (Classical.propDecidable _) 4 (-2))))
theorem po_e {R : tR} {s q : Nat} (h1 : 1 ≤ q) (h4 : q ≤ 4) (hq : sfR R (q : Int) 0 s) (hl : ∀ j : Nat, 1 ≤ j → j < q → ¬ sfR R (j : Int) 0 s) : poR R s = q := by
  unfold poR
  have c : q = 1 ∨ q = 2 ∨ q = 3 ∨ q = 4 := by omega
  rcases c with rfl | rfl | rfl | rfl
  · rw [if_pos (show sfR R 1 0 s from hq)]; rfl
  · rw [if_neg (show ¬ sfR R 1 0 s from hl 1 (by omega) (by omega)), if_pos (show sfR R 2 0 s from hq)]; rfl
  · rw [if_neg (show ¬ sfR R 1 0 s from hl 1 (by omega) (by omega)), if_neg (show ¬ sfR R 2 0 s from hl 2 (by omega) (by omega)), if_pos (show sfR R 3 0 s from hq)]; rfl
  · rw [if_neg (show ¬ sfR R 1 0 s from hl 1 (by omega) (by omega)), if_neg (show ¬ sfR R 2 0 s from hl 2 (by omega) (by omega)), if_neg (show ¬ sfR R 3 0 s from hl 3 (by omega) (by omega)), if_pos (show sfR R 4 0 s from hq)]; rfl
theorem po_n {R : tR} {s : Nat} (hl : ∀ j : Nat, 1 ≤ j → j < 5 → ¬ sfR R (j : Int) 0 s) : poR R s = -2 := by
  unfold poR
  rw [if_neg (show ¬ sfR R 1 0 s from hl 1 (by omega) (by omega)), if_neg (show ¬ sfR R 2 0 s from hl 2 (by omega) (by omega)), if_neg (show ¬ sfR R 3 0 s from hl 3 (by omega) (by omega)), if_neg (show ¬ sfR R 4 0 s from hl 4 (by omega) (by omega))]
def pI (R : tR) (M : gM) : Prop := ∀ q : Nat, 1 ≤ q → q ≤ 4 → bt (M.1 37 13) q = true → ∀ s : Nat, s < 2079 → bt (M.1 43 s) q = b_ (sfR R (q : Int) 0 s)
abbrev cPo : List Nat := cBt ++ [37, 43, 44, 45, 46]
theorem k_p130 {R : tR} {t st q : Nat} {k189 : Int32 → Int32 → Int32 → Int32 → gM → Option (Int32 × gM)} {Q : Int32 → gM → Prop} {M : gM} {x1 x2 x3 : Int32} (hq : 1 ≤ q ∧ q ≤ 4) (hC : CB R q t st M) (hP : pI R M) (hb : bt (M.1 37 13) q = false) (h44 : ∀ s : Nat, s < 2079 → M.1 44 s = b2i (b_ (sfR R (q : Int) 0 s)))
    (hk : ∀ N, CB R q t st N → Fr [37, 43] M N → (∀ j, j ≠ 13 → N.1 37 j = M.1 37 j) → pI R N → bt (N.1 37 13) q = true → wp (k189 x1 x2 x3 (i3 q) N) Q) :
    wp (f_X5_leastPole_130 k189 FU x1 x2 x3 (i3 q) (i3 ((0 : Nat) : Int)) M) Q := by
  refine wp_lp (F := fun n x (_ : Unit) M => f_X5_leastPole_130 k189 n x1 x2 x3 (i3 q) (i3 x) M) (I := fun x _ N => CB R q t st N ∧ Fr [43] M N ∧ (∀ s : Nat, s < x → bt (N.1 43 s) q = b_ (sfR R (q : Int) 0 s)) ∧ ∀ (s j : Nat), j < 32 → j ≠ q → bt (N.1 43 s) j = bt (M.1 43 s) j) 2079 ?_ ?_ FU 0 () M (by omega) (by rw [FU_s]; omega) ⟨hC, Fr.rf, fun s hs => by omega, fun s j _ _ => rfl⟩
  · intro n x _ N hx hI hk2
    obtain ⟨i1, fr, i4, i5⟩ := hI
    have e44 : N.1 44 x = b2i (b_ (sfR R (q : Int) 0 x)) := by rw [fr.e1 (by decide), h44 x hx]
    rw [f_X5_leastPole_130]
    rw [show i3 (x : Int) + 1 = i3 ((x + 1 : Nat) : Int) from i3_sn x]
    simp (disch := omega) only [iL2079, i3_le, ck_ok, i3_tn, Int.toNat_natCast, e44]
    rw [if_neg (by omega), wp_m]
    refine hk2 () _ ⟨i1.mv (S := [43]) (Fr.rf.i (by decide)) (by decide), fr.i (by decide), fun s hs => ?_, fun s j hj hjq => ?_⟩
    · rw [rI_e]
      by_cases hsx : s = x
      · subst hsx
        rw [up_e]
        have := bt_set (m := N.1 43 s) (v := b_ (sfR R (q : Int) 0 s)) (a := q) (b := q) (by omega) (by omega)
        rw [if_pos rfl] at this
        exact this
      · rw [up_n hsx]
        exact i4 s (by omega)
    · rw [rI_e]
      by_cases hsx : s = x
      · subst hsx
        rw [up_e]
        have := bt_set (m := N.1 43 s) (v := b_ (sfR R (q : Int) 0 s)) (a := q) (b := j) (by omega) hj
        rw [if_neg hjq] at this
        exact this.trans (i5 s j hj hjq)
      · rw [up_n hsx]
        exact i5 s j hj hjq
  · intro n _ N hI
    obtain ⟨i1, fr, i4, i5⟩ := hI
    rw [f_X5_leastPole_130]
    simp (disch := omega) only [iL2079, i3_le]
    rw [if_pos (by omega), wp_m, fr.e1 (by decide)]
    have hbq : ∀ j : Nat, j < 32 → bt (M.1 37 13 ||| (1 : Int32) <<< (i3 (q : Int) &&& 31)) j = (bt (M.1 37 13) j || decide (q = j)) := fun j hj => bt_or (by omega) hj
    refine hk _ (i1.mv (S := [37]) (Fr.rf.i (by decide)) (by decide)) ((fr.up (by decide)).i (by decide)) (fun j hj => by rw [rI_e, up_n hj, fr.e1 (by decide)]) (fun j h1 h2 h3 s hs => ?_) ?_
    · rw [rI_n (by decide)]
      rw [rI_e, up_e] at h3
      have h3 := (hbq j (by omega)).symm.trans h3
      by_cases hj : j = q
      · subst hj
        exact i4 s hs
      · rw [i5 s j (by omega) hj]
        refine hP j h1 h2 ?_ s hs
        simpa [Ne.symm hj] using h3
    · rw [rI_e, up_e]
      exact (hbq q (by omega)).trans (by simp)
theorem k_p69 {R : tR} {t st q : Nat} {k189 : Int32 → Int32 → Int32 → Int32 → gM → Option (Int32 × gM)} {Q : Int32 → gM → Prop} {M : gM} {x1 x2 x3 : Int32} (hq : 1 ≤ q ∧ q ≤ 4) (hC : CB R q t st M) (hP : pI R M) (hb : bt (M.1 37 13) q = false)
    (hk : ∀ N, CB R q t st N → Fr cPo M N → (∀ j, j ≠ 13 → N.1 37 j = M.1 37 j) → pI R N → bt (N.1 37 13) q = true → wp (k189 x1 x2 x3 (i3 q) N) Q) :
    wp (f_X5_leastPole_69 k189 FU x1 x2 x3 (i3 q) (i3 ((0 : Nat) : Int)) M) Q := by
  have hR := hC.1.1
  refine wp_lp (F := fun n x (_ : Unit) M => f_X5_leastPole_69 k189 n x1 x2 x3 (i3 q) (i3 x) M) (I := fun x _ N => CB R q t st N ∧ Fr [44, 45] M N ∧ ∀ s : Nat, s < x → N.1 44 s = b2i (b_ (stP R s)) ∧ N.1 45 s = i3 0) 2079 ?_ ?_ FU 0 () M (by omega) (by rw [FU_s]; omega) ⟨hC, Fr.rf, fun s hs => by omega⟩
  · intro n x _ N hx hI hk2
    obtain ⟨i1, fr, i4⟩ := hI
    rw [f_X5_leastPole_69, k_or i1, k_has i1 hx, g_b_some]
    rw [show i3 (x : Int) + 1 = i3 ((x + 1 : Nat) : Int) from i3_sn x]
    simp (disch := omega) only [iL2079, i3_le, ck_ok, i3_tn, Int.toNat_natCast, b_if]
    rw [if_neg (by omega)]
    have fin : ∀ v : Bool, v = b_ (stP R x) → wp (f_X5_leastPole_69 k189 n x1 x2 x3 (i3 q) (i3 ((x + 1 : Nat) : Int)) (sI (sI N 44 x (b2i v)) 45 x 0)) Q := by
      intro v hv
      refine hk2 () _ ⟨i1.mv (S := [44, 45]) ((Fr.rf.i (by decide)).i (by decide)) (by decide), (fr.i (by decide)).i (by decide), fun s hs => ?_⟩
      rw [rI_n (by decide), rI_e, rI_e, rI_n (by decide)]
      by_cases hsx : s = x
      · subst hsx
        rw [up_e, up_e, hv]
        exact ⟨rfl, rfl⟩
      · rw [up_n hsx, up_n hsx]
        exact i4 s (by omega)
    refine wp_if (fun h1 => ?_) (fun h1 => ?_)
    · exact fin true (by rw [b_t h1])
    · exact fin false (by rw [b_f h1])
  · intro n _ N hI
    obtain ⟨i1, fr, i4⟩ := hI
    rw [f_X5_leastPole_69]
    simp (disch := omega) only [iL2079, i3_le]
    rw [if_pos (by omega)]
    refine wp_b _ (k_list i1) (fun y N2 hN => ?_)
    obtain ⟨n0, rfl, hC2, f2, hL⟩ := hN
    have t44 : ∀ s : Nat, s < 2079 → N2.1 44 s = b2i (b_ (stP R s)) := fun s hs => by rw [f2.e1 (by decide)]; exact (i4 s hs).1
    have t45 : ∀ s : Nat, s < 2079 → N2.1 45 s = i3 0 := fun s hs => by rw [f2.e1 (by decide)]; exact (i4 s hs).2
    have hS : ∀ s : Nat, s < 2079 → (vS N2 s ↔ stP R s) := by
      intro s hs
      unfold vS
      rw [t44 s hs]
      by_cases h : stP R s
      · rw [b_t h]; exact ⟨fun _ => h, fun _ => rfl⟩
      · rw [b_f h]; exact ⟨fun h2 => absurd h2 (by decide), fun h2 => absurd h2 h⟩
    refine wp_b _ (show wp (f_X5_shrink (i3 n0) (i3 ((0 : Nat) : Int)) N2) _ from k_shrink (kk := 0) (by omega) (M0 := N2) FU 0 n0 true N2 (by omega) (by rw [FU_s]; omega) hC2 Fr.rf ⟨fun s hs => ?_, fun s hs h => (hS s hs).2 (sf_st h), fun s hs h => (hS s hs).1 h, fun s hs => ⟨0, t45 s hs, by omega, fun a _ _ => Nat.zero_le _⟩⟩ ⟨hL.1, hL.2.1, fun s hs h1 h2 => hL.2.2 s hs h1⟩ (fun _ => by have := hL.1; omega) (fun h => by cases h)) (fun _ N3 hN => ?_)
    · by_cases h : stP R s
      · exact Or.inr ((hS s hs).2 h)
      · exact Or.inl (by rw [t44 s hs, b_f h]; rfl)
    · obtain ⟨g1, g2, g3⟩ := hN
      have f3 : Fr (cBt ++ [44, 45, 46]) M N3 := (fr.up (by decide)).tr ((f2.up (by decide)).tr g2)
      refine k_p130 hq g1 (fun j h1 h2 h3 s hs => ?_) ?_ g3 (fun N4 u1 u2 u3 u4 u5 => hk N4 u1 ((f3.up (by decide)).tr (u2.up (by decide))) (fun j hj => by rw [u3 j hj, f3.e1 (by decide)]) u4 u5)
      · rw [f3.e1 (by decide)] at h3 ⊢
        exact hP j h1 h2 h3 s hs
      · rw [f3.e1 (by decide)]
        exact hb
theorem k_p14 {R : tR} {p : Int} {t st s : Nat} (hp : 1 ≤ p ∧ p ≤ 4) (hs : s < 2079) (hst : st + 5 < 65536) {M0 : gM} : ∀ (n q stc : Nat) (pc le : Int) (M : gM), 1 ≤ q → q ≤ 5 → 5 < n + q → st ≤ stc → stc + 1 ≤ st + q → CB R pc t stc M → Fr (27 :: cPo) M0 M → (∀ j, j ≠ 13 → M.1 37 j = M0.1 37 j) → pI R M → ((le = -2 ∧ ∀ j : Nat, 1 ≤ j → j < q → ¬ sfR R (j : Int) 0 s) ∨ (0 ≤ le ∧ le ≤ 4 ∧ le = poR R s)) →
    wp (f_X5_leastPole_14 n (i3 s) (i3 p) (i3 le) (i3 q) M) (fun r N => r = i3 (poR R s) ∧ Fr (27 :: cPo) M0 N ∧ (∀ j, j ≠ 13 → N.1 37 j = M0.1 37 j) ∧ pI R N ∧ ∃ st2, st2 ≤ st + 5 ∧ CB R p t st2 N) := by
  intro n
  induction n with
  | zero => intro q stc pc le M h1 h2 h3; omega
  | succ n ih =>
    intro q stc pc le M h1 h2 h3 h4 h5 hC fr h37 hP hle
    have hpc := hC.1.2.1
    -- the end
    have fin : le = poR R s → wp (f_X5_leastPole_213 (i3 p) (i3 le) M) (fun r N => r = i3 (poR R s) ∧ Fr (27 :: cPo) M0 N ∧ (∀ j, j ≠ 13 → N.1 37 j = M0.1 37 j) ∧ pI R N ∧ ∃ st2, st2 ≤ st + 5 ∧ CB R p t st2 N) := by
      intro e
      rw [f_X5_leastPole_213, hC.1.2.2.2.2.1]
      simp (disch := omega) only [i3_eq]
      refine wp_if (fun hx => ?_) (fun hx => ?_)
      · subst hx
        rw [wp_some, e]
        exact ⟨rfl, fr, h37, hP, stc, by omega, hC⟩
      · rw [k_or hC]
        refine wp_b _ (k_settle hC (by omega) hC.1.1 hp hC.1.2.2.1 hC.1.2.2.2.2.2) (fun _ N hN => ?_)
        obtain ⟨g1, g2⟩ := hN
        rw [wp_some, e]
        refine ⟨rfl, fr.tr (g2.up (by decide)), fun j hj => by rw [g2.e1 (by decide), h37 j hj], fun j u1 u2 u3 u hu => ?_, stc + 1, by omega, g1⟩
        rw [g2.e1 (by decide)] at u3 ⊢
        exact hP j u1 u2 u3 u hu
    have hleb : -2 ≤ le ∧ le ≤ 4 := by rcases hle with h | h <;> omega
    rw [f_X5_leastPole_14]
    simp (disch := omega) only [iL4, i3_lt, i3_m2, i3_eq]
    refine wp_if (fun hx => ?_) (fun hx => ?_)
    · refine fin ?_
      rcases hle with ⟨h, g⟩ | h
      · rw [h, po_n (fun j j1 j2 => g j j1 (by omega))]
      · exact h.2.2
    · refine wp_if (fun hx2 => ?_) (fun hx2 => ?_)
      · have hno : ∀ j : Nat, 1 ≤ j → j < q → ¬ sfR R (j : Int) 0 s := by
          rcases hle with ⟨h, g⟩ | h
          · exact g
          · omega
        -- the POLE's own question
        have ask : ∀ (stn : Nat) (N : gM), st ≤ stn → stn ≤ st + q → (∃ pn, CB R pn t stn N) → Fr (27 :: cPo) M0 N → (∀ j, j ≠ 13 → N.1 37 j = M0.1 37 j) → pI R N → bt (N.1 37 13) q = true → wp (f_X5_leastPole_189 (f_X5_leastPole_14 n) (i3 s) (i3 p) (i3 le) (i3 q) N) (fun r N => r = i3 (poR R s) ∧ Fr (27 :: cPo) M0 N ∧ (∀ j, j ≠ 13 → N.1 37 j = M0.1 37 j) ∧ pI R N ∧ ∃ st2, st2 ≤ st + 5 ∧ CB R p t st2 N) := by
          intro stn N v1 v2 v3 v4 v5 v6 v7
          obtain ⟨pn, v3⟩ := v3
          have hbs := v6 q h1 (by omega) v7 s hs
          rw [f_X5_leastPole_189, ck_ok (by omega) (by omega) (by omega), tn_n (by omega)]
          simp (disch := omega) only [bt_i, hbs]
          rw [i3_sn, b_if]
          refine wp_if (fun hy => ?_) (fun hy => ?_)
          · exact ih (q + 1) stn pn q N (by omega) (by omega) (by omega) v1 (by omega) v3 v4 v5 v6 (Or.inr ⟨by omega, by omega, (po_e h1 (by omega) hy hno).symm⟩)
          · refine ih (q + 1) stn pn le N (by omega) (by omega) (by omega) v1 (by omega) v3 v4 v5 v6 (Or.inl ⟨hx2, fun j j1 j2 => ?_⟩)
            by_cases hj : j = q
            · subst hj; exact hy
            · exact hno j j1 (by omega)
        simp (disch := omega) only [bt_i0]
        refine wp_if (fun hx3 => ?_) (fun hx3 => ?_)
        · rw [hC.1.2.2.2.2.1]
          simp (disch := omega) only [i3_eq]
          refine wp_if (fun hx4 => ?_) (fun hx4 => ?_)
          · subst hx4
            exact k_p69 (by omega) hC hP hx3 (fun N u1 u2 u3 u4 u5 => ask stc N h4 (by omega) ⟨_, u1⟩ (fr.tr (u2.up (by decide))) (fun j hj => by rw [u3 j hj, h37 j hj]) u4 u5)
          · rw [k_or hC]
            refine wp_b _ (k_settle (p' := (q : Int)) hC (by omega) hC.1.1 (by omega) hC.1.2.2.1 hC.1.2.2.2.2.2) (fun _ N hN => ?_)
            obtain ⟨g1, g2⟩ := hN
            have hP2 : pI R N := fun j u1 u2 u3 u hu => by
              rw [g2.e1 (by decide)] at u3 ⊢
              exact hP j u1 u2 u3 u hu
            exact k_p69 (by omega) g1 hP2 (by rw [g2.e1 (by decide)]; exact hx3) (fun N2 u1 u2 u3 u4 u5 => ask (stc + 1) N2 (by omega) (by omega) ⟨_, u1⟩ (fr.tr ((g2.up (by decide)).tr (u2.up (by decide)))) (fun j hj => by rw [u3 j hj, g2.e1 (by decide), h37 j hj]) u4 u5)
        · have hb : bt (M.1 37 13) q = true := by
            cases hb : bt (M.1 37 13) q with
            | true => rfl
            | false => exact absurd hb hx3
          exact ask stc M h4 (by omega) ⟨_, hC⟩ fr h37 hP hb
      · refine fin ?_
        rcases hle with ⟨h, g⟩ | h
        · exact absurd h hx2
        · exact h.2.2
theorem k_pole {R : tR} {p : Int} {t st s : Nat} (hs : s < 2079) (hst : st + 5 < 65536) {M : gM} (hC : CB R p t st M) (hP : pI R M) : wp (f_X5_leastPole (i3 s) M) (fun r N => r = i3 (poR R s) ∧ Fr (27 :: cPo) M N ∧ (∀ j, j ≠ 13 → N.1 37 j = M.1 37 j) ∧ pI R N ∧ ∃ st2, st2 ≤ st + 5 ∧ CB R p t st2 N) := by
  rw [f_X5_leastPole, hC.1.2.2.2.2.1, wp_v]
  exact k_p14 hC.1.2.1 hs hst FU 1 st p (-2) M (by omega) (by omega) (by rw [FU_s]; omega) (by omega) (by omega) hC Fr.rf (fun j _ => rfl) hP (Or.inl ⟨rfl, fun j h1 h2 => by omega⟩)
