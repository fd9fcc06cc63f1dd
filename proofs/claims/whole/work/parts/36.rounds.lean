theorem iL0 : (0 : Int32) = i3 0 := rfl
theorem iL1 : (1 : Int32) = i3 1 := rfl
theorem iL5 : (5 : Int32) = i3 5 := rfl
theorem iL6 : (6 : Int32) = i3 6 := rfl
theorem iL7 : (7 : Int32) = i3 7 := rfl
theorem iL8 : (8 : Int32) = i3 8 := rfl
theorem iL9 : (9 : Int32) = i3 9 := rfl
theorem iL10 : (10 : Int32) = i3 10 := rfl
theorem iL11 : (11 : Int32) = i3 11 := rfl
theorem iL12 : (12 : Int32) = i3 12 := rfl
theorem iL15 : (15 : Int32) = i3 15 := rfl
theorem iL16 : (16 : Int32) = i3 16 := rfl
theorem iL20 : (20 : Int32) = i3 20 := rfl
theorem iL21 : (21 : Int32) = i3 21 := rfl
theorem iL24 : (24 : Int32) = i3 24 := rfl
theorem iL25 : (25 : Int32) = i3 25 := rfl
theorem iL31 : (31 : Int32) = i3 31 := rfl
theorem iL60 : (60 : Int32) = i3 60 := rfl
theorem iL63 : (63 : Int32) = i3 63 := rfl
theorem iL100 : (100 : Int32) = i3 100 := rfl
theorem iL200 : (200 : Int32) = i3 200 := rfl
theorem iL231 : (231 : Int32) = i3 231 := rfl
theorem iL255 : (255 : Int32) = i3 255 := rfl
theorem iL300 : (300 : Int32) = i3 300 := rfl
theorem iL301 : (301 : Int32) = i3 301 := rfl
theorem iL302 : (302 : Int32) = i3 302 := rfl
theorem iL400 : (400 : Int32) = i3 400 := rfl
theorem iL401 : (401 : Int32) = i3 401 := rfl
theorem iL500 : (500 : Int32) = i3 500 := rfl
theorem iL800 : (800 : Int32) = i3 800 := rfl
theorem iL1000 : (1000 : Int32) = i3 1000 := rfl
theorem iL2000 : (2000 : Int32) = i3 2000 := rfl
theorem iL2078 : (2078 : Int32) = i3 2078 := rfl
theorem iL2079 : (2079 : Int32) = i3 2079 := rfl
theorem iL2080 : (2080 : Int32) = i3 2080 := rfl
theorem iL1048576 : (1048576 : Int32) = i3 1048576 := rfl
/-! ===== the class's Rounds: what leads well ===== -/
theorem b_ifn {p : Prop} {α : Type} {x y : α} : (if b_ p = false then x else y) = @ite _ (¬ p) (Classical.propDecidable _) x y := by
  by_cases h : p
  · rw [b_t h, if_neg (by decide), if_neg (fun g => g h)]
  · rw [b_f h, if_pos rfl, if_pos h]
theorem k_or {R : tR} {p : Int} {t st : Nat} {M : gM} {β : Type} {k : Nat → Option β} (h : CB R p t st M) : g_or 3 12 (M.2.2 27 0) k = k t := by rw [h.1.2.2.2.1, or_ok h.1.2.2.1]
theorem k_has {R : tR} {p : Int} {t st : Nat} {M : gM} (h : CB R p t st M) {s : Nat} (hs : s < 2079) : f_X4_has t (i3 s) M = some (b_ (stP R s), M) := c_has h.1.1 h.1.2.2.2.2.2 (by omega)
theorem k_over {R : tR} {p : Int} {t st : Nat} {M : gM} (h : CB R p t st M) {s : Nat} (hs : s < 2079) : f_X4_isOver t (i3 s) M = some (b_ (ovP R s), M) := c_over h.1.1 h.1.2.2.2.2.2 hs
theorem nx_n {R : tR} (hR : tOk R) (p : Int) (s a : Nat) (g : Int) : -2 ≤ nxR R p s a g ∧ nxR R p s a g < 2079 := by
  rcases nx_r hR p s a g with h | h
  · omega
  · have h1 := h.1
    have h2 := h.2.1
    omega
theorem n_cBt {k : Nat} (hk : 37 ≤ k) : k ∉ cBt := by simp; omega
theorem k_lw {R : tR} {p : Int} {t st s a k : Nat} (hs : s < 2079) (ha : a < rNa R) (hk : 37 ≤ k) {fl : Int32} {P : Nat → Prop} {hi : Int} (hh : hi ≤ 12) {M0 : gM} (hP : ∀ q : Nat, q < 2079 → (fl ≤ M0.1 k q ↔ P q)) : ∀ (n : Nat) (g : Int) (M : gM), CB R p t st M → Fr cBt M0 M → -12 ≤ g → g ≤ hi + 1 → hi + 1 - g < n →
    wp (f_X5_leadsWell_4 k n fl (i3 s) (i3 a) (i3 hi) (i3 g) M) (fun r N => r = b_ (∀ x, g ≤ x → x ≤ hi → okP R p P s a x) ∧ CB R p t st N ∧ Fr cBt M0 N) := by
  intro n
  induction n with
  | zero => intro g M _ _ _ _ h; omega
  | succ n ih =>
    intro g M hC f0 hg1 hg2 hn
    have hR := hC.1.1
    rw [f_X5_leadsWell_4]
    simp (disch := omega) only [i3_lt, i3_le, i3_eq]
    refine wp_if (fun hx => ?_) (fun hx => ?_)
    · rw [wp_some]
      exact ⟨(b_t (fun x h1 h2 => by omega)).symm, hC, f0⟩
    · refine wp_b _ (c_after hs ha (by omega) hC) (fun r N hN => ?_)
      obtain ⟨rfl, hC2, f1⟩ := hN
      have f2 := f0.tr f1
      have hz := nx_n hR p s a g
      have eP : okP R p P s a g ↔ 0 ≤ nxR R p s a g ∧ P (nxR R p s a g).toNat := Iff.rfl
      generalize nxR R p s a g = z at hz eP ⊢
      simp (disch := omega) only [i3_lit, i3_neg, i3_add, i3_sub, i3_mul, i3_lt, i3_le, i3_eq]
      refine wp_if (fun hx2 => ?_) (fun hx2 => ?_)
      · rw [wp_some]
        exact ⟨(b_f (fun h => by have := (eP.1 (h g (by omega) (by omega))).1; omega)).symm, hC2, f2⟩
      · rw [if_neg (by omega), ck_ok (by omega) (by omega) (by omega), i3_tn (by omega) (by omega), f2.e1 (n_cBt hk)]
        have hPz := hP z.toNat (by omega)
        refine wp_if (fun hx3 => ?_) (fun hx3 => ?_)
        · refine wp_mono (ih (g + 1) N hC2 f2 (by omega) (by omega) (by omega)) (fun r N2 hN => ?_)
          refine ⟨hN.1.trans (b_e ⟨fun h x h1 h2 => ?_, fun h x h1 h2 => h x (by omega) h2⟩), hN.2⟩
          by_cases hxg : x = g
          · subst hxg
            exact eP.2 ⟨by omega, hPz.1 hx3⟩
          · exact h x (by omega) h2
        · rw [wp_some]
          exact ⟨(b_f (fun h => hx3 (hPz.2 (eP.1 (h g (by omega) (by omega))).2))).symm, hC2, f2⟩
theorem k_fg9 {R : tR} {p : Int} {t st s k : Nat} (hs : s < 2079) (hk : 37 ≤ k) {fl m : Int32} {P : Nat → Prop} {lo hi : Int} (hl : -12 ≤ lo) (hlh : lo ≤ hi) (hh : hi ≤ 12) {M0 : gM} (hP : ∀ q : Nat, q < 2079 → (fl ≤ M0.1 k q ↔ P q)) (hm : ∀ b : Nat, b < 6 → bt m b = b_ (caP R p s b)) : ∀ (n a : Nat) (M : gM), CB R p t st M → Fr cBt M0 M → a ≤ 6 → 6 < n + a →
    wp (f_X5_firstGood_49 k n fl (i3 s) m (i3 lo) (i3 hi) (i3 a) M) (fun r N => r = i3 (leA (fun b => a ≤ b ∧ caP R p s b ∧ ∀ x, lo ≤ x → x ≤ hi → okP R p P s b x) 6 (-1)) ∧ CB R p t st N ∧ Fr cBt M0 N) := by
  intro n
  induction n with
  | zero => intro a M _ _ _ h; omega
  | succ n ih =>
    intro a M hC f0 ha hn
    have hR := hC.1.1
    have hna := hR.2.1
    rw [f_X5_firstGood_49]
    have e6 : ((6 : Int32) ≤ i3 (a : Int)) = ((6 : Int) ≤ a) := by rw [i3_lit, i3_le (by omega) (by omega) (by omega) (by omega)]
    simp (disch := omega) only [e6]
    refine wp_if (fun hx => ?_) (fun hx => ?_)
    · rw [wp_some]
      refine ⟨?_, hC, f0⟩
      rw [leA_d (fun b hb h => by have := h.1; omega)]
      rfl
    · simp (disch := omega) only [bt_i]
      rw [hm a (by omega)]
      simp (disch := omega) only [b_if]
      rw [i3_sn]
      have nx : ¬ (caP R p s a ∧ ∀ x, lo ≤ x → x ≤ hi → okP R p P s a x) → ∀ N, CB R p t st N → Fr cBt M0 N → wp (f_X5_firstGood_49 k n fl (i3 s) m (i3 lo) (i3 hi) (i3 ((a + 1 : Nat) : Int)) N) (fun r N => r = i3 (leA (fun b => a ≤ b ∧ caP R p s b ∧ ∀ x, lo ≤ x → x ≤ hi → okP R p P s b x) 6 (-1)) ∧ CB R p t st N ∧ Fr cBt M0 N) := by
        intro hno N hC2 f2
        refine wp_mono (ih (a + 1) N hC2 f2 (by omega) (by omega)) (fun r N2 hN => ?_)
        refine ⟨hN.1.trans ?_, hN.2⟩
        congr 1
        refine leA_c (fun b _ => ⟨fun h => ⟨by omega, h.2⟩, fun h => ⟨?_, h.2⟩⟩)
        by_cases hba : b = a
        · subst hba
          exact absurd h.2 hno
        · have := h.1
          omega
      refine wp_if (fun hx2 => ?_) (fun hx2 => ?_)
      · rw [f_X5_leadsWell]
        refine wp_b _ (k_lw hs hx2.1 hk hh hP FU lo M hC f0 (by omega) (by omega) (by rw [FU_s]; omega)) (fun r N hN => ?_)
        obtain ⟨rfl, hC2, f2⟩ := hN
        simp (disch := omega) only [b_if]
        refine wp_if (fun hx3 => ?_) (fun hx3 => ?_)
        · rw [wp_some]
          refine ⟨?_, hC2, f2⟩
          rw [leA_e (by omega) ⟨Nat.le_refl _, hx2, hx3⟩ (fun b hb h => by have := h.1; omega)]
        · exact nx (fun h => hx3 h.2) N hC2 f2
      · exact nx (fun h => hx2 h.1) M hC f0
theorem k_fg {R : tR} {p : Int} {t st s k : Nat} (hs : s < 2079) (hk : 37 ≤ k) {fl : Int32} {P : Nat → Prop} {fr kk : Int} (hf : -2 ≤ fr ∧ fr ≤ 6) (hkk : 0 ≤ kk ∧ kk ≤ 6) {M : gM} (hC : CB R p t st M) (hP : ∀ q : Nat, q < 2079 → (fl ≤ M.1 k q ↔ P q)) :
    wp (f_X5_firstGood k fl (i3 s) (i3 fr) (i3 kk) M) (fun r N => r = i3 (leA (fun b => fr ≤ b ∧ caP R p s b ∧ gdP R p P kk s b) 6 (-1)) ∧ CB R p t st N ∧ Fr cBt M N) := by
  have hR := hC.1.1
  have hlh := lh_r (p := p) (s := s) hR
  rw [f_X5_firstGood]
  refine wp_b _ (c_mask hs hC) (fun m N1 hN => ?_)
  obtain ⟨hm, hC1, f1⟩ := hN
  refine wp_b _ (c_least hs hC1) (fun r N2 hN => ?_)
  obtain ⟨rfl, hC2, f2⟩ := hN
  rw [i3_sub, wp_v]
  refine wp_b _ (c_great hs hC2) (fun r N3 hN => ?_)
  obtain ⟨rfl, hC3, f3⟩ := hN
  have f := (f1.tr f2).tr f3
  rw [i3_add, wp_v]
  simp (disch := omega) only [i3_lit, i3_le]
  refine wp_if (fun hx => ?_) (fun hx => ?_)
  · obtain ⟨a, rfl⟩ : ∃ a : Nat, fr = a := ⟨fr.toNat, by omega⟩
    refine wp_mono (k_fg9 (lo := loR R p s - kk) (hi := hiR R p s + kk) hs hk (by omega) (by omega) (by omega) hP hm FU a N3 hC3 f (by omega) (by rw [FU_s]; omega)) (fun r N4 hN => ?_)
    refine ⟨hN.1.trans ?_, hN.2⟩
    congr 1
    exact leA_c (fun b _ => ⟨fun h => ⟨by have := h.1; omega, h.2⟩, fun h => ⟨by have := h.1; omega, h.2⟩⟩)
  · refine wp_mono (k_fg9 (lo := loR R p s - kk) (hi := hiR R p s + kk) hs hk (by omega) (by omega) (by omega) hP hm FU 0 N3 hC3 f (by omega) (by rw [FU_s]; omega)) (fun r N4 hN => ?_)
    refine ⟨hN.1.trans ?_, hN.2⟩
    congr 1
    exact leA_c (fun b _ => ⟨fun h => ⟨by omega, h.2⟩, fun h => ⟨by omega, h.2⟩⟩)
/-- the list holds the STATES with a property, and no others -/
def LsI (M : gM) (n : Nat) (P : Nat → Prop) : Prop := n ≤ 2079 ∧ (∀ i : Nat, i < n → ∃ s : Nat, s < 2079 ∧ M.1 46 i = i3 s ∧ P s) ∧ ∀ s : Nat, s < 2079 → P s → ∃ i, i < n ∧ M.1 46 i = i3 s
def opP (R : tR) (s : Nat) : Prop := stP R s ∧ ¬ ovP R s
theorem op_lt {R : tR} {s : Nat} : opP R s ↔ stP R s ∧ (s : Int) < rLen R * 231 := by
  unfold opP
  constructor
  · rintro ⟨h1, h2⟩
    refine ⟨h1, ?_⟩
    have h3 := h1.2.2.2.1
    rw [Int.toNat_natCast] at h3
    unfold ovP at h2
    unfold gAt at h2 h3
    omega
  · rintro ⟨h1, h2⟩
    refine ⟨h1, fun h3 => ?_⟩
    unfold ovP gAt at h3
    omega
theorem k_list {R : tR} {p : Int} {t st : Nat} {M : gM} (hC : CB R p t st M) : wp (f_X5_listOpen M) (fun r N => ∃ n : Nat, r = i3 n ∧ CB R p t st N ∧ Fr [46] M N ∧ LsI N n (opP R)) := by
  have hR := hC.1.1
  have hlen := hR.1
  have hl : M.1 t 0 = i3 (rLen R) := hC.1.2.2.2.2.2.1.1
  have ht := hC.1.2.2.1
  rw [f_X5_listOpen]
  obtain ⟨top, htop⟩ : ∃ top : Nat, (top : Int) = rLen R * 231 := ⟨(rLen R * 231).toNat, by omega⟩
  refine wp_lp (F := fun n x (c : Nat) M => f_X5_listOpen_4 n (i3 c) (i3 x) M) (I := fun x c N => c ≤ x ∧ CB R p t st N ∧ Fr [46] M N ∧ (∀ i : Nat, i < c → ∃ s : Nat, s < x ∧ N.1 46 i = i3 s ∧ opP R s) ∧ ∀ s : Nat, s < x → opP R s → ∃ i, i < c ∧ N.1 46 i = i3 s) top ?_ ?_ FU 0 0 M (by omega) (by rw [FU_s]; omega) ⟨by omega, hC, Fr.rf, fun i hi => by omega, fun s hs => by omega⟩
  · intro n x c N hx hI hk
    obtain ⟨i1, i2, i3', i4, i5⟩ := hI
    rw [f_X5_listOpen_4, k_or i2, k_or i2, k_has i2 (by omega), g_b_some, i3'.e1 (by simp; omega), hl]
    simp only [i3_sn]
    simp (disch := omega) only [i3_lit, i3_neg, i3_add, i3_sub, i3_mul, i3_lt, i3_le, i3_eq]
    rw [if_neg (by omega), if_neg (by omega)]
    simp (disch := omega) only [b_if]
    refine wp_if (fun hx2 => ?_) (fun hx2 => ?_)
    · rw [ck_ok (by omega) (by omega) (by omega), wp_m, i3_tn (by omega) (by omega), Int.toNat_natCast]
      have hop : opP R x := op_lt.2 ⟨hx2, by omega⟩
      refine hk (c + 1) _ ⟨by omega, i2.mv (Fr.rf.i (S := [46]) (by decide)) (by decide), i3'.i (by decide), fun i hi => ?_, fun s hs ho => ?_⟩
      · rw [rI_e]
        by_cases hic : i = c
        · subst hic
          exact ⟨x, by omega, up_e, hop⟩
        · obtain ⟨s, h1, h2, h3⟩ := i4 i (by omega)
          exact ⟨s, by omega, by rw [up_n hic, h2], h3⟩
      · rw [rI_e]
        by_cases hsx : s = x
        · subst hsx
          exact ⟨c, by omega, up_e⟩
        · obtain ⟨i, h1, h2⟩ := i5 s (by omega) ho
          exact ⟨i, by omega, by rw [up_n (by omega), h2]⟩
    · refine hk c _ ⟨by omega, i2, i3', fun i hi => ?_, fun s hs ho => ?_⟩
      · obtain ⟨s, h1, h2⟩ := i4 i hi
        exact ⟨s, by omega, h2⟩
      · by_cases hsx : s = x
        · subst hsx
          exact absurd ho.1 hx2
        · exact i5 s (by omega) ho
  · intro n c N hI
    obtain ⟨i1, i2, i3', i4, i5⟩ := hI
    rw [f_X5_listOpen_4, k_or i2, i3'.e1 (by simp; omega), hl]
    simp (disch := omega) only [i3_lit, i3_neg, i3_add, i3_sub, i3_mul, i3_lt, i3_le, i3_eq]
    rw [if_pos (by omega), wp_some]
    refine ⟨c, rfl, i2, i3', by omega, fun i hi => ?_, fun s hs ho => i5 s (by have := (op_lt.1 ho).2; omega) ho⟩
    obtain ⟨s, h1, h2⟩ := i4 i hi
    exact ⟨s, by omega, h2⟩
