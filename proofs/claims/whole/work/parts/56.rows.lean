/-! ===== how many rows, and the first ===== -/
theorem pw_pos {R : tR} (hR : tOk R) (n : Nat) : 0 < rNa R ^ n := Nat.pow_pos (by have := hR.2.1; omega)
theorem dg_add {w u k n : Nat} (h : n < k) : ∀ r : Nat, (u * w ^ k + r) / w ^ n % w = r / w ^ n % w := by
  intro r
  have e : u * w ^ k = w ^ n * (w * (u * w ^ (k - n - 1))) := by
    have : w ^ k = w ^ n * (w * w ^ (k - n - 1)) := by
      rw [show w * w ^ (k - n - 1) = w ^ (k - n - 1 + 1) by rw [Nat.pow_succ, Nat.mul_comm], ← Nat.pow_add]
      congr 1
      omega
    rw [this]
    simp only [Nat.mul_comm, Nat.mul_left_comm, Nat.mul_assoc]
  by_cases hw : w = 0
  · subst hw
    cases n with
    | zero => simp; rw [Nat.zero_pow (by omega)]; simp
    | succ n => simp [Nat.zero_pow]
  · have hp : 0 < w ^ n := Nat.pow_pos (by omega)
    rw [e, Nat.add_comm, Nat.add_mul_div_left _ _ hp, Nat.add_mul_mod_self_left]
/-- only the last n ACTS of the number count -/
theorem bl_per {R : tR} {p : Int} {k u : Nat} : ∀ (n : Nat) (Y : Nat → Prop) (r : Nat), n ≤ k → (blN R p n Y (u * rNa R ^ k + r) ↔ blN R p n Y r) := by
  intro n
  induction n with
  | zero => intro Y r _; exact Iff.rfl
  | succ n ih =>
    intro Y r h
    rw [blN, blN, dg_add (by omega)]
    rw [ih _ r (by omega)]
theorem dg_top {R : tR} {n a r : Nat} (ha : a < rNa R) (hr : r < rNa R ^ n) : (a * rNa R ^ n + r) / rNa R ^ n % rNa R = a := by
  have hp : 0 < rNa R ^ n := by omega
  rw [Nat.add_comm, Nat.add_mul_div_right _ _ hp, Nat.div_eq_of_lt hr, Nat.zero_add, Nat.mod_eq_of_lt ha]
theorem bl_top {R : tR} {p : Int} {n a r : Nat} {Y : Nat → Prop} (ha : a < rNa R) (hr : r < rNa R ^ n) : blN R p (n + 1) Y (a * rNa R ^ n + r) ↔ goB R p Y a ∧ blN R p n (nxB R p Y a) r := by
  rw [blN, dg_top ha hr, bl_per n _ r (Nat.le_refl _)]
theorem cN_sum {P : Nat → Prop} {m : Nat} : ∀ k : Nat, cN P (m + k) = cN P m + cN (fun r => P (m + r)) k := by
  intro k
  induction k with
  | zero => rfl
  | succ k ih =>
    rw [← Nat.add_assoc]
    by_cases h : P (m + k)
    · rw [cN_t h, cN_t (P := fun r => P (m + r)) h, ih, Nat.add_assoc]
    · rw [cN_f h, cN_f (P := fun r => P (m + r)) h, ih]
/-- one ACT's rows -/
theorem bl_sum {R : tR} {p : Int} {n a : Nat} {Y : Nat → Prop} (ha : a < rNa R) : cN (blN R p (n + 1) Y) ((a + 1) * rNa R ^ n) = cN (blN R p (n + 1) Y) (a * rNa R ^ n) + @ite _ (goB R p Y a) (Classical.propDecidable _) (cN (blN R p n (nxB R p Y a)) (rNa R ^ n)) 0 := by
  rw [Nat.succ_mul, cN_sum]
  congr 1
  by_cases hg : goB R p Y a
  · rw [if_pos hg]
    exact cN_c (fun r hr => (bl_top ha hr).trans ⟨fun h => h.2, fun h => ⟨hg, h⟩⟩)
  · rw [if_neg hg]
    exact cN_none _ (fun r hr h => hg ((bl_top ha hr).1 h).1)
/-- the first row, as a number, or -1 -/
noncomputable def frB (R : tR) (p : Int) (n : Nat) (Y : Nat → Prop) : Int := leA (blN R p n Y) (rNa R ^ n) (-1)
theorem cN_ex {P : Nat → Prop} {n : Nat} : 0 < cN P n ↔ ∃ r, r < n ∧ P r := by
  constructor
  · intro h
    apply Classical.byContradiction
    intro hn
    rw [cN_none n (fun s hs hp => hn ⟨s, hs, hp⟩)] at h
    omega
  · rintro ⟨r, h1, h2⟩
    have := cN_lt (P := fun _ => False) (Q := P) h2 (fun h => h) n h1 (fun _ _ h => h.elim)
    omega
def mtB : Nat → Nat
  | 0 => 0
  | d + 1 => 6 * (1 + mtB d)
abbrev cRw : List Nat := cBt ++ [57, 62, 63, 64, 65]
def rwF (lv : Nat) (M N : gM) : Prop := Fr cRw M N ∧ (∀ j, j ≠ 12 → N.1 57 j = M.1 57 j) ∧ (∀ i : Nat, i < (lv + 1) * 2079 → N.1 63 i = M.1 63 i) ∧ (∀ j : Nat, j ≤ lv → N.1 64 j = M.1 64 j) ∧ ∀ j : Nat, j < lv → N.1 62 j = M.1 62 j
theorem rwF.rf {lv : Nat} {M : gM} : rwF lv M M := ⟨Fr.rf, fun _ _ => rfl, fun _ _ => rfl, fun _ _ => rfl, fun _ _ => rfl⟩
theorem rwF.tr {lv : Nat} {M N L : gM} (h : rwF lv M N) (g : rwF lv N L) : rwF lv M L := ⟨h.1.tr g.1, fun j hj => (g.2.1 j hj).trans (h.2.1 j hj), fun i hi => (g.2.2.1 i hi).trans (h.2.2.1 i hi), fun j hj => (g.2.2.2.1 j hj).trans (h.2.2.2.1 j hj), fun j hj => (g.2.2.2.2 j hj).trans (h.2.2.2.2 j hj)⟩
theorem rwF.g {lv : Nat} {M N : gM} (h : agF lv M N) : rwF lv M N := ⟨h.1.up (by decide), h.2.1, h.2.2.1, h.2.2.2, fun j _ => by rw [h.1.e1 (by decide)]⟩
theorem rwF.dn {lv : Nat} {M N : gM} (h : rwF (lv + 1) M N) : rwF lv M N := ⟨h.1, h.2.1, fun i hi => h.2.2.1 i (Nat.lt_of_lt_of_le hi (Nat.mul_le_mul_right 2079 (Nat.le_succ (lv + 1)))), fun j hj => h.2.2.2.1 j (Nat.le_succ_of_le hj), fun j hj => h.2.2.2.2 j (Nat.lt_succ_of_lt hj)⟩
theorem LsB.f {lv : Nat} {Y : Nat → Prop} {M N : gM} (h : LsB M lv Y) (f : rwF lv M N) : LsB N lv Y := by
  obtain ⟨n, h1, h2, h3, h4⟩ := h
  refine ⟨n, h1, by rw [f.2.2.2.1 lv (Nat.le_refl _), h2], fun i hi => ?_, fun q hq hy => ?_⟩
  · rw [f.2.2.1 _ (by omega)]
    exact h3 i hi
  · obtain ⟨i, g1, g2⟩ := h4 q hq hy
    exact ⟨i, g1, by rw [f.2.2.1 _ (by omega), g2]⟩
/-- what a level answers -/
def rwQ (R : tR) (p : Int) (t st lv d mt : Nat) (Y : Nat → Prop) (one : Bool) (M : gM) (r : Int32) (N : gM) : Prop := CB R p t st N ∧ rwF lv M N ∧ (∃ mt2, mt2 ≤ mt + mtB d ∧ mtI mt2 N) ∧ (one = false → r = i3 (cN (blN R p d Y) (rNa R ^ d) : Nat)) ∧ (one = true → (r = i3 0 ∧ frB R p d Y = -1) ∨ (∃ f : Nat, r = i3 1 ∧ frB R p d Y = f ∧ f < rNa R ^ d ∧ ∀ i : Nat, i < d → N.1 62 (lv + i) = i3 ((f / rNa R ^ (d - 1 - i) % rNa R : Nat) : Int)))
theorem pw_le {R : tR} (hR : tOk R) : ∀ d : Nat, d ≤ 4 → rNa R ^ d ≤ 1296 := by
  intro d hd
  have h := hR.2.1
  have h6 : rNa R ^ d ≤ 6 ^ d := Nat.pow_le_pow_left (by omega) d
  have h7 : 6 ^ d ≤ 6 ^ 4 := Nat.pow_le_pow_right (by decide) hd
  have h8 : (6 : Nat) ^ 4 = 1296 := by decide
  omega
theorem k_rows {R : tR} {p : Int} {t st nn : Nat} (hnn : nn ≤ 4) (one : Bool) : ∀ (d dd lv mt : Nat) (Y : Nat → Prop) (M : gM), lv + d = nn → d < dd → mt + mtB d < 1900000000 → CB R p t st M → mtI mt M → LsB M lv Y → (∀ s, Y s → s < 2079 ∧ ¬ ovP R s) →
    wp (f_X6_rowsFrom dd (i3 lv) (i3 nn) one M) (rwQ R p t st lv d mt Y one M) := by
  intro d
  induction d with
  | zero =>
    intro dd lv mt Y M h1 h2 h3 hC hm hY hY2
    obtain ⟨dd, rfl⟩ : ∃ e, dd = e + 1 := ⟨dd - 1, by omega⟩
    rw [f_X6_rowsFrom, f_X6_rowsFrom_b]
    simp (disch := omega) only [i3_le]
    rw [if_pos (by omega), wp_some]
    have hb : blN R p 0 Y 0 := trivial
    refine ⟨hC, rwF.rf, ⟨mt, by omega, hm⟩, fun _ => ?_, fun _ => Or.inr ⟨0, rfl, ?_, ?_, fun i hi => by omega⟩⟩
    · rw [Nat.pow_zero, cN_t hb]
      rfl
    · exact leA_e (by rw [Nat.pow_zero]; omega) hb (fun b hb => by omega)
    · rw [Nat.pow_zero]; omega
  | succ d ih =>
    intro dd lv mt Y M h1 h2 h3 hC hm hY hY2
    obtain ⟨dd, rfl⟩ : ∃ e, dd = e + 1 := ⟨dd - 1, by omega⟩
    have hR := hC.1.1
    have hna := hR.2.1
    have hpos := pw_pos hR d
    have hpl := pw_le hR (d + 1) (by omega)
    have hps : rNa R ^ (d + 1) = rNa R * rNa R ^ d := by rw [Nat.pow_succ, Nat.mul_comm]
    have hmt : mtB (d + 1) = 6 * (1 + mtB d) := rfl
    rw [f_X6_rowsFrom, f_X6_rowsFrom_b]
    simp (disch := omega) only [iL4, i3_le, i3_lt]
    rw [if_neg (by omega), if_pos (by omega)]
    have hxs : ∀ x : Nat, x ≤ rNa R → x * rNa R ^ d ≤ rNa R ^ (d + 1) := fun x hx => by rw [hps]; exact Nat.mul_le_mul_right _ hx
    -- the value that is carried
    refine wp_lp (F := fun n x (c : Nat) M => f_X6_rowsFrom_18 (f_X6_rowsFrom dd) n (i3 lv) (i3 nn) one (i3 c) (i3 x) M)
      (I := fun x c N => CB R p t st N ∧ rwF lv M N ∧ (∃ mt2, mt2 ≤ mt + x * (1 + mtB d) ∧ mtI mt2 N) ∧ c ≤ 1296 ∧ (one = false → c = cN (blN R p (d + 1) Y) (x * rNa R ^ d)) ∧ (one = true → (c = 0 ∧ ∀ r : Nat, r < x * rNa R ^ d → ¬ blN R p (d + 1) Y r) ∨ (∃ f : Nat, c = 1 ∧ frB R p (d + 1) Y = f ∧ f < rNa R ^ (d + 1) ∧ ∀ i : Nat, i < d + 1 → N.1 62 (lv + i) = i3 ((f / rNa R ^ (d + 1 - 1 - i) % rNa R : Nat) : Int)))) (rNa R) ?_ ?_ FU 0 0 M (by omega) (by rw [FU_s]; omega) ⟨hC, rwF.rf, ⟨mt, by omega, hm⟩, by omega, fun _ => by rw [Nat.zero_mul]; rfl, fun _ => Or.inl ⟨rfl, fun r hr => by omega⟩⟩
    · intro n x c N hx hI hk2
      obtain ⟨i1, fr, ⟨mt2, hm1, hm2⟩, i5, i6, i7⟩ := hI
      have hl5 : N.1 t 5 = i3 (rNa R) := i1.1.2.2.2.2.2.1.2.2.2.1
      have hxd : x * (1 + mtB d) ≤ 6 * (1 + mtB d) := Nat.mul_le_mul_right _ (by omega)
      have hxd1 : (x + 1) * (1 + mtB d) = x * (1 + mtB d) + (1 + mtB d) := Nat.succ_mul _ _
      have hxd2 : (x + 1) * (1 + mtB d) ≤ 6 * (1 + mtB d) := Nat.mul_le_mul_right _ (by omega)
      have hx1 := hxs (x + 1) (by omega)
      have hx2 : (x + 1) * rNa R ^ d = x * rNa R ^ d + rNa R ^ d := Nat.succ_mul _ _
      -- the ACT is tried
      have tryIt : ((one = true → c = 0 ∧ ∀ r : Nat, r < x * rNa R ^ d → ¬ blN R p (d + 1) Y r)) → wp (f_X6_rowsFrom_42 (f_X6_rowsFrom dd) (f_X6_rowsFrom_18 (f_X6_rowsFrom dd) n) (i3 lv) (i3 nn) one (i3 c) (i3 x) N) (rwQ R p t st lv (d + 1) mt Y one M) := by
        intro hone
        rw [f_X6_rowsFrom_42]
        refine wp_b _ (k_ag i1 hx (by omega) (by omega) hm2 (hY.f fr) hY2) (fun r N2 hN => ?_)
        obtain ⟨rfl, g1, g2, g3, g4⟩ := hN
        have fr2 := fr.tr (rwF.g g2)
        rw [b_if]
        refine wp_if (fun hg => ?_) (fun hg => ?_)
        · rw [ck_ok (by omega) (by omega) (by omega), wp_m, tn_n (by omega)]
          have f3 : Fr [62] N2 (sI N2 62 lv (i3 x)) := Fr.rf.i (by decide)
          have q62 : (sI N2 62 lv (i3 x)).1 62 = upd (N2.1 62) lv (i3 x) := rI_e
          generalize sI N2 62 lv (i3 x) = N3 at f3 q62 ⊢
          have fr3 : rwF lv N2 N3 := ⟨f3.up (by decide), fun j _ => by rw [f3.e1 (by decide)], fun i _ => by rw [f3.e1 (by decide)], fun j _ => by rw [f3.e1 (by decide)], fun j hj => by rw [q62, up_n (by omega)]⟩
          have hL3 : LsB N3 (lv + 1) (nxB R p Y x) := by
            obtain ⟨n2, v1, v2, v3, v4⟩ := g4 hg
            refine ⟨n2, v1, by rw [f3.e1 (by decide), v2], fun i hi => by rw [f3.e1 (by decide)]; exact v3 i hi, fun q hq hy => by rw [f3.e1 (by decide)]; exact v4 q hq hy⟩
          have hm3 : mtI (mt2 + 1) N3 := ⟨by rw [f3.e1 (by decide)]; exact g3.1, fun q hq => by rw [f3.e1 (by decide)]; exact g3.2 q hq⟩
          rw [show i3 (lv : Int) + 1 = i3 ((lv + 1 : Nat) : Int) from i3_sn lv]
          refine wp_b _ (ih dd (lv + 1) (mt2 + 1) (nxB R p Y x) N3 (by omega) (by omega) (by omega) (g1.mv f3 (by decide)) hm3 hL3 (fun s hs => ⟨?_, hs.1⟩)) (fun r N4 hN => ?_)
          · obtain ⟨-, s2, g, -, -, -, h⟩ := hs
            have := nx_n hR p s2 x g
            omega
          · obtain ⟨u1, u2, ⟨mt3, u3, u4⟩, u5, u6⟩ := hN
            have fr4 := (fr2.tr fr3).tr u2.dn
            have q62b : N4.1 62 lv = i3 x := by rw [u2.2.2.2.2 lv (by omega), q62, up_e]
            rw [wp_v]
            rw [show i3 (x : Int) + 1 = i3 ((x + 1 : Nat) : Int) from i3_sn x]
            cases one with
            | false =>
              have hr := u5 rfl
              have hc := i6 rfl
              have hsum := bl_sum (p := p) (n := d) (Y := Y) hx
              rw [if_pos hg, ← hc] at hsum
              have hcl := cN_le (P := blN R p (d + 1) Y) ((x + 1) * rNa R ^ d)
              rw [hr, i3_add]
              refine hk2 (c + cN (blN R p d (nxB R p Y x)) (rNa R ^ d)) N4 ⟨u1, fr4, ⟨mt3, by omega, u4⟩, by omega, fun _ => hsum.symm, fun h => by cases h⟩
            | true =>
              obtain ⟨hc0, hno⟩ := hone rfl
              rcases u6 rfl with ⟨hr, hf⟩ | ⟨f, hr, hf, hfl, hf2⟩
              · rw [hr, i3_add]
                refine hk2 (c + 0) N4 ⟨u1, fr4, ⟨mt3, by omega, u4⟩, by omega, fun h => (by cases h), fun _ => Or.inl ⟨by omega, fun r hr => ?_⟩⟩
                by_cases hrx : r < x * rNa R ^ d
                · exact hno r hrx
                · intro hb
                  obtain ⟨r', rfl⟩ : ∃ r', r = x * rNa R ^ d + r' := ⟨r - x * rNa R ^ d, by omega⟩
                  have hb2 := ((bl_top hx (by omega)).1 hb).2
                  rcases leA_x (P := blN R p d (nxB R p Y x)) (n := rNa R ^ d) (-1) with ⟨z, -, -, -, hz⟩ | ⟨hz, -⟩
                  · have : frB R p d (nxB R p Y x) = z := hz
                    omega
                  · exact hz r' (by omega) hb2
              · rw [hr, i3_add]
                have hfl2 : x * rNa R ^ d + f < rNa R ^ (d + 1) := by omega
                have hfb : blN R p d (nxB R p Y x) f ∧ ∀ b : Nat, b < f → ¬ blN R p d (nxB R p Y x) b := by
                  rcases leA_x (P := blN R p d (nxB R p Y x)) (n := rNa R ^ d) (-1) with ⟨z, z1, z2, z3, z4⟩ | ⟨-, hz⟩
                  · have : f = z := by
                      have : frB R p d (nxB R p Y x) = z := z4
                      omega
                    subst this
                    exact ⟨z2, z3⟩
                  · have : frB R p d (nxB R p Y x) = -1 := hz
                    omega
                refine hk2 (c + 1) N4 ⟨u1, fr4, ⟨mt3, by omega, u4⟩, by omega, fun h => (by cases h), fun _ => Or.inr ⟨x * rNa R ^ d + f, by omega, ?_, hfl2, fun i hi => ?_⟩⟩
                · refine leA_e hfl2 ((bl_top hx hfl).2 ⟨hg, hfb.1⟩) (fun r hr hb => ?_)
                  by_cases hrx : r < x * rNa R ^ d
                  · exact hno r hrx hb
                  · obtain ⟨r', rfl⟩ : ∃ r', r = x * rNa R ^ d + r' := ⟨r - x * rNa R ^ d, by omega⟩
                    exact hfb.2 r' (by omega) ((bl_top hx (by omega)).1 hb).2
                · cases i with
                  | zero =>
                    rw [Nat.add_zero, q62b]
                    rw [show d + 1 - 1 - 0 = d by omega, dg_top hx hfl]
                  | succ i =>
                    rw [show lv + (i + 1) = lv + 1 + i by omega, hf2 i (by omega), show d + 1 - 1 - (i + 1) = d - 1 - i by omega, dg_add (by omega)]
        · rw [show i3 (x : Int) + 1 = i3 ((x + 1 : Nat) : Int) from i3_sn x]
          refine hk2 c N2 ⟨g1, fr2, ⟨mt2 + 1, by omega, g3⟩, i5, fun h => ?_, fun h => Or.inl ⟨(hone h).1, fun r hr hb => ?_⟩⟩
          · rw [bl_sum hx, if_neg hg, i6 h]
            rfl
          · by_cases hrx : r < x * rNa R ^ d
            · exact (hone h).2 r hrx hb
            · obtain ⟨r', rfl⟩ : ∃ r', r = x * rNa R ^ d + r' := ⟨r - x * rNa R ^ d, by omega⟩
              exact hg ((bl_top hx (by omega)).1 hb).1
      rw [f_X6_rowsFrom_18, k_or i1, hl5]
      simp (disch := omega) only [iL0, i3_le, i3_lt]
      rw [if_neg (by omega)]
      cases hone : one with
      | false =>
        rw [if_neg (by decide)]
        have := tryIt (fun h => by rw [hone] at h; cases h)
        rw [hone] at this
        exact this
      | true =>
        rw [if_pos rfl]
        refine wp_if (fun hc => ?_) (fun hc => ?_)
        · rw [wp_some]
          rcases i7 hone with h | ⟨f, v1, v2, v3, v4⟩
          · omega
          · refine ⟨i1, fr, ⟨mt2, by omega, hm2⟩, fun h => (by cases h), fun _ => Or.inr ⟨f, by rw [v1]; rfl, v2, v3, v4⟩⟩
        · have := tryIt (fun _ => by
            rcases i7 hone with h | ⟨f, v1, -⟩
            · exact h
            · omega)
          rw [hone] at this
          exact this
    · intro n c N hI
      obtain ⟨i1, fr, ⟨mt2, hm1, hm2⟩, i5, i6, i7⟩ := hI
      have hl5 : N.1 t 5 = i3 (rNa R) := i1.1.2.2.2.2.2.1.2.2.2.1
      have hxd : rNa R * (1 + mtB d) ≤ 6 * (1 + mtB d) := Nat.mul_le_mul_right _ (by omega)
      rw [f_X6_rowsFrom_18, k_or i1, hl5]
      simp (disch := omega) only [i3_le]
      rw [if_pos (by omega), wp_some]
      refine ⟨i1, fr, ⟨mt2, by omega, hm2⟩, fun h => by rw [i6 h, hps], fun h => ?_⟩
      rcases i7 h with ⟨v1, v2⟩ | ⟨f, v1, v2, v3, v4⟩
      · refine Or.inl ⟨by rw [v1]; rfl, leA_d (fun r hr => v2 r (by rw [← hps]; exact hr))⟩
      · exact Or.inr ⟨f, by rw [v1]; rfl, v2, v3, v4⟩
/-- the start -/
def bs0 (R : tR) (s0 s : Nat) : Prop := s = s0 ∧ ¬ ovP R s
theorem k_blind {R : tR} {p : Int} {t st nn mt s0 : Nat} (hn1 : nn ≤ 4) (one : Bool) {M : gM} (hs : s0 < 2079) (hmt : mt + 1554 < 1900000000) (hC : CB R p t st M) (hm : mtI mt M) : wp (f_X6_blindRows (i3 s0) (i3 nn) one M) (fun r N => CB R p t st N ∧ Fr cRw M N ∧ (∀ j, j ≠ 12 → N.1 57 j = M.1 57 j) ∧ (∃ mt2, mt2 ≤ mt + 1554 ∧ mtI mt2 N) ∧ (one = false → r = i3 (cN (blN R p nn (bs0 R s0)) (rNa R ^ nn) : Nat)) ∧ (one = true → (r = i3 0 ∧ frB R p nn (bs0 R s0) = -1) ∨ (∃ f : Nat, r = i3 1 ∧ frB R p nn (bs0 R s0) = f ∧ f < rNa R ^ nn ∧ ∀ i : Nat, i < nn → N.1 62 i = i3 ((f / rNa R ^ (nn - 1 - i) % rNa R : Nat) : Int)))) := by
  rw [f_X6_blindRows]
  rw [iL0, ck_ok (by omega) (by omega) (by omega), wp_m, show tn (i3 0) = 0 from rfl]
  have f1 : Fr [63] M (sI M 63 0 (i3 s0)) := Fr.rf.i (by decide)
  have q63 : (sI M 63 0 (i3 s0)).1 63 0 = i3 s0 := by rw [rI_e, up_e]
  generalize sI M 63 0 (i3 s0) = M1 at f1 q63 ⊢
  have hC1 := hC.mv f1 (by decide)
  rw [k_or hC1, k_over hC1 hs, g_b_some, b_if]
  have hmB : mtB nn ≤ 1554 := by
    have c : nn = 0 ∨ nn = 1 ∨ nn = 2 ∨ nn = 3 ∨ nn = 4 := by omega
    rcases c with rfl | rfl | rfl | rfl | rfl <;> decide
  have go : ∀ n0 : Nat, (n0 = 0 ∧ ovP R s0) ∨ (n0 = 1 ∧ ¬ ovP R s0) → wp (f_X6_blindRows_31 (i3 nn) one (i3 0) (i3 (n0 : Int)) M1) (fun r N => CB R p t st N ∧ Fr cRw M N ∧ (∀ j, j ≠ 12 → N.1 57 j = M.1 57 j) ∧ (∃ mt2, mt2 ≤ mt + 1554 ∧ mtI mt2 N) ∧ (one = false → r = i3 (cN (blN R p nn (bs0 R s0)) (rNa R ^ nn) : Nat)) ∧ (one = true → (r = i3 0 ∧ frB R p nn (bs0 R s0) = -1) ∨ (∃ f : Nat, r = i3 1 ∧ frB R p nn (bs0 R s0) = f ∧ f < rNa R ^ nn ∧ ∀ i : Nat, i < nn → N.1 62 i = i3 ((f / rNa R ^ (nn - 1 - i) % rNa R : Nat) : Int)))) := by
    intro n0 hcase
    rw [f_X6_blindRows_31, ck_ok (by omega) (by omega) (by omega), wp_m, show tn (i3 0) = 0 from rfl]
    have f2 : Fr [64] M1 (sI M1 64 0 (i3 n0)) := Fr.rf.i (by decide)
    have q64 : (sI M1 64 0 (i3 n0)).1 64 0 = i3 n0 := by rw [rI_e, up_e]
    have p63 : (sI M1 64 0 (i3 n0)).1 63 0 = i3 s0 := by rw [rI_n (by decide), q63]
    generalize sI M1 64 0 (i3 n0) = M2 at f2 q64 p63 ⊢
    have f12 : Fr cRw M M2 := (f1.up (by decide)).tr (f2.up (by decide))
    have hm2 : mtI mt M2 := ⟨by rw [f2.e1 (by decide), f1.e1 (by decide)]; exact hm.1, fun q hq => by rw [f2.e1 (by decide), f1.e1 (by decide)]; exact hm.2 q hq⟩
    have hL : LsB M2 0 (bs0 R s0) := by
      refine ⟨n0, by omega, q64, fun i hi => ?_, fun q hq hy => ?_⟩
      · have h1 : n0 = 1 ∧ ¬ ovP R s0 := hcase.resolve_left (fun h => by omega)
        have : i = 0 := by omega
        subst this
        exact ⟨s0, hs, p63, rfl, h1.2⟩
      · have h1 : n0 = 1 ∧ ¬ ovP R s0 := hcase.resolve_left (fun h => hy.2 (by rw [hy.1]; exact h.2))
        rw [hy.1]
        exact ⟨0, by omega, p63⟩
    refine wp_b _ (show wp (f_X6_rowsFrom 6 (i3 ((0 : Nat) : Int)) (i3 nn) one M2) _ from k_rows hn1 one nn 6 0 mt (bs0 R s0) M2 (by omega) (by omega) (by omega) (hC1.mv f2 (by decide)) hm2 hL (fun s h => ⟨by rw [h.1]; exact hs, h.2⟩)) (fun r N hN => ?_)
    rw [wp_some]
    obtain ⟨u1, u2, ⟨mt2, u3, u4⟩, u5, u6⟩ := hN
    refine ⟨u1, f12.tr u2.1, fun j hj => by rw [u2.2.1 j hj, f2.e1 (by decide), f1.e1 (by decide)], ⟨mt2, by omega, u4⟩, u5, fun h => ?_⟩
    rcases u6 h with v | ⟨f, v1, v2, v3, v4⟩
    · exact Or.inl v
    · exact Or.inr ⟨f, v1, v2, v3, fun i hi => by have := v4 i hi; rw [Nat.zero_add] at this; exact this⟩
  refine wp_if (fun ho => ?_) (fun ho => ?_)
  · exact go 0 (Or.inl ⟨rfl, ho⟩)
  · exact go 1 (Or.inr ⟨rfl, ho⟩)
