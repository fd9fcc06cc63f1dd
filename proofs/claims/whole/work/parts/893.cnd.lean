/-! ===== both parsers side by side: CONDS ===== -/
theorem g_ass {α β γ : Type} {o : Option (α × gM)} {k : α → gM → Option (β × gM)} {K : β → gM → Option γ} : g_b (g_b o k) K = g_b o (fun r M => g_b (k r M) K) := by
  cases o with
  | none => rfl
  | some p => rfl
def lQ (M : gM) (h ub k : Nat) (l : Lw) : Prop := M.1 32 k = b2i l.2.1 ∧ M.1 33 k = i3 (lcT l.2.2.1) ∧ ∃ a : Nat, (500 * h ≤ a ∧ a + l.2.2.2.1.length + l.2.2.2.2.length ≤ ub) ∧ M.1 34 k = i3 (a : Int) ∧ M.1 35 k = i3 ((a + l.2.2.2.1.length : Nat) : Int) ∧ M.1 36 k = i3 ((a + l.2.2.2.1.length + l.2.2.2.2.length : Nat) : Int) ∧ FV (M.1 29) (M.1 30) a l.2.2.2.1 ∧ FV (M.1 29) (M.1 30) (a + l.2.2.2.1.length) l.2.2.2.2
def rQ (M : gM) (h ub k row : Nat) : List Lw → Prop
  | [] => True
  | l :: L => M.1 37 k = i3 (((if l.1 then row + 1 else row) : Nat) : Int) ∧ lQ M h ub k l ∧ rQ M h ub (k + 1) (if l.1 then row + 1 else row) L
def rwL (row : Nat) : List Lw → Nat
  | [] => row
  | l :: L => rwL (if l.1 then row + 1 else row) L
theorem rwL_s : ∀ (L : List Lw) (row : Nat) (l : Lw), rwL row (L ++ [l]) = (if l.1 then rwL row L + 1 else rwL row L) := by
  intro L
  induction L with
  | nil => intro row l; rfl
  | cons x L ih => intro row l; exact ih _ l
theorem rwL_b : ∀ (L : List Lw) (row : Nat), rwL row L ≤ row + L.length := by
  intro L
  induction L with
  | nil => intro row; exact Nat.le_refl _
  | cons x L ih =>
    intro row
    rw [rwL, List.length_cons]
    have := ih (if x.1 then row + 1 else row)
    have h2 : (if x.1 then row + 1 else row) ≤ row + 1 := by split <;> omega
    omega
section
variable {M N : gM} {h ub ub' : Nat}
theorem lQ.mv {k : Nat} {l : Lw} (H : lQ M h ub k l) (hu : ub ≤ ub') (e : ∀ j, 500 * h ≤ j → j < ub → N.1 29 j = M.1 29 j ∧ N.1 30 j = M.1 30 j) (g : ∀ q, 32 ≤ q → q ≤ 37 → N.1 q k = M.1 q k) : lQ N h ub' k l := by
  obtain ⟨h1, h2, a, h3, h4, h5, h6, h7, h8⟩ := H
  exact ⟨by rw [g 32 (by omega) (by omega), h1], by rw [g 33 (by omega) (by omega), h2], a, ⟨h3.1, by omega⟩, by rw [g 34 (by omega) (by omega), h4], by rw [g 35 (by omega) (by omega), h5], by rw [g 36 (by omega) (by omega), h6], FV_c _ _ (fun j j1 j2 => e j (by omega) (by omega)) h7, FV_c _ _ (fun j j1 j2 => e j (by omega) (by omega)) h8⟩
theorem rQ_m (hu : ub ≤ ub') (e : ∀ j, 500 * h ≤ j → j < ub → N.1 29 j = M.1 29 j ∧ N.1 30 j = M.1 30 j) : ∀ (L : List Lw) (k row : Nat), (∀ q, 32 ≤ q → q ≤ 37 → ∀ j, k ≤ j → j < k + L.length → N.1 q j = M.1 q j) → rQ M h ub k row L → rQ N h ub' k row L := by
  intro L
  induction L with
  | nil => intro k row _ _; trivial
  | cons l L ih =>
    intro k row g H
    rw [List.length_cons] at g
    exact ⟨by rw [g 37 (by omega) (by omega) k (Nat.le_refl _) (by omega)]; exact H.1, H.2.1.mv hu e (fun q q1 q2 => g q q1 q2 k (Nat.le_refl _) (by omega)), ih _ _ (fun q q1 q2 j j1 j2 => g q q1 q2 j (by omega) (by omega)) H.2.2⟩
theorem rQ_s : ∀ (L : List Lw) (k row : Nat) (l : Lw), rQ M h ub k row L → M.1 37 (k + L.length) = i3 (((if l.1 then rwL row L + 1 else rwL row L) : Nat) : Int) → lQ M h ub (k + L.length) l → rQ M h ub k row (L ++ [l]) := by
  intro L
  induction L with
  | nil => intro k row l _ h1 h2; exact ⟨h1, h2, trivial⟩
  | cons x L ih =>
    intro k row l H h1 h2
    rw [List.length_cons, show k + (L.length + 1) = k + 1 + L.length by omega] at h1 h2
    exact ⟨H.1, H.2.1, ih _ _ _ H.2.2 h1 h2⟩
theorem rQ_L (hu : ub ≤ 500 * h + 500) : ∀ (L : List Lw) (k row : Nat), rQ M h ub k row L → rL M h k row L := by
  intro L
  induction L with
  | nil => intro k row _; trivial
  | cons l L ih =>
    intro k row H
    obtain ⟨h1, h2, a, h3, h4⟩ := H.2.1
    exact ⟨H.1, ⟨h1, h2, a, ⟨h3.1, by omega⟩, h4⟩, ih _ _ H.2.2⟩
end
section
variable {tb : Nat → Nat} {n t h sz c l i i0 cc : Nat} {M M0 N N0 : gM} {ws : List Int32} {L : List Lw}
def KS (tb : Nat → Nat) (n t sz : Nat) (M0 : gM) (i : Nat) (ws : List Int32) (M : gM) : Prop := CH tb n t i M ∧ EF t sz M0 M ∧ M.1 t 8 = i3 ((sz + ws.length : Nat) : Int) ∧ SG (M.1 (t + 1)) sz ws
def RS (tb : Nat → Nat) (n h c l : Nat) (N0 : gM) (i cc : Nat) (L : List Lw) (N : gM) : Prop := DH tb n h i N ∧ EG h c l N0 N ∧ N.1 28 h = i3 ((500 * h + c + cc : Nat) : Int) ∧ N.1 31 h = i3 ((200 * h + l + L.length : Nat) : Int) ∧ rQ N h (500 * h + c + cc) (200 * h + l) 0 L ∧ N.1 0 63 = i3 ((200 * h + l : Nat) : Int)
theorem KS.x {i' : Nat} {X : List Cw} {M' : gM} (hK : KS tb n t sz M0 i ws M) (hC : CS tb n t (sz + ws.length) M i' [] X M') : KS tb n t sz M0 i' (ws ++ X.map ec1) M' := by
  obtain ⟨h1, h2, h3, h4⟩ := hK
  obtain ⟨c1, c2, c3, c4, c5, c6, c7⟩ := hC
  refine ⟨c1, h2.tr (by omega) c2, ?_, ?_⟩
  · rw [c6, List.length_append, List.length_map, Nat.add_assoc]
  · rw [SG_a]
    exact ⟨SG_c _ _ (fun k k1 k2 => c2.2.2.2.2 k k2) h4, c7⟩
theorem KS.emit (hK : KS tb n t sz M0 i ws M) (hs : sz + ws.length < 800) {w : Int32} : ∃ M', f_X4_emit t w M = some ((), M') ∧ KS tb n t sz M0 i (ws ++ [w]) M' := by
  obtain ⟨h1, h2, h3, h4⟩ := hK
  have ht := h1.1
  refine ⟨sI (sI M (t + 1) (sz + ws.length) w) t 8 (i3 ((sz + (ws ++ [w]).length : Nat) : Int)), ?_, h1.mv ?_ ?_ rfl ?_ ?_, h2.e ht (by omega), by rw [rI_e, up_e], ?_⟩
  · rw [f_X4_emit, h3, iL800, if_neg (by rw [i3_le (by omega) (by omega) (by omega) (by omega)]; omega), ck_ok (by omega) (by omega) (by omega), g_m, tn_n (by omega), g_m, rI_n (by omega), h3, i3_s1, List.length_append, List.length_singleton]
    rfl
  · rw [rI_n (by omega), rI_n (by omega)]
  · rw [rI_n (by omega), rI_n (by omega)]
  · rw [rI_n (by omega), rI_n (by omega)]
  · rw [rI_n (by omega), rI_n (by omega)]
  · rw [rI_n (by omega), rI_e, SG_a]
    refine ⟨SG_c _ _ (fun k k1 k2 => ?_) h4, by rw [up_e], trivial⟩
    rw [up_n (by omega)]
theorem KS.st (hK : KS tb n t sz M0 i ws M) (hi : i < 400) (hk : kdT tb n i < 30) : KS tb n t sz M0 (i + 1) ws (sI M 21 4 (i3 ((i + 1 : Nat) : Int))) := by
  obtain ⟨h1, h2, h3, h4⟩ := hK
  have ht := h1.1
  exact ⟨h1.nx hi hk, h2.p ht (by omega), by rw [rI_n (by omega)]; exact h3, by rw [rI_n (by omega)]; exact h4⟩
theorem RS.x {i' : Nat} {X : List Cw} {N' : gM} (hL : RS tb n h c l N0 i cc L N) (hl : l + L.length ≤ 200) (hD : DS tb n h (c + cc) N i' [] X N') : RS tb n h c l N0 i' (cc + X.length) L N' ∧ FV (N'.1 29) (N'.1 30) (500 * h + c + cc) X ∧ N'.1 0 62 = i3 ((500 * h + c + cc : Nat) : Int) := by
  obtain ⟨h1, h2, h3, h4, h5, h6⟩ := hL
  obtain ⟨d1, d2, d3, d4, d5, d6, d7, d8, d9⟩ := hD
  refine ⟨⟨d1, h2.tr (by omega) (by omega) d2, ?_, by rw [d3.1, h4], ?_, ?_⟩, ?_, ?_⟩
  · rw [d7]; congr 2; omega
  · exact rQ_m (by omega) (fun j j1 j2 => d2.2.2.2.2.1 j (Or.inl (by omega))) L _ _ (fun q q1 q2 j j1 j2 => d2.2.2.2.2.2 q q1 q2 j (by omega)) h5
  · rw [d3.2, h6]
  · rw [Nat.add_assoc]; exact d8
  · rw [d9, Nat.add_assoc]
theorem RS.st (hL : RS tb n h c l N0 i cc L N) (hi : i < 400) (hk : kdT tb n i < 30) : RS tb n h c l N0 (i + 1) cc L (sI N 0 8 (i3 ((i + 1 : Nat) : Int))) := by
  obtain ⟨h1, h2, h3, h4, h5, h6⟩ := hL
  refine ⟨h1.nx hi hk, h2.o (by omega), by rw [rI_n (by decide)]; exact h3, by rw [rI_n (by decide)]; exact h4, ?_, by rw [rI_e, up_n (by decide)]; exact h6⟩
  exact rQ_m (Nat.le_refl _) (fun j _ _ => by rw [rI_n (by decide), rI_n (by decide)]; exact ⟨rfl, rfl⟩) L _ _ (fun q q1 q2 j _ _ => by rw [rI_n (by omega)]) h5
theorem RS.tw (hL : RS tb n h c l N0 i cc L N) (hl : l + L.length < 200) {q : Nat} {x : Int32} (hq : 32 ≤ q ∧ q ≤ 37) : RS tb n h c l N0 i cc L (sI N q (200 * h + l + L.length) x) := by
  obtain ⟨h1, h2, h3, h4, h5, h6⟩ := hL
  refine ⟨h1.mv (by rw [rI_n (by omega)]) (by rw [rI_n (by omega)]) (by rw [rI_n (by omega)]) rfl (by rw [rI_n (by omega)]) (by rw [rI_n (by omega)]) (by rw [rI_n (by omega)]), h2.t hq (by omega), by rw [rI_n (by omega)]; exact h3, by rw [rI_n (by omega)]; exact h4, ?_, by rw [rI_n (by omega)]; exact h6⟩
  refine rQ_m (Nat.le_refl _) (fun j _ _ => by rw [rI_n (by omega), rI_n (by omega)]; exact ⟨rfl, rfl⟩) L _ _ (fun s s1 s2 j j1 j2 => ?_) h5
  by_cases e : s = q
  · subst e; rw [rI_e, up_n (by omega)]
  · rw [rI_n e]
def cQ (tb : Nat → Nat) (n t h sz c l i0 : Nat) (M0 N0 : gM) (r1 : Bool) (M : gM) (r2 : Bool) (N : gM) : Prop := r1 = r2 ∧ EF t sz M0 M ∧ EG h c l N0 N ∧ (r1 = false → FL M N) ∧ (r1 = true → ∃ i' cc L, i0 < i' ∧ (∀ l' ∈ L, okL l') ∧ (∃ l' L', L = l' :: L' ∧ l'.1 = false) ∧ KS tb n t sz M0 i' (L.flatMap lw ++ [i3 9]) M ∧ RS tb n h c l N0 i' cc L N ∧ sz + (L.flatMap lw).length ≤ i' ∧ c + cc ≤ i' ∧ 3 * (l + L.length) ≤ i')
theorem cq_f {f : Nat} (hf : f = 1 ∨ f = 2) (hC : KS tb n t sz M0 i ws M) (hD : RS tb n h c l N0 i cc L N) : cQ tb n t h sz c l i0 M0 N0 false (sI (sI M 21 1 (i3 (f : Int))) 21 0 (i3 ((stT tb n i : Nat) : Int))) false (sI (sI N 0 9 (i3 (f : Int))) 0 10 (i3 ((stT tb n i : Nat) : Int))) := ⟨rfl, (hC.2.1.p hC.1.1 (by omega)).p hC.1.1 (by omega), (hD.2.1.o (by omega)).o (by omega), fun _ => FL_m hf hC.1, fun g => by cases g⟩
theorem k_step {K1 : Bool → gM → Option (Bool × gM)} (hK1 : ∀ M, K1 false M = some (false, M)) (hC : KS tb n t sz M0 i ws M) (hD : RS tb n h c l N0 i cc L N) (hk : kdT tb n i < 30) {k1 k2 : gM → Option (Bool × gM)} (hK : ∀ M' N', i < 400 → KS tb n t sz M0 (i + 1) ws M' → RS tb n h c l N0 (i + 1) cc L N' → w2 (g_b (k1 M') K1) (k2 N') (cQ tb n t h sz c l i0 M0 N0)) : w2 (g_b (g_b (f_X1_step M) (fun r M' => if r then k1 M' else some (false, M'))) K1) (g_b (f_X10_pass N) (fun r N' => if r then k2 N' else some (false, N'))) (cQ tb n t h sz c l i0 M0 N0) := by
  by_cases hi : i < 400
  · rw [hC.1.step hi, hD.1.pass hi, g_b_some, g_b_some, if_pos rfl, if_pos rfl]
    exact hK _ _ hi (hC.st hi hk) (hD.st hi hk)
  · rw [hC.1.stepF hi, hD.1.passF hi, g_b_some, g_b_some, if_neg (by decide), if_neg (by decide), g_b_some, hK1, w2_s]
    exact cq_f (Or.inr rfl) hC hD
theorem K_id {o : Option (Bool × gM)} : g_b o (fun r M => some (r, M)) = o := by
  cases o with
  | none => rfl
  | some p => rfl
/-- a sum within a COND -/
theorem k_expr {K1 : Bool → gM → Option (Bool × gM)} (hK1 : ∀ M, K1 false M = some (false, M)) (hC : KS tb n t sz M0 i ws M) (hD : RS tb n h c l N0 i cc L N) (h1 : sz + ws.length ≤ i + 1) (h2 : c + cc ≤ i) (hl : l + L.length ≤ 200) {k1 k2 : gM → Option (Bool × gM)}
    (hK : ∀ i' X M' N', i < i' → dF 15 X 0 1 → X.length ≤ i' - i → KS tb n t sz M0 i' (ws ++ X.map ec1) M' → RS tb n h c l N0 i' (cc + X.length) L N' → FV (N'.1 29) (N'.1 30) (500 * h + c + cc) X → N'.1 0 62 = i3 ((500 * h + c + cc : Nat) : Int) → EG h (c + cc) 200 N N' → w2 (g_b (k1 M') K1) (k2 N') (cQ tb n t h sz c l i0 M0 N0)) : w2 (g_b (g_b (f_X1_expression M) (fun r M' => if r then k1 M' else some (false, M'))) K1) (g_b (f_X10_expr N) (fun r N' => if r then k2 N' else some (false, N'))) (cQ tb n t h sz c l i0 M0 N0) := by
  rw [g_ass]
  refine w2_b _ (L_expr (sz := sz + ws.length) (c := c + cc) h1 h2 hC.1 hD.1 hC.2.2.1 (by rw [hD.2.2.1, Nat.add_assoc])) (fun r1 M' r2 N' hx => ?_)
  obtain ⟨rfl, e1, e2, e3, e4, e5⟩ := hx
  cases r1 with
  | false =>
    rw [if_neg nFT, if_neg nFT, g_b_some, hK1, w2_s]
    exact ⟨rfl, hC.2.1.tr (by omega) e1, hD.2.1.tr (by omega) (by omega) e2, fun _ => e4 rfl, fun g => by cases g⟩
  | true =>
    obtain ⟨i', X, a1, a2, a3, a4, a5⟩ := e5 rfl
    rw [if_pos tTT, if_pos tTT]
    obtain ⟨b1, b2, b3⟩ := hD.x hl a5
    exact hK i' X M' N' a1 a2 a3 (hC.x a4) b1 b2 b3 e2
end
