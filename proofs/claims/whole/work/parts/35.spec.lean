/-! ===== counting, chains ===== -/
noncomputable def cN (P : Nat → Prop) : Nat → Nat
  | 0 => 0
  | n + 1 => cN P n + @ite _ (P n) (Classical.propDecidable _) 1 0
theorem cN_t {P : Nat → Prop} {n : Nat} (h : P n) : cN P (n + 1) = cN P n + 1 := by rw [cN, if_pos h]
theorem cN_f {P : Nat → Prop} {n : Nat} (h : ¬ P n) : cN P (n + 1) = cN P n := by rw [cN, if_neg h, Nat.add_zero]
theorem cN_le {P : Nat → Prop} : ∀ n, cN P n ≤ n := by
  intro n
  induction n with
  | zero => exact Nat.le_refl _
  | succ n ih =>
    by_cases h : P n
    · rw [cN_t h]; omega
    · rw [cN_f h]; omega
theorem cN_mono {P Q : Nat → Prop} : ∀ n, (∀ s : Nat, s < n → P s → Q s) → cN P n ≤ cN Q n := by
  intro n
  induction n with
  | zero => intro _; exact Nat.le_refl _
  | succ n ih =>
    intro h
    have := ih (fun s hs => h s (by omega))
    by_cases h1 : P n
    · rw [cN_t h1, cN_t (h n (by omega) h1)]; omega
    · by_cases h2 : Q n
      · rw [cN_f h1, cN_t h2]; omega
      · rw [cN_f h1, cN_f h2]; omega
theorem cN_c {P Q : Nat → Prop} {n : Nat} (h : ∀ s : Nat, s < n → (P s ↔ Q s)) : cN P n = cN Q n := Nat.le_antisymm (cN_mono n (fun s hs => (h s hs).1)) (cN_mono n (fun s hs => (h s hs).2))
theorem cN_lt {P Q : Nat → Prop} {q : Nat} (h1 : Q q) (h2 : ¬ P q) : ∀ n, q < n → (∀ s : Nat, s < n → P s → Q s) → cN P n < cN Q n := by
  intro n
  induction n with
  | zero => intro h; omega
  | succ n ih =>
    intro hq h
    by_cases hqn : q = n
    · subst hqn
      have := cN_mono (P := P) (Q := Q) q (fun s hs => h s (by omega))
      rw [cN_f h2, cN_t h1]
      omega
    · have := ih (by omega) (fun s hs => h s (by omega))
      by_cases h1 : P n
      · rw [cN_t h1, cN_t (h n (by omega) h1)]; omega
      · by_cases h2 : Q n
        · rw [cN_f h1, cN_t h2]; omega
        · rw [cN_f h1, cN_f h2]; omega
theorem ch_st {X : Nat → Nat → Prop} {N : Nat} (dec : ∀ n s, X (n + 1) s → X n s) (fix : ∀ n, (∀ s : Nat, s < N → X n s → X (n + 1) s) → ∀ s : Nat, s < N → X (n + 1) s → X (n + 2) s) : ∀ s : Nat, s < N → X N s → ∀ m, X m s := by
  have key : ∀ n, (∃ k, k < n ∧ ∀ s : Nat, s < N → X k s → X (k + 1) s) ∨ cN (X n) N + n ≤ N := by
    intro n
    induction n with
    | zero => exact Or.inr (by have := cN_le (P := X 0) N; omega)
    | succ n ih =>
      rcases ih with ⟨k, hk, h⟩ | h
      · exact Or.inl ⟨k, by omega, h⟩
      · by_cases g : ∀ s : Nat, s < N → X n s → X (n + 1) s
        · exact Or.inl ⟨n, by omega, g⟩
        · obtain ⟨q, g⟩ := Classical.not_forall.1 g
          obtain ⟨hq, g⟩ := Classical.not_imp.1 g
          obtain ⟨h1, h2⟩ := Classical.not_imp.1 g
          have := cN_lt (P := X (n + 1)) (Q := X n) h1 h2 N hq (fun s _ => dec n s)
          exact Or.inr (by omega)
  have dle : ∀ m n s, m ≤ n → X n s → X m s := by
    intro m n s h
    induction n with
    | zero => intro hx; rw [Nat.le_zero.1 h]; exact hx
    | succ n ih =>
      intro hx
      by_cases hm : m = n + 1
      · rw [hm]; exact hx
      · exact ih (by omega) (dec _ _ hx)
  obtain ⟨k, hk, h⟩ : ∃ k, k < N + 1 ∧ ∀ s : Nat, s < N → X k s → X (k + 1) s := by
    rcases key (N + 1) with h | h
    · exact h
    · omega
  have up : ∀ j, ∀ s : Nat, s < N → X (k + j) s → X (k + j + 1) s := by
    intro j
    induction j with
    | zero => exact h
    | succ j ih => exact fix _ ih
  intro s hs hx m
  have hk2 : X k s := dle k N s (by omega) hx
  have all : ∀ j, X (k + j) s := by
    intro j
    induction j with
    | zero => exact hk2
    | succ j ih => exact up j s hs ih
  exact dle m (k + m) s (by omega) (all m)
/-! ===== the rounds, as the document means them ===== -/
def okP (R : tR) (p : Int) (P : Nat → Prop) (s a : Nat) (g : Int) : Prop := 0 ≤ nxR R p s a g ∧ P (nxR R p s a g).toNat
def gdP (R : tR) (p : Int) (P : Nat → Prop) (k : Int) (s a : Nat) : Prop := ∀ g : Int, loR R p s - k ≤ g → g ≤ hiR R p s + k → okP R p P s a g
def wfR (R : tR) (p k : Int) : Nat → Nat → Prop
  | 0, s => stP R s
  | n + 1, s => stP R s ∧ (ovP R s ∨ ∃ a, caP R p s a ∧ gdP R p (wfR R p k n) k s a)
def sfR (R : tR) (p k : Int) (s : Nat) : Prop := ∀ n, wfR R p k n s
theorem gd_m {R : tR} {p k : Int} {P Q : Nat → Prop} {s a : Nat} (h : ∀ t, P t → Q t) (hg : gdP R p P k s a) : gdP R p Q k s a := fun g h1 h2 => ⟨(hg g h1 h2).1, h _ (hg g h1 h2).2⟩
theorem gd_c {R : tR} {p k : Int} {P Q : Nat → Prop} {s a : Nat} (h : ∀ t, P t ↔ Q t) : gdP R p P k s a ↔ gdP R p Q k s a := ⟨gd_m (fun t => (h t).1), gd_m (fun t => (h t).2)⟩
theorem gd_c2 {R : tR} {p k : Int} {P Q : Nat → Prop} {s a : Nat} (hR : tOk R) (h : ∀ t : Nat, t < 2079 → stP R t → (P t ↔ Q t)) : gdP R p P k s a ↔ gdP R p Q k s a := by
  have key : ∀ g, okP R p P s a g ↔ okP R p Q s a g := by
    intro g
    rcases nx_r hR p s a g with hx | hx
    · constructor
      · intro h; have := h.1; omega
      · intro h; have := h.1; omega
    · have e : ((nxR R p s a g).toNat : Int) = nxR R p s a g := Int.toNat_of_nonneg hx.1
      have := h (nxR R p s a g).toNat (by have := hx.2.1; omega) (by rw [e]; exact hx)
      exact ⟨fun h => ⟨h.1, this.1 h.2⟩, fun h => ⟨h.1, this.2 h.2⟩⟩
  exact ⟨fun h g h1 h2 => (key g).1 (h g h1 h2), fun h g h1 h2 => (key g).2 (h g h1 h2)⟩
theorem wf_st {R : tR} {p k : Int} {n s : Nat} (h : wfR R p k n s) : stP R s := by
  cases n with
  | zero => exact h
  | succ n => exact h.1
theorem wf_d {R : tR} {p k : Int} : ∀ n s, wfR R p k (n + 1) s → wfR R p k n s := by
  intro n
  induction n with
  | zero => intro s h; exact h.1
  | succ n ih => intro s h; exact ⟨h.1, h.2.elim Or.inl (fun ⟨a, h1, h2⟩ => Or.inr ⟨a, h1, gd_m ih h2⟩)⟩
theorem wf_le {R : tR} {p k : Int} {m n s : Nat} (h : m ≤ n) (hx : wfR R p k n s) : wfR R p k m s := by
  induction n with
  | zero => rw [Nat.le_zero.1 h]; exact hx
  | succ n ih =>
    by_cases hm : m = n + 1
    · rw [hm]; exact hx
    · exact ih (by omega) (wf_d _ _ hx)
theorem st_lt {R : tR} {s : Nat} (h : stP R s) : s < 2079 := by have := h.2.1; omega
theorem wf_fix {R : tR} {p k : Int} (n : Nat) (h : ∀ s : Nat, s < 2079 → wfR R p k n s → wfR R p k (n + 1) s) : ∀ s : Nat, s < 2079 → wfR R p k (n + 1) s → wfR R p k (n + 2) s := fun s _ hx => ⟨hx.1, hx.2.elim Or.inl (fun ⟨a, h1, h2⟩ => Or.inr ⟨a, h1, gd_m (fun t ht => h t (st_lt (wf_st ht)) ht) h2⟩)⟩
theorem sf_of {R : tR} {p k : Int} {s : Nat} (h : wfR R p k 2079 s) : sfR R p k s := ch_st (X := wfR R p k) wf_d wf_fix s (st_lt (wf_st h)) h
theorem sf_st {R : tR} {p k : Int} {s : Nat} (h : sfR R p k s) : stP R s := h 0
theorem sf_fix {R : tR} {p k : Int} {s : Nat} : sfR R p k s ↔ stP R s ∧ (ovP R s ∨ ∃ a, caP R p s a ∧ gdP R p (sfR R p k) k s a) := by
  constructor
  · intro h
    exact ⟨h 0, (h 2080).2.elim Or.inl (fun ⟨a, h1, h2⟩ => Or.inr ⟨a, h1, gd_m (fun t => sf_of) h2⟩)⟩
  · rintro ⟨h1, h2⟩ n
    cases n with
    | zero => exact h1
    | succ n => exact ⟨h1, h2.elim Or.inl (fun ⟨a, h1, h2⟩ => Or.inr ⟨a, h1, gd_m (fun t ht => ht n) h2⟩)⟩
theorem sf_max {R : tR} {p k : Int} {S : Nat → Prop} (hS : ∀ s, S s → stP R s ∧ (ovP R s ∨ ∃ a, caP R p s a ∧ gdP R p S k s a)) : ∀ s, S s → sfR R p k s := by
  intro s hs n
  induction n generalizing s with
  | zero => exact (hS s hs).1
  | succ n ih => exact ⟨(hS s hs).1, (hS s hs).2.elim Or.inl (fun ⟨a, h1, h2⟩ => Or.inr ⟨a, h1, gd_m (fun t ht => ih t ht) h2⟩)⟩
theorem gd_k {R : tR} {p k k2 : Int} {P : Nat → Prop} {s a : Nat} (h : k ≤ k2) (hg : gdP R p P k2 s a) : gdP R p P k s a := fun g h1 h2 => hg g (by omega) (by omega)
theorem sf_k {R : tR} {p k k2 : Int} (h : k ≤ k2) {s : Nat} (hs : sfR R p k2 s) : sfR R p k s := sf_max (S := sfR R p k2) (fun s hs => ⟨hs 0, (sf_fix.1 hs).2.elim Or.inl (fun ⟨a, h1, h2⟩ => Or.inr ⟨a, h1, gd_k h h2⟩)⟩) s hs
/-- FATE: -2 for ever -/
noncomputable def faR (R : tR) (p : Int) (s : Nat) : Int := leA (fun n => ¬ wfR R p 0 (n + 1) s) 2080 (-2)
theorem fa_x {R : tR} {p : Int} {s : Nat} (h : stP R s) : (sfR R p 0 s ∧ faR R p s = -2) ∨ (¬ sfR R p 0 s ∧ ∃ n : Nat, n < 2080 ∧ faR R p s = n ∧ wfR R p 0 n s ∧ ¬ wfR R p 0 (n + 1) s) := by
  rcases leA_x (P := fun n => ¬ wfR R p 0 (n + 1) s) (n := 2080) (-2) with ⟨n, h1, h2, h3, h4⟩ | ⟨h1, h2⟩
  · refine Or.inr ⟨fun hs => h2 (hs _), n, h1, h4, ?_, h2⟩
    cases n with
    | zero => exact h
    | succ n => exact Classical.not_not.1 (h3 n (by omega))
  · refine Or.inl ⟨sf_of ?_, h2⟩
    exact wf_d _ _ (Classical.not_not.1 (h1 2079 (by omega)))
theorem fa_e {R : tR} {p : Int} {s n : Nat} (h1 : wfR R p 0 n s) (h2 : ¬ wfR R p 0 (n + 1) s) : faR R p s = n := by
  rcases fa_x (p := p) (wf_st h1) with ⟨g1, -⟩ | ⟨-, m, g1, g2, g3, g4⟩
  · exact absurd (g1 _) h2
  · rw [g2]
    rcases Nat.lt_trichotomy m n with h | h | h
    · exact absurd (wf_le (by omega) h1) g4
    · rw [h]
    · exact absurd (wf_le (by omega) g3) h2
/-- the first ACT that keeps a STATE for n rounds -/
noncomputable def kqR (R : tR) (p : Int) (n s : Nat) : Int := leA (fun a => caP R p s a ∧ (n = 0 ∨ gdP R p (wfR R p 0 (n - 1)) 0 s a)) 6 (-2)
noncomputable def keR (R : tR) (p : Int) (s : Nat) : Int := @ite _ (faR R p s = -2) (Classical.propDecidable _) (leA (fun a => caP R p s a ∧ gdP R p (sfR R p 0) 0 s a) 6 (-2)) (kqR R p (faR R p s).toNat s)
theorem leA_c {P Q : Nat → Prop} {n : Nat} {d : Int} (h : ∀ a : Nat, a < n → (P a ↔ Q a)) : leA P n d = leA Q n d := by
  rcases leA_x (P := P) (n := n) d with ⟨a, h1, h2, h3, h4⟩ | ⟨h1, h2⟩
  · rw [h4, leA_e h1 ((h a h1).1 h2) (fun b hb hq => h3 b hb ((h b (by omega)).2 hq))]
  · rw [h2, leA_d (fun a ha hq => h1 a ha ((h a ha).2 hq))]
/-- a loop that counts up, with what it carries -/
theorem wp_lp {α σ : Type} {F : Nat → Nat → σ → gM → Option (α × gM)} {Q : α → gM → Prop} (I : Nat → σ → gM → Prop) (b : Nat)
    (step : ∀ n x c M, x < b → I x c M → (∀ c' M', I (x + 1) c' M' → wp (F n (x + 1) c' M') Q) → wp (F (n + 1) x c M) Q) (exit : ∀ n c M, I b c M → wp (F (n + 1) b c M) Q) :
    ∀ (n x : Nat) (c : σ) (M : gM), x ≤ b → b < n + x → I x c M → wp (F n x c M) Q := by
  intro n
  induction n with
  | zero => intro x c M h1 h2; omega
  | succ n ih =>
    intro x c M h1 h2 hI
    by_cases hx : x = b
    · subst hx
      exact exit n c M hI
    · exact step n x c M (by omega) hI (fun c' M' h => ih (x + 1) c' M' (by omega) (by omega) h)
