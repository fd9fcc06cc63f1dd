/-! ===== ints as whole numbers ===== -/
def i3 (z : Int) : Int32 := Int32.ofInt z
theorem i3_toInt {z : Int} (h1 : -2147483648 ≤ z) (h2 : z < 2147483648) : (i3 z).toInt = z := Int32.toInt_ofInt_of_le h1 h2
theorem i3_ex (x : Int32) : ∃ z : Int, -2147483648 ≤ z ∧ z < 2147483648 ∧ x = i3 z := ⟨x.toInt, Int32.le_toInt x, Int32.toInt_lt x, (Int32.ofInt_toInt x).symm⟩
theorem i3_self (x : Int32) : i3 x.toInt = x := Int32.ofInt_toInt x
theorem i3_add (a b : Int) : i3 a + i3 b = i3 (a + b) := (Int32.ofInt_add a b).symm
theorem i3_sub (a b : Int) : i3 a - i3 b = i3 (a - b) := (Int32.ofInt_sub a b).symm
theorem i3_mul (a b : Int) : i3 a * i3 b = i3 (a * b) := (Int32.ofInt_mul a b).symm
theorem i3_neg (a : Int) : -i3 a = i3 (-a) := (Int32.ofInt_neg a).symm
theorem i3_nI (n : Nat) : nI n = i3 n := rfl
theorem i3_lit (n : Nat) : (OfNat.ofNat n : Int32) = i3 (OfNat.ofNat n : Int) := rfl
theorem i3_lt {a b : Int} (h1 : -2147483648 ≤ a) (h2 : a < 2147483648) (h3 : -2147483648 ≤ b) (h4 : b < 2147483648) : (i3 a < i3 b) = (a < b) := by
  rw [Int32.lt_iff_toInt_lt, i3_toInt h1 h2, i3_toInt h3 h4]
theorem i3_le {a b : Int} (h1 : -2147483648 ≤ a) (h2 : a < 2147483648) (h3 : -2147483648 ≤ b) (h4 : b < 2147483648) : (i3 a ≤ i3 b) = (a ≤ b) := by
  rw [Int32.le_iff_toInt_le, i3_toInt h1 h2, i3_toInt h3 h4]
theorem i3_eq {a b : Int} (h1 : -2147483648 ≤ a) (h2 : a < 2147483648) (h3 : -2147483648 ≤ b) (h4 : b < 2147483648) : (i3 a = i3 b) = (a = b) := by
  rw [← Int32.toInt_inj, i3_toInt h1 h2, i3_toInt h3 h4]
theorem i3_tn {z : Int} (h1 : 0 ≤ z) (h2 : z < 2147483648) : tn (i3 z) = z.toNat := by
  show (i3 z).toInt.toNat = z.toNat
  rw [i3_toInt (by omega) h2]
theorem i3_tdiv {a b : Int} (h1 : -2147483647 ≤ a) (h2 : a < 2147483648) (h3 : -2147483647 ≤ b) (h4 : b < 2147483648) : i3 a / i3 b = i3 (a.tdiv b) := by
  apply Int32.toInt_inj.1
  rw [Int32.toInt_div, i3_toInt (by omega) h2, i3_toInt (by omega) h4, i3, Int32.toInt_ofInt]
theorem i3_div {a b : Int} (h1 : 0 ≤ a) (h2 : a < 2147483648) (h3 : 0 ≤ b) (h4 : b < 2147483648) : i3 a / i3 b = i3 (a / b) := by
  rw [i3_tdiv (by omega) h2 (by omega) h4, Int.tdiv_eq_ediv_of_nonneg h1]
/-! ===== what a function comes to ===== -/
def wp {α : Type} (o : Option (α × gM)) (Q : α → gM → Prop) : Prop := ∃ r M, o = some (r, M) ∧ Q r M
theorem wp_some {α : Type} {r : α} {M : gM} {Q : α → gM → Prop} : wp (some (r, M)) Q = Q r M := by
  apply propext
  constructor
  · rintro ⟨r1, M1, h, hq⟩
    cases h
    exact hq
  · intro h
    exact ⟨r, M, rfl, h⟩
theorem wp_m {α : Type} {M : gM} {k : gM → Option (α × gM)} {Q : α → gM → Prop} : wp (g_m M k) Q = wp (k M) Q := rfl
theorem wp_v {α β : Type} {x : β} {k : β → Option (α × gM)} {Q : α → gM → Prop} : wp (g_v x k) Q = wp (k x) Q := rfl
theorem wp_b {α β : Type} {o : Option (β × gM)} {k : β → gM → Option (α × gM)} {Q : α → gM → Prop} (P : β → gM → Prop) (h : wp o P) (hk : ∀ r M, P r M → wp (k r M) Q) : wp (g_b o k) Q := by
  obtain ⟨r, M, rfl, hp⟩ := h
  exact hk r M hp
theorem wp_be {α β : Type} {o : Option (β × gM)} {r : β} {M : gM} {k : β → gM → Option (α × gM)} {Q : α → gM → Prop} (h : o = some (r, M)) (hk : wp (k r M) Q) : wp (g_b o k) Q := by
  subst h
  exact hk
theorem wp_mono {α : Type} {o : Option (α × gM)} {P Q : α → gM → Prop} (h : wp o P) (hk : ∀ r M, P r M → Q r M) : wp o Q := by
  obtain ⟨r, M, e, hp⟩ := h
  exact ⟨r, M, e, hk r M hp⟩
theorem wp_if {α : Type} {c : Prop} {d : Decidable c} {a b : Option (α × gM)} {Q : α → gM → Prop} (h1 : c → wp a Q) (h2 : ¬ c → wp b Q) : wp (@ite _ c d a b) Q := by
  by_cases h : c
  · rw [if_pos h]; exact h1 h
  · rw [if_neg h]; exact h2 h
theorem g_b_some {α β : Type} {r : β} {M : gM} {k : β → gM → Option α} : g_b (some (r, M)) k = k r M := rfl
theorem ck_ok {β : Type} {z : Int} {n : Nat} {o : Option β} (h1 : 0 ≤ z) (h2 : z < n) (h3 : n ≤ 2147483648) : g_ck (i3 z) n o = o := by
  have e : tn (i3 z) = z.toNat := i3_tn h1 (by omega)
  have e2 : ¬ i3 z < 0 := by
    rw [i3_lit, i3_lt (by omega) (by omega) (by decide) (by decide)]
    show ¬ z < 0
    omega
  unfold g_ck
  rw [if_neg]
  intro h
  rcases h with h | h
  · exact e2 h
  · have h : n ≤ tn (i3 z) := h
    rw [e] at h
    omega
theorem nz_ok {β : Type} {y : Int32} {o : Option β} (h : y ≠ 0) : g_nz y o = o := if_neg h
theorem or_ok {β : Type} {a b t : Nat} {k : Nat → Option β} (h : t = a ∨ t = b) : g_or a b t k = k t := if_pos h
theorem is_ok {β : Type} {a : Nat} {o : Option β} : g_is a a o = o := if_pos rfl
theorem zo_ok {β : Type} {v : Int32} {o : Option β} (h : v = 0 ∨ v = 1) : g_01 v o = o := if_pos h
theorem tb_ok {β : Type} {b : Bool} {k : Bool → Option β} : g_tb (b2i b) k = k b := by cases b <;> rfl
theorem zb_ok (b : Bool) : zb (b2i b) = b2i b := by cases b <;> rfl
theorem b2i_0 (b : Bool) : (b2i b = 0) = (b = false) := by cases b <;> decide
theorem b2i_1 (b : Bool) : (b2i b = 1) = (b = true) := by cases b <;> decide
/-! ===== reading behind writing ===== -/
theorem rI_e {M : gM} {k j : Nat} {x : Int32} : (sI M k j x).1 k = upd (M.1 k) j x := by simp [sI, va_up]
theorem rI_n {M : gM} {k q j : Nat} {x : Int32} (h : q ≠ k) : (sI M k j x).1 q = M.1 q := by simp [sI, va_up, h]
theorem rI_2 {M : gM} {k j : Nat} {x : Int32} : (sI M k j x).2 = M.2 := rfl
theorem rL_1 {M : gM} {k j : Nat} {x : Int64} : (sL M k j x).1 = M.1 := rfl
theorem rL_22 {M : gM} {k j : Nat} {x : Int64} : (sL M k j x).2.2 = M.2.2 := rfl
theorem rL_e {M : gM} {k j : Nat} {x : Int64} : (sL M k j x).2.1 k = vp_updL (M.2.1 k) j x := by simp [sL, va_up]
theorem rL_n {M : gM} {k q j : Nat} {x : Int64} (h : q ≠ k) : (sL M k j x).2.1 q = M.2.1 q := by simp [sL, va_up, h]
theorem rR_1 {M : gM} {k j n : Nat} : (sR M k j n).1 = M.1 := rfl
theorem rR_21 {M : gM} {k j n : Nat} : (sR M k j n).2.1 = M.2.1 := rfl
theorem rR_e {M : gM} {k j n : Nat} : (sR M k j n).2.2 k = va_up (M.2.2 k) j n := by simp [sR, va_up]
theorem rR_n {M : gM} {k q j n : Nat} (h : q ≠ k) : (sR M k j n).2.2 q = M.2.2 q := by simp [sR, va_up, h]
theorem up_e {f : Nat → Int32} {j : Nat} {x : Int32} : upd f j x j = x := by simp [upd]
theorem up_n {f : Nat → Int32} {j q : Nat} {x : Int32} (h : q ≠ j) : upd f j x q = f q := by simp [upd, h]
theorem uL_e {f : Nat → Int64} {j : Nat} {x : Int64} : vp_updL f j x j = x := by simp [vp_updL]
theorem uL_n {f : Nat → Int64} {j q : Nat} {x : Int64} (h : q ≠ j) : vp_updL f j x q = f q := by simp [vp_updL, h]
theorem uR_e {f : Nat → Nat} {j x : Nat} : va_up f j x j = x := by simp [va_up]
theorem uR_n {f : Nat → Nat} {j q x : Nat} (h : q ≠ j) : va_up f j x q = f q := by simp [va_up, h]
/-- nothing but the cells of S has changed -/
def Fr (S : List Nat) (M M' : gM) : Prop := ∀ k, k ∉ S → M'.1 k = M.1 k ∧ M'.2.1 k = M.2.1 k ∧ M'.2.2 k = M.2.2 k
theorem Fr.rf {S : List Nat} {M : gM} : Fr S M M := fun _ _ => ⟨rfl, rfl, rfl⟩
theorem Fr.tr {S : List Nat} {M M1 M2 : gM} (h : Fr S M M1) (h2 : Fr S M1 M2) : Fr S M M2 := fun k hk => by
  obtain ⟨a, b, c⟩ := h k hk
  obtain ⟨d, e, f⟩ := h2 k hk
  exact ⟨d.trans a, e.trans b, f.trans c⟩
theorem Fr.i {S : List Nat} {M M1 : gM} {k j : Nat} {x : Int32} (h : Fr S M M1) (hk : k ∈ S) : Fr S M (sI M1 k j x) := fun q hq => by
  obtain ⟨a, b, c⟩ := h q hq
  have : q ≠ k := fun e => hq (e ▸ hk)
  exact ⟨by rw [rI_n this, a], b, c⟩
theorem Fr.l {S : List Nat} {M M1 : gM} {k j : Nat} {x : Int64} (h : Fr S M M1) (hk : k ∈ S) : Fr S M (sL M1 k j x) := fun q hq => by
  obtain ⟨a, b, c⟩ := h q hq
  have : q ≠ k := fun e => hq (e ▸ hk)
  exact ⟨a, by rw [rL_n this, b], c⟩
theorem Fr.up {S T : List Nat} {M M1 : gM} (h : Fr S M M1) (hs : ∀ k, k ∈ S → k ∈ T) : Fr T M M1 := fun q hq => h q (fun e => hq (hs q e))
theorem Fr.e1 {S : List Nat} {M M1 : gM} (h : Fr S M M1) {k : Nat} (hk : k ∉ S) : M1.1 k = M.1 k := (h k hk).1
theorem Fr.e2 {S : List Nat} {M M1 : gM} (h : Fr S M M1) {k : Nat} (hk : k ∉ S) : M1.2.1 k = M.2.1 k := (h k hk).2.1
theorem Fr.e3 {S : List Nat} {M M1 : gM} (h : Fr S M M1) {k : Nat} (hk : k ∉ S) : M1.2.2 k = M.2.2 k := (h k hk).2.2
/-- a loop that counts up -/
theorem wp_up {α : Type} {F : Nat → Int → gM → Option (α × gM)} {Q : α → gM → Prop} (I : Int → gM → Prop) (b : Int)
    (step : ∀ n x M, x < b → I x M → (∀ M', I (x + 1) M' → wp (F n (x + 1) M') Q) → wp (F (n + 1) x M) Q) (exit : ∀ n M, I b M → wp (F (n + 1) b M) Q) :
    ∀ (n : Nat) (x : Int) (M : gM), x ≤ b → (b - x) < n → I x M → wp (F n x M) Q := by
  intro n
  induction n with
  | zero => intro x M h1 h2; omega
  | succ n ih =>
    intro x M h1 h2 hI
    by_cases hx : x = b
    · subst hx
      exact exit n M hI
    · exact step n x M (by omega) hI (fun M' h => ih (x + 1) M' (by omega) (by omega) h)
theorem FU_s : FU = 999999 + 1 := rfl
