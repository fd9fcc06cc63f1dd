/-! ===== the reference: count ===== -/
theorem cN_no {P : Nat → Prop} : ∀ n, (∀ i, i < n → ¬ P i) → cN P n = 0 := by
  intro n
  induction n with
  | zero => intro _; rfl
  | succ n ih =>
    intro hp
    rw [cN_f (hp n (by omega)), ih (fun i hi => hp i (by omega))]
theorem cN_pr {A B : Nat → Prop} {n : Nat} (hn : 0 < n) : ∀ m, cN (fun s => A (s / n) ∧ B (s % n)) (m * n) = cN A m * cN B n := by
  intro m
  induction m with
  | zero => rw [Nat.zero_mul, cN, cN, Nat.zero_mul]
  | succ m ih =>
    rw [Nat.succ_mul, cN_sum, ih]
    have e : ∀ i, i < n → ((m * n + i) / n = m ∧ (m * n + i) % n = i) := fun i hi => by
      refine ⟨?_, ?_⟩
      · rw [Nat.mul_comm, Nat.mul_add_div hn, Nat.div_eq_of_lt hi, Nat.add_zero]
      · rw [Nat.mul_comm, Nat.mul_add_mod, Nat.mod_eq_of_lt hi]
    by_cases ha : A m
    · rw [cN_t ha, Nat.succ_mul]
      congr 1
      exact cN_c (fun i hi => by rw [(e i hi).1, (e i hi).2]; exact ⟨fun g => g.2, fun g => ⟨ha, g⟩⟩)
    · rw [cN_f ha, cN_no (P := fun i => A ((m * n + i) / n) ∧ B ((m * n + i) % n)) n (fun i hi g => ha ((e i hi).1 ▸ g.1)), Nat.add_zero]
theorem cN_rg {lo hi : Nat} : ∀ n, cN (fun i => lo ≤ i ∧ i ≤ hi) n = min n (hi + 1) - lo := by
  intro n
  induction n with
  | zero => rw [cN]; omega
  | succ n ih =>
    by_cases g : lo ≤ n ∧ n ≤ hi
    · rw [cN_t (P := fun i => lo ≤ i ∧ i ≤ hi) g, ih]; omega
    · rw [cN_f (P := fun i => lo ≤ i ∧ i ≤ hi) g, ih]; omega
theorem cN_st {R : tR} (hR : tOk R) : ((cN (fun s => stP R (s : Int)) 2079 : Nat) : Int) = (rLen R + 1) * (2 * rWid R + 1) * (2 * rFas R + 1) := by
  have hl := hR.1
  obtain ⟨a, ea⟩ : ∃ a : Nat, rLen R = a := ⟨(rLen R).toNat, by omega⟩
  obtain ⟨b, eb⟩ : ∃ a : Nat, rWid R = a := ⟨(rWid R).toNat, by omega⟩
  obtain ⟨c, ec⟩ : ∃ a : Nat, rFas R = a := ⟨(rFas R).toNat, by omega⟩
  have e1 : cN (fun s => stP R (s : Int)) 2079 = cN (fun s => (fun i => 0 ≤ i ∧ i ≤ a) (s / 231) ∧ (fun r => (fun i => 10 - b ≤ i ∧ i ≤ 10 + b) (r / 11) ∧ (fun i => 5 - c ≤ i ∧ i ≤ 5 + c) (r % 11)) (s % 231)) (9 * 231) := by
    refine cN_c (fun s hs => ?_)
    unfold stP inR gAt gLe gSw
    rw [ea, eb, ec]
    simp only [Int.toNat_natCast]
    omega
  have e3 := cN_pr (A := fun i => 0 ≤ i ∧ i ≤ a) (B := fun r => (fun i => 10 - b ≤ i ∧ i ≤ 10 + b) (r / 11) ∧ (fun i => 5 - c ≤ i ∧ i ≤ 5 + c) (r % 11)) (n := 231) (by decide) 9
  rw [e1, e3]
  have e2 : cN (fun r => (fun i => 10 - b ≤ i ∧ i ≤ 10 + b) (r / 11) ∧ (fun i => 5 - c ≤ i ∧ i ≤ 5 + c) (r % 11)) 231 = cN (fun i => 10 - b ≤ i ∧ i ≤ 10 + b) 21 * cN (fun i => 5 - c ≤ i ∧ i ≤ 5 + c) 11 := cN_pr (A := fun i => 10 - b ≤ i ∧ i ≤ 10 + b) (B := fun i => 5 - c ≤ i ∧ i ≤ 5 + c) (n := 11) (by decide) 21
  rw [e2, cN_rg, cN_rg, cN_rg, ea, eb, ec, show min 9 (a + 1) - 0 = a + 1 by omega, show min 21 (10 + b + 1) - (10 - b) = 2 * b + 1 by omega, show min 11 (5 + c + 1) - (5 - c) = 2 * c + 1 by omega, ← Nat.mul_assoc]
  rfl
