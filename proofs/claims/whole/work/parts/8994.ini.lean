/-! ===== where both begin ===== -/
def R0 : tR := ((4, 6, 3), (1, fun _ => 0, fun _ => 1, fun _ => fun _ _ _ _ _ _ => true), (0, fun _ => (0, 0, 0, 0), fun _ => fun _ _ _ _ _ _ => true), (0, fun _ => 0, fun _ => fun _ _ _ _ _ _ => true), dSw, dLe)
def S0 : eT' := ((R0, 1), (fun _ => 0, 0), (0, fun _ => 0), (-1, fun _ => 0, fun _ => 0, fun _ => 0), (fun _ _ => False), (0, fun _ => 0), -1)
theorem R0_ok : tOk R0 := by
  refine ⟨by decide, by decide, fun a ha => ?_, fun k hk => absurd hk (Nat.not_lt_zero _), fun k hk => absurd hk (Nat.not_lt_zero _)⟩
  show (-9 : Int) ≤ 0 ∧ (0 : Int) ≤ 9 ∧ (-1 : Int) ≤ 1 ∧ (1 : Int) ≤ 1
  decide
theorem S0_ok : sOk S0 := ⟨R0_ok, (by show (1 : Int) ≤ 1 ∧ (1 : Int) ≤ 4; decide), ⟨Nat.zero_le _, fun i hi => absurd hi (Nat.not_lt_zero _)⟩, ⟨Nat.zero_le _, fun i hi => absurd hi (Nat.not_lt_zero _), fun i j hi => absurd hi (Nat.not_lt_zero _)⟩, ⟨Int.le_refl _, (by show (-1 : Int) ≤ 200; decide), fun i hi => (by have hi : (i : Int) < -1 := hi; omega), fun hi => (by have hi : (0 : Int) ≤ -1 := hi; omega)⟩, fun j s h => False.elim h, ⟨Nat.zero_le _, fun i hi => absurd hi (Nat.not_lt_zero _)⟩, (by show (-1 : Int) ≤ -1 ∧ (-1 : Int) ≤ 2000; decide)⟩
theorem R0_1 : Rp1 M10 3 R0 := by
  refine ⟨⟨rfl, rfl, rfl, rfl, rfl, rfl⟩, fun a ha => ?_, fun k hk => absurd hk (Nat.not_lt_zero _), fun k hk => absurd hk (Nat.not_lt_zero _), Or.inl ⟨rfl, rfl⟩, Or.inl ⟨rfl, rfl⟩⟩
  have ha : a < 1 := ha
  obtain rfl : a = 0 := by omega
  exact ⟨rfl, rfl, Cn1⟩
theorem R0_2 : Rp2 M20 0 R0 := by
  refine ⟨⟨rfl, rfl, rfl, rfl, rfl⟩, Or.inl ⟨rfl, rfl, rfl, rfl, rfl⟩, fun k hk => absurd hk (Nat.not_lt_zero _), fun k hk => absurd hk (Nat.not_lt_zero _), Or.inl ⟨by show ((-1) : Int32) < 0; decide, rfl⟩, Or.inl ⟨by show ((-1) : Int32) < 0; decide, rfl⟩⟩
theorem CI_0 : CI S0 3 1 0 M10 := by
  refine ⟨⟨S0_ok, ⟨⟨R0_ok, (by show (1 : Int) ≤ 1 ∧ (1 : Int) ≤ 4; decide), Or.inl rfl, rfl, rfl, R0_1⟩, ⟨by decide, by decide⟩, rfl, fun s _ => ⟨0, Nat.zero_le _, rfl, fun g => (by cases g)⟩, fun i _ => ⟨0, by decide, rfl, by decide, fun g => absurd g (by decide)⟩⟩, rfl, rfl, rfl⟩, ⟨Or.inl rfl, Or.inl rfl, Or.inl rfl, fun q _ _ hb => ?_⟩, ⟨⟨S0_ok.2.2.2.1, rfl, fun i hi => absurd hi (Nat.not_lt_zero _), fun s _ => ?_⟩, Or.inl rfl⟩, ⟨⟨Nat.zero_le _, rfl, fun i hi => absurd hi (Nat.not_lt_zero _)⟩, Or.inl rfl, rfl, fun q _ => ⟨0, Nat.le_refl _, rfl⟩⟩, ⟨⟨rfl, fun i hi => ?_, fun i hi => ?_⟩, fun s _ j _ => ?_, ⟨rfl, fun i hi => absurd hi (Nat.not_lt_zero _)⟩, rfl⟩⟩
  · have hb : bt 0 q = true := hb
    rw [b_0] at hb
    cases hb
  · show (0 : Int32) = _
    rw [if_neg (fun ⟨i, hi, _⟩ => absurd hi (Nat.not_lt_zero _))]
    rfl
  · have hi : (i : Int) ≤ -1 := hi
    omega
  · have hi : (i : Int) < -1 := hi
    omega
  · show bt 0 j = b_ False
    rw [b_0, b_f (fun h => h)]
theorem DI_0 : DI S0 0 M20 := by
  refine ⟨⟨S0_ok, R0_ok, (by show (1 : Int) ≤ 1 ∧ (1 : Int) ≤ 4; decide), by decide, rfl, rfl, R0_2⟩, ⟨Or.inl rfl, fun g => ?_, fun g => ?_⟩, Or.inl rfl, ⟨⟨S0_ok.2.2.2.1, rfl, fun i hi => absurd hi (Nat.not_lt_zero _)⟩, fun g => ?_⟩, ⟨Nat.zero_le _, rfl, fun i hi => absurd hi (Nat.not_lt_zero _)⟩, ⟨⟨Or.inl ⟨rfl, by show (-1 : Int) < 0; decide⟩, fun i hi => ?_, fun i hi => ?_⟩, fun j _ s _ => ?_, ⟨rfl, fun i hi => absurd hi (Nat.not_lt_zero _)⟩, rfl⟩⟩
  · exact absurd (show (0 : Int32) = 1 from g) (by decide)
  · exact absurd (show (0 : Int32) = 1 from g) (by decide)
  · exact absurd (show (0 : Int32) = 1 from g) (by decide)
  · have hi : (i : Int) ≤ -1 := hi
    omega
  · have hi : (i : Int) < -1 := hi
    omega
  · show M20.1 44 _ = b2i (b_ False)
    rw [b_f (fun h => h)]
    rfl
