/-! ===== the reference: the slots ===== -/
section
variable {S : eT'} {h : Nat} {M N : gM}
theorem ix_s {j x : Nat} : (2079 : Int32) * i3 (j : Int) + i3 (x : Int) = i3 ((2079 * j + x : Nat) : Int) := by
  rw [iL2079, i3_mul, i3_add]
  rfl
theorem R_hold (H : DI S h M) {z : Int} (hz : -2147483648 ≤ z ∧ z < 2147483648) : wp (f_X10_hold (i3 z) M) (fun r N => r = i3 (aHo S z) ∧ DI (uHz S z) h N) := by
  rw [f_X10_hold]
  unfold aHo uHz
  refine wp_if (fun h1 => ?_) (fun h1 => ?_)
  · rw [iL0, i3_lt (by omega) (by omega) (by omega) (by omega)] at h1
    rw [wp_some, if_neg (by omega), if_neg (by omega)]
    exact ⟨rfl, H⟩
  rw [iL0, i3_lt (by omega) (by omega) (by omega) (by omega)] at h1
  refine wp_if (fun h2 => ?_) (fun h2 => ?_)
  · rw [iL2, i3_le (by omega) (by omega) (by omega) (by omega)] at h2
    rw [if_pos (by omega), if_pos (by omega)]
    obtain ⟨j, rfl⟩ : ∃ b : Nat, z = b := ⟨z.toNat, by omega⟩
    rw [Int.toNat_natCast]
    refine wp_b _ H.lay (fun _ M1 hM1 => ?_)
    obtain ⟨hM1, u1, u2, u3⟩ := hM1
    refine wp_lp (F := fun n (x : Nat) (_ : Unit) M => f_X10_hold_19 n (i3 (j : Int)) (i3 ((cN (sfR (eR S) (eP S) 0) x : Nat) : Int)) (i3 (x : Int)) M) (fun x _ N => Fo [44] [] M1 N ∧ ∀ j' : Nat, j' < 3 → ∀ s : Nat, s < 2079 → N.1 44 (2079 * j' + s) = b2i (b_ (if s < x then eSl (uHo S j) j' s else eSl S j' s))) 2079 ?_ ?_ FU 0 () M1 (by omega) (by rw [FU_s]; omega) ⟨Fo.rf, fun j' hj' s hs => by rw [hM1.2.2.2.2.2.2.1 j' hj' s hs, if_neg (by omega)]⟩
    · intro n x c N hx hI hn
      obtain ⟨f, hI⟩ := hI
      show wp (f_X10_hold_19 (n + 1) (i3 (j : Int)) (i3 ((cN (sfR (eR S) (eP S) 0) x : Nat) : Int)) (i3 (x : Int)) N) _
      have hB := hM1.1.2.mv f (by decide) (by decide)
      have hg : gOk (eR S) (eP S) N := by
        unfold gOk
        rw [f.e1 (by decide) (by decide)]
        exact u2
      have key : ∀ v : Bool, v = b_ (sfR (eR S) (eP S) 0 x) → wp (f_X10_hold_47 (f_X10_hold_19 n) (i3 (j : Int)) (i3 ((cN (sfR (eR S) (eP S) 0) x : Nat) : Int)) (i3 (x : Int)) (b2i v) N) (fun r N => r = i3 ((cN (sfR (eR S) (eP S) 0) 2079 : Nat) : Int) ∧ DI (uHo S j) h N) := by
        intro v hv
        have ec : (if b2i v = 0 then (f_X10_hold_19 n (i3 (j : Int)) (i3 ((cN (sfR (eR S) (eP S) 0) x : Nat) : Int) + 0) (i3 (x : Int) + 1) (sI N 44 (2079 * j + x) (b2i v))) else (f_X10_hold_19 n (i3 (j : Int)) (i3 ((cN (sfR (eR S) (eP S) 0) x : Nat) : Int) + 1) (i3 (x : Int) + 1) (sI N 44 (2079 * j + x) (b2i v)))) = f_X10_hold_19 n (i3 (j : Int)) (i3 ((cN (sfR (eR S) (eP S) 0) (x + 1) : Nat) : Int)) (i3 ((x + 1 : Nat) : Int)) (sI N 44 (2079 * j + x) (b2i v)) := by
          by_cases hs : sfR (eR S) (eP S) 0 x
          · rw [hv, b_t hs, cN_t hs, if_neg (by decide), i3_s1, i3_s1]
            rfl
          · rw [hv, b_f hs, cN_f hs, if_pos (by decide), i3_s1, iL0, i3_add, Int.add_zero]
            rfl
        rw [f_X10_hold_47, ix_s, ck_ok (by omega) (by omega) (by omega), tn_n (by omega), wp_m, zb_ok]
        show wp (if b2i v = 0 then _ else _) _
        have e2 := hn () (sI N 44 (2079 * j + x) (b2i v)) ⟨f.i (by decide) (by decide), fun j' hj' s hs => ?_⟩
        · rw [← ec] at e2
          exact e2
        rw [rI_e]
        by_cases es : 2079 * j' + s = 2079 * j + x
        · obtain ⟨rfl, rfl⟩ : j' = j ∧ s = x := by omega
          rw [up_e, if_pos (show s < s + 1 by omega), hv]
          congr 1
          refine b_e ⟨fun g => Or.inl ⟨rfl, g⟩, fun g => ?_⟩
          rcases g with ⟨-, g⟩ | ⟨g, -⟩
          · exact g
          · exact absurd rfl g
        · rw [up_n es, hI j' hj' s hs]
          by_cases h3 : s < x
          · rw [if_pos h3, if_pos (by omega)]
          · rw [if_neg h3]
            by_cases h4 : s = x
            · have ej : j' ≠ j := fun e => es (by rw [e, h4])
              rw [if_pos (by omega)]
              congr 1
              refine b_e ⟨fun g => Or.inr ⟨ej, g⟩, fun g => ?_⟩
              rcases g with ⟨g, -⟩ | ⟨-, g⟩
              · exact absurd g ej
              · exact g
            · rw [if_neg (by omega)]
      rw [f_X10_hold_19, iL2079, if_neg (by rw [i3_le (by omega) (by omega) (by omega) (by omega)]; omega), d_state hB (by omega), g_b_some, b_if]
      refine wp_if (fun h5 => ?_) (fun h5 => ?_)
      · rw [d_safe hg h5, g_b_some, b_if]
        refine wp_if (fun h6 => ?_) (fun h6 => ?_)
        · exact key true (b_t h6).symm
        · exact key false (b_f h6).symm
      · exact key false (b_f (fun g => h5 (sf_st g))).symm
    · intro n c N hI
      obtain ⟨f, hI⟩ := hI
      show wp (f_X10_hold_19 (n + 1) (i3 (j : Int)) (i3 ((cN (sfR (eR S) (eP S) 0) 2079 : Nat) : Int)) (i3 ((2079 : Nat) : Int)) N) _
      rw [f_X10_hold_19, if_pos (by decide), wp_some]
      obtain ⟨⟨a1, a2⟩, b, c, d, e, ⟨w1, w2, w3, w4⟩⟩ := id hM1
      refine ⟨rfl, ⟨ok_Ho a1, a2.mv f (by decide) (by decide)⟩, h2_f b f (by decide) (by decide), h3_f c f (by decide) (by decide), h4_f d f (by decide) (by decide), e.mv f (by decide) (by decide), ⟨?_, fun j' hj' s hs => ?_, ?_, by rw [f.e0 (by decide)]; exact w4⟩⟩
      · unfold wkJ
        rw [f.e0 (by decide), f.e0 (by decide), f.e1 (by decide) (by decide), f.e1 (by decide) (by decide), f.e1 (by decide) (by decide)]
        exact w1
      · rw [hI j' hj' s hs, if_pos hs]
      · unfold tpJ
        rw [f.e0 (by decide), f.e1 (by decide) (by decide)]
        exact w3
  · rw [iL2, i3_le (by omega) (by omega) (by omega) (by omega)] at h2
    rw [wp_some, if_neg (by omega), if_neg (by omega)]
    exact ⟨rfl, H⟩
end
