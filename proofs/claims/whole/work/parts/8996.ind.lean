/-! ===== the whole run ===== -/
theorem it_q {α : Type} {c : Prop} {d : Decidable c} {a b x : α} (h1 : c → a = x) (h2 : ¬ c → b = x) : @ite _ c d a b = x := by
  by_cases g : c
  · rw [if_pos g]; exact h1 g
  · rw [if_neg g]; exact h2 g
theorem law_ind (L : Nat) (xs : Nat → Int32) (hL : L ≤ 3072) : ∀ (n k : Nat) (M1 M2 : gM) (ov : Int64), 513 ≤ n + k → k ≤ 512 → LW k M1 M2 → f_law L xs n k (i3 ((6 * k : Nat) : Int)) M1 M2 ov = some true := by
  intro n
  induction n with
  | zero => intro k M1 M2 ov h1 h2; omega
  | succ n ih =>
    intro k M1 M2 ov hn hk H
    rw [f_law, if_pos hk]
    refine it_q (fun _ => rfl) (fun g => ?_)
    rw [i3_nI, show (6 : Int32) = i3 6 from rfl, i3_sub, i3_lt (by omega) (by omega) (by omega) (by omega)] at g
    have c : LC L (i3 ((6 * k : Nat) : Int)) := fun i hi v => by
      rw [i3_add]
      exact ck_ok (by omega) (by omega) (by omega)
    have kk : ∀ (A B : gM) (o : Int64), LW (k + 1) A B → f_law L xs n (k + 1) (i3 ((6 * k : Nat) : Int) + 6) A B o = some true := fun A B o h => by
      have e : i3 ((6 * k : Nat) : Int) + 6 = i3 ((6 * (k + 1) : Nat) : Int) := by
        rw [show (6 : Int32) = i3 6 from rfl, i3_add]
        congr 1
      rw [e]
      exact ih (k + 1) A B o (by omega) (by omega) h
    have ec : ∀ v : Option Bool, g_ck (i3 ((6 * k : Nat) : Int)) L v = v := fun v => ck_ok (by omega) (by omega) (by omega)
    have H1 : LW (k + 1) M1 M2 := by
      obtain ⟨S, t, st, mt, h, a, b, d, e⟩ := H
      exact ⟨S, t, st, mt, h, a, b, by omega, by omega⟩
    rw [ec]
    unfold g_v
    generalize f_law L xs n (k + 1) = kn at kk ⊢
    generalize xs (tn (i3 ((6 * k : Nat) : Int))) &&& 63 = y
    refine it_q (fun _ => lw_0 hk c H kk) (fun _ => ?_)
    refine it_q (fun _ => lw_1 hk c H kk) (fun _ => ?_)
    refine it_q (fun _ => lw_2 hk c H kk) (fun _ => ?_)
    refine it_q (fun _ => lw_3 hk c H kk) (fun _ => ?_)
    refine it_q (fun _ => lw_4 hk c H kk) (fun _ => ?_)
    refine it_q (fun _ => lw_5 hk c H kk) (fun _ => ?_)
    refine it_q (fun _ => lw_6 hk c H kk) (fun _ => ?_)
    refine it_q (fun _ => lw_7 hk c H kk) (fun _ => ?_)
    refine it_q (fun _ => lw_8 hk c H kk) (fun _ => ?_)
    refine it_q (fun _ => lw_9 hk c H kk) (fun _ => ?_)
    refine it_q (fun _ => lw_10 hk c H kk) (fun _ => ?_)
    refine it_q (fun _ => lw_11 hk c H kk) (fun _ => ?_)
    refine it_q (fun _ => lw_12 hk c H kk) (fun _ => ?_)
    refine it_q (fun _ => lw_13 hk c H kk) (fun _ => ?_)
    refine it_q (fun _ => lw_14 hk c H kk) (fun _ => ?_)
    refine it_q (fun _ => lw_15 hk c H kk) (fun _ => ?_)
    refine it_q (fun _ => lw_16 hk c H kk) (fun _ => ?_)
    refine it_q (fun _ => lw_17 hk c H kk) (fun _ => ?_)
    refine it_q (fun _ => lw_18 hk c H kk) (fun _ => ?_)
    refine it_q (fun _ => lw_19 hk c H kk) (fun _ => ?_)
    refine it_q (fun _ => lw_20 hk c H kk) (fun _ => ?_)
    refine it_q (fun _ => lw_21 hk c H kk) (fun _ => ?_)
    refine it_q (fun _ => lw_22 hk c H kk) (fun _ => ?_)
    refine it_q (fun _ => lw_23 hk c H kk) (fun _ => ?_)
    refine it_q (fun _ => lw_24 hk c H kk) (fun _ => ?_)
    refine it_q (fun _ => lw_25 hk c H kk) (fun _ => ?_)
    refine it_q (fun _ => lw_26 hk c H kk) (fun _ => ?_)
    refine it_q (fun _ => lw_27 hk c H kk) (fun _ => ?_)
    refine it_q (fun _ => lw_28 hk c H kk) (fun _ => ?_)
    refine it_q (fun _ => lw_29 hk c H kk) (fun _ => ?_)
    refine it_q (fun _ => lw_30 hk c H kk) (fun _ => ?_)
    refine it_q (fun _ => lw_31 hk c H kk) (fun _ => ?_)
    refine it_q (fun _ => lw_32 hk c H kk) (fun _ => ?_)
    refine it_q (fun _ => lw_33 hk c H kk) (fun _ => ?_)
    refine it_q (fun _ => lw_34 hk c H kk) (fun _ => ?_)
    refine it_q (fun _ => lw_35 hk c H kk) (fun _ => ?_)
    refine it_q (fun _ => lw_36 hk c H kk) (fun _ => ?_)
    refine it_q (fun _ => lw_37 hk c H kk) (fun _ => ?_)
    refine it_q (fun _ => lw_38 hk c H kk) (fun _ => ?_)
    refine it_q (fun _ => lw_39 hk c H kk) (fun _ => ?_)
    refine it_q (fun _ => lw_40 hk c H kk) (fun _ => ?_)
    exact kk _ _ _ H1
