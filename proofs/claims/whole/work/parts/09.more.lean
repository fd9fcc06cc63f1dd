def g_01 {β : Type} (v : Int32) (o : Option β) : Option β := if v = 0 ∨ v = 1 then o else none
theorem G_putZI {β : Type} {Y : gY} {J : gJ} {X : gX} {fi : gY → gX → β → gM → State → Prop} {pc : Nat} {lv : List (Nat × Value)} {st : List Value} {M : gM} {o : Option (β × gM)} {k ci idx : Nat} {cs : List Nat} {C : String} {T : u_T} {N : Nat} {ty : Nat → FieldType} {x : Int32} (j : Nat) (cl : g_cls ci C T N ty) (ob : Y[k]? = some (0, ci, cs)) (hw : Cond.fieldLink J.2.2.1 idx (T j).1 (T j).2.1 (T j).2.2.1 ∈ gws) (hd : decode J.1 pc = .ok (.putfield idx, 3)) (hj : j < N) (hcs : cs[j]? = some 0) (hfin : (T j).2.2.2 = false) (hty : ty j = .boolean) (kk : G Y J X fi (pc + 3) lv st (sI M k j x) o) : G Y J X fi pc lv (.int x :: .ref (ad X k) :: st) M (g_01 x o) := by
  unfold g_01
  refine G_ite (fun h => ?_) (fun _ => G_none)
  refine G_putZ j cl ob hw hd hj hcs hfin hty ?_ kk
  rcases h with h | h <;> subst h <;> exact ⟨rfl, rfl⟩
theorem g_nk {x n : Int32} {k : Int} (h : ¬ x = n) (hk : n.toInt = k) : x.toInt ≠ k := fun e => h (Int32.toInt_inj.mp (e.trans hk.symm))
