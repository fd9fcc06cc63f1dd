def wch (k : Nat) : Int32 := wBy.getD k 0
section GST
variable {β : Type} {Y : gY} {J : gJ} {X : gX} {fi : gY → gX → β → gM → State → Prop} {pc : Nat} {lv : List (Nat × Value)} {st : List Value} {M : gM} {o : Option (β × gM)}
theorem G_ldcS (hw : J.2.2.1 = RX7) (hd : decode J.1 pc = .ok (.ldc wIx, 2)) (k : G Y J X fi (pc + 2) lv (.ref (sa X) :: st) M o) : G Y J X fi pc lv st M o := by
  intro hX r M' ho H ls locs hl hP hS
  refine va_ldcS hX.1 hX.2.1 (own := RX7) (tx := wTx) (by rw [← hw]; exact hX.2.2.2.2.1) hX.2.2.2.2.2.2.2.2.2.2.1 hd (k hX r M' ho H ls locs hl hP hS)
theorem G_strLen (hj : J.2.2.1 = RX7 ∧ 8 ≤ J.2.2.2.2.frames ∧ 320 ≤ J.2.2.2.2.locals) (hd : decode J.1 pc = .ok (.invokevirtual 71, 3)) (k : G Y J X fi (pc + 3) lv (.int 102 :: st) M o) : G Y J X fi pc lv (.ref (sa X) :: st) M o := sorry
theorem G_strChar {i : Int32} (hj : J.2.2.1 = RX7 ∧ 8 ≤ J.2.2.2.2.frames ∧ 320 ≤ J.2.2.2.2.locals) (hd : decode J.1 pc = .ok (.invokevirtual 77, 3)) (k : G Y J X fi (pc + 3) lv (.int (wch (tn i)) :: st) M o) : G Y J X fi pc lv (.int i :: .ref (sa X) :: st) M (g_ck i 102 o) := sorry
end GST
