theorem G_iconst {β : Type} {Y : gY} {J : gJ} {X : gX} {fi : gY → gX → β → gM → State → Prop} {pc : Nat} {lv : List (Nat × Value)} {st : List Value} {M : gM} {o : Option (β × gM)} {n : Int} {v : Int32} (hd : decode J.1 pc = .ok (.iconst n, 1)) (hv : Int32.ofInt n = v) (k : G Y J X fi (pc + 1) lv (.int v :: st) M o) : G Y J X fi pc lv st M o := by
  intro hX r M' ho H ls locs hl hP hS
  exact lv_iconst hX.1 hX.2.1 hd hv (k hX r M' ho H ls locs hl hP hS)
theorem G_bipush {β : Type} {Y : gY} {J : gJ} {X : gX} {fi : gY → gX → β → gM → State → Prop} {pc : Nat} {lv : List (Nat × Value)} {st : List Value} {M : gM} {o : Option (β × gM)} {n : Int} {v : Int32} (hd : decode J.1 pc = .ok (.bipush n, 2)) (hv : (Int8.ofInt n).toInt32 = v) (k : G Y J X fi (pc + 2) lv (.int v :: st) M o) : G Y J X fi pc lv st M o := by
  intro hX r M' ho H ls locs hl hP hS
  exact lv_bipush hX.1 hX.2.1 hd hv (k hX r M' ho H ls locs hl hP hS)
theorem G_sipush {β : Type} {Y : gY} {J : gJ} {X : gX} {fi : gY → gX → β → gM → State → Prop} {pc : Nat} {lv : List (Nat × Value)} {st : List Value} {M : gM} {o : Option (β × gM)} {n : Int} {v : Int32} (hd : decode J.1 pc = .ok (.sipush n, 3)) (hv : (Int16.ofInt n).toInt32 = v) (k : G Y J X fi (pc + 3) lv (.int v :: st) M o) : G Y J X fi pc lv st M o := by
  intro hX r M' ho H ls locs hl hP hS
  exact lv_sipush hX.1 hX.2.1 hd hv (k hX r M' ho H ls locs hl hP hS)
theorem G_lconst {β : Type} {Y : gY} {J : gJ} {X : gX} {fi : gY → gX → β → gM → State → Prop} {pc : Nat} {lv : List (Nat × Value)} {st : List Value} {M : gM} {o : Option (β × gM)} {n : Fin 2} {v : Int64} (hd : decode J.1 pc = .ok (.lconst n, 1)) (hv : Int64.ofNat (n : Nat) = v) (k : G Y J X fi (pc + 1) lv (.long v :: st) M o) : G Y J X fi pc lv st M o := by
  intro hX r M' ho H ls locs hl hP hS
  exact lv_lconst hX.1 hX.2.1 hd hv (k hX r M' ho H ls locs hl hP hS)
theorem G_iload_n {β : Type} {Y : gY} {J : gJ} {X : gX} {fi : gY → gX → β → gM → State → Prop} {pc : Nat} {lv : List (Nat × Value)} {st : List Value} {M : gM} {o : Option (β × gM)} {n : Fin 4} {i : Nat} {x : Int32} (q : Nat) (hd : decode J.1 pc = .ok (.iload_n n, 1)) (hi : (n : Nat) = i) (h : lv[q]? = some (i, .int x)) (k : G Y J X fi (pc + 1) lv (.int x :: st) M o) : G Y J X fi pc lv st M o := by
  intro hX r M' ho H ls locs hl hP hS
  exact lv_iload_n hX.1 hX.2.1 hd hi (lv_at hl q h) (k hX r M' ho H ls locs hl hP hS)
theorem G_iload {β : Type} {Y : gY} {J : gJ} {X : gX} {fi : gY → gX → β → gM → State → Prop} {pc : Nat} {lv : List (Nat × Value)} {st : List Value} {M : gM} {o : Option (β × gM)} {i : Nat} {x : Int32} (q : Nat) (hd : decode J.1 pc = .ok (.iload i, 2)) (h : lv[q]? = some (i, .int x)) (k : G Y J X fi (pc + 2) lv (.int x :: st) M o) : G Y J X fi pc lv st M o := by
  intro hX r M' ho H ls locs hl hP hS
  exact lv_iload hX.1 hX.2.1 hd (lv_at hl q h) (k hX r M' ho H ls locs hl hP hS)
theorem G_istore_n {β : Type} {Y : gY} {J : gJ} {X : gX} {fi : gY → gX → β → gM → State → Prop} {pc : Nat} {lv : List (Nat × Value)} {st : List Value} {M : gM} {o : Option (β × gM)} {n : Fin 4} {i : Nat} {x : Int32} {lv' : List (Nat × Value)} (hd : decode J.1 pc = .ok (.istore_n n, 1)) (hi : (n : Nat) = i) (hn : i < J.2.1) (hl2 : (i, Value.int x) :: lv.filter (fun q => !(q.1 == i) && !(q.1 + 1 == i && q.2.category == 2)) = lv') (k : G Y J X fi (pc + 1) lv' st M o) : G Y J X fi pc lv (.int x :: st) M o := by
  intro hX r M' ho H ls locs hl hP hS
  exact lv_istore_n hX.1 hX.2.1 hd hi hl hn hl2 (fun ls2 hl => k hX r M' ho H ls2 locs hl hP hS)
theorem G_istore {β : Type} {Y : gY} {J : gJ} {X : gX} {fi : gY → gX → β → gM → State → Prop} {pc : Nat} {lv : List (Nat × Value)} {st : List Value} {M : gM} {o : Option (β × gM)} {i : Nat} {x : Int32} {lv' : List (Nat × Value)} (hd : decode J.1 pc = .ok (.istore i, 2)) (hn : i < J.2.1) (hl2 : (i, Value.int x) :: lv.filter (fun q => !(q.1 == i) && !(q.1 + 1 == i && q.2.category == 2)) = lv') (k : G Y J X fi (pc + 2) lv' st M o) : G Y J X fi pc lv (.int x :: st) M o := by
  intro hX r M' ho H ls locs hl hP hS
  exact lv_istore hX.1 hX.2.1 hd hl hn hl2 (fun ls2 hl => k hX r M' ho H ls2 locs hl hP hS)
theorem G_lload_n {β : Type} {Y : gY} {J : gJ} {X : gX} {fi : gY → gX → β → gM → State → Prop} {pc : Nat} {lv : List (Nat × Value)} {st : List Value} {M : gM} {o : Option (β × gM)} {n : Fin 4} {i : Nat} {x : Int64} (q : Nat) (hd : decode J.1 pc = .ok (.lload_n n, 1)) (hi : (n : Nat) = i) (h : lv[q]? = some (i, .long x)) (k : G Y J X fi (pc + 1) lv (.long x :: st) M o) : G Y J X fi pc lv st M o := by
  intro hX r M' ho H ls locs hl hP hS
  exact lv_lload_n hX.1 hX.2.1 hd hi (lv_at hl q h) (k hX r M' ho H ls locs hl hP hS)
theorem G_lload {β : Type} {Y : gY} {J : gJ} {X : gX} {fi : gY → gX → β → gM → State → Prop} {pc : Nat} {lv : List (Nat × Value)} {st : List Value} {M : gM} {o : Option (β × gM)} {i : Nat} {x : Int64} (q : Nat) (hd : decode J.1 pc = .ok (.lload i, 2)) (h : lv[q]? = some (i, .long x)) (k : G Y J X fi (pc + 2) lv (.long x :: st) M o) : G Y J X fi pc lv st M o := by
  intro hX r M' ho H ls locs hl hP hS
  exact lv_lload hX.1 hX.2.1 hd (lv_at hl q h) (k hX r M' ho H ls locs hl hP hS)
theorem G_lstore_n {β : Type} {Y : gY} {J : gJ} {X : gX} {fi : gY → gX → β → gM → State → Prop} {pc : Nat} {lv : List (Nat × Value)} {st : List Value} {M : gM} {o : Option (β × gM)} {n : Fin 4} {i : Nat} {x : Int64} {lv' : List (Nat × Value)} (hd : decode J.1 pc = .ok (.lstore_n n, 1)) (hi : (n : Nat) = i) (hn : i + 1 < J.2.1) (hl2 : (i, Value.long x) :: lv.filter (fun q => !(q.1 == i) && (!(q.1 == i + 1) && !(q.1 + 1 == i && q.2.category == 2))) = lv') (k : G Y J X fi (pc + 1) lv' st M o) : G Y J X fi pc lv (.long x :: st) M o := by
  intro hX r M' ho H ls locs hl hP hS
  exact lv_lstore_n hX.1 hX.2.1 hd hi hl hn hl2 (fun ls2 hl => k hX r M' ho H ls2 locs hl hP hS)
theorem G_lstore {β : Type} {Y : gY} {J : gJ} {X : gX} {fi : gY → gX → β → gM → State → Prop} {pc : Nat} {lv : List (Nat × Value)} {st : List Value} {M : gM} {o : Option (β × gM)} {i : Nat} {x : Int64} {lv' : List (Nat × Value)} (hd : decode J.1 pc = .ok (.lstore i, 2)) (hn : i + 1 < J.2.1) (hl2 : (i, Value.long x) :: lv.filter (fun q => !(q.1 == i) && (!(q.1 == i + 1) && !(q.1 + 1 == i && q.2.category == 2))) = lv') (k : G Y J X fi (pc + 2) lv' st M o) : G Y J X fi pc lv (.long x :: st) M o := by
  intro hX r M' ho H ls locs hl hP hS
  exact lv_lstore hX.1 hX.2.1 hd hl hn hl2 (fun ls2 hl => k hX r M' ho H ls2 locs hl hP hS)
theorem G_aload_n {β : Type} {Y : gY} {J : gJ} {X : gX} {fi : gY → gX → β → gM → State → Prop} {pc : Nat} {lv : List (Nat × Value)} {st : List Value} {M : gM} {o : Option (β × gM)} {n : Fin 4} {i : Nat} {x : Nat} (q : Nat) (hd : decode J.1 pc = .ok (.aload_n n, 1)) (hi : (n : Nat) = i) (h : lv[q]? = some (i, .ref x)) (k : G Y J X fi (pc + 1) lv (.ref x :: st) M o) : G Y J X fi pc lv st M o := by
  intro hX r M' ho H ls locs hl hP hS
  exact lv_aload_n hX.1 hX.2.1 hd hi (lv_at hl q h) (k hX r M' ho H ls locs hl hP hS)
theorem G_aload {β : Type} {Y : gY} {J : gJ} {X : gX} {fi : gY → gX → β → gM → State → Prop} {pc : Nat} {lv : List (Nat × Value)} {st : List Value} {M : gM} {o : Option (β × gM)} {i : Nat} {x : Nat} (q : Nat) (hd : decode J.1 pc = .ok (.aload i, 2)) (h : lv[q]? = some (i, .ref x)) (k : G Y J X fi (pc + 2) lv (.ref x :: st) M o) : G Y J X fi pc lv st M o := by
  intro hX r M' ho H ls locs hl hP hS
  exact lv_aload hX.1 hX.2.1 hd (lv_at hl q h) (k hX r M' ho H ls locs hl hP hS)
theorem G_astore_n {β : Type} {Y : gY} {J : gJ} {X : gX} {fi : gY → gX → β → gM → State → Prop} {pc : Nat} {lv : List (Nat × Value)} {st : List Value} {M : gM} {o : Option (β × gM)} {n : Fin 4} {i : Nat} {x : Nat} {lv' : List (Nat × Value)} (hd : decode J.1 pc = .ok (.astore_n n, 1)) (hi : (n : Nat) = i) (hn : i < J.2.1) (hl2 : (i, Value.ref x) :: lv.filter (fun q => !(q.1 == i) && !(q.1 + 1 == i && q.2.category == 2)) = lv') (k : G Y J X fi (pc + 1) lv' st M o) : G Y J X fi pc lv (.ref x :: st) M o := by
  intro hX r M' ho H ls locs hl hP hS
  exact lv_astore_n hX.1 hX.2.1 hd hi hl hn hl2 (fun ls2 hl => k hX r M' ho H ls2 locs hl hP hS)
theorem G_astore {β : Type} {Y : gY} {J : gJ} {X : gX} {fi : gY → gX → β → gM → State → Prop} {pc : Nat} {lv : List (Nat × Value)} {st : List Value} {M : gM} {o : Option (β × gM)} {i : Nat} {x : Nat} {lv' : List (Nat × Value)} (hd : decode J.1 pc = .ok (.astore i, 2)) (hn : i < J.2.1) (hl2 : (i, Value.ref x) :: lv.filter (fun q => !(q.1 == i) && !(q.1 + 1 == i && q.2.category == 2)) = lv') (k : G Y J X fi (pc + 2) lv' st M o) : G Y J X fi pc lv (.ref x :: st) M o := by
  intro hX r M' ho H ls locs hl hP hS
  exact lv_astore hX.1 hX.2.1 hd hl hn hl2 (fun ls2 hl => k hX r M' ho H ls2 locs hl hP hS)
theorem G_iinc {β : Type} {Y : gY} {J : gJ} {X : gX} {fi : gY → gX → β → gM → State → Prop} {pc : Nat} {lv : List (Nat × Value)} {st : List Value} {M : gM} {o : Option (β × gM)} {i : Nat} {n : Int} {x v : Int32} {lv' : List (Nat × Value)} (q : Nat) (hd : decode J.1 pc = .ok (.iinc i n, 3)) (h : lv[q]? = some (i, .int x)) (hv : x + Int32.ofInt n = v) (hn : i < J.2.1) (hl2 : (i, Value.int v) :: lv.filter (fun q => !(q.1 == i) && !(q.1 + 1 == i && q.2.category == 2)) = lv') (k : G Y J X fi (pc + 3) lv' st M o) : G Y J X fi pc lv st M o := by
  intro hX r M' ho H ls locs hl hP hS
  exact lv_iinc hX.1 hX.2.1 hd hl h hv hn hl2 (fun ls2 hl => k hX r M' ho H ls2 locs hl hP hS)
theorem G_iadd {β : Type} {Y : gY} {J : gJ} {X : gX} {fi : gY → gX → β → gM → State → Prop} {pc : Nat} {lv : List (Nat × Value)} {st : List Value} {M : gM} {o : Option (β × gM)} {x y : Int32} (hd : decode J.1 pc = .ok (.iadd, 1))  (k : G Y J X fi (pc + 1) lv (.int (x + y) :: st) M o) : G Y J X fi pc lv (.int y :: .int x :: st) M o := by
  intro hX r M' ho H ls locs hl hP hS
  exact lv_iadd hX.1 hX.2.1 hd  (k hX r M' ho H ls locs hl hP hS)
theorem G_isub {β : Type} {Y : gY} {J : gJ} {X : gX} {fi : gY → gX → β → gM → State → Prop} {pc : Nat} {lv : List (Nat × Value)} {st : List Value} {M : gM} {o : Option (β × gM)} {x y : Int32} (hd : decode J.1 pc = .ok (.isub, 1))  (k : G Y J X fi (pc + 1) lv (.int (x - y) :: st) M o) : G Y J X fi pc lv (.int y :: .int x :: st) M o := by
  intro hX r M' ho H ls locs hl hP hS
  exact lv_isub hX.1 hX.2.1 hd  (k hX r M' ho H ls locs hl hP hS)
theorem G_imul {β : Type} {Y : gY} {J : gJ} {X : gX} {fi : gY → gX → β → gM → State → Prop} {pc : Nat} {lv : List (Nat × Value)} {st : List Value} {M : gM} {o : Option (β × gM)} {x y : Int32} (hd : decode J.1 pc = .ok (.imul, 1))  (k : G Y J X fi (pc + 1) lv (.int (x * y) :: st) M o) : G Y J X fi pc lv (.int y :: .int x :: st) M o := by
  intro hX r M' ho H ls locs hl hP hS
  exact lv_imul hX.1 hX.2.1 hd  (k hX r M' ho H ls locs hl hP hS)
theorem G_iand {β : Type} {Y : gY} {J : gJ} {X : gX} {fi : gY → gX → β → gM → State → Prop} {pc : Nat} {lv : List (Nat × Value)} {st : List Value} {M : gM} {o : Option (β × gM)} {x y : Int32} (hd : decode J.1 pc = .ok (.iand, 1))  (k : G Y J X fi (pc + 1) lv (.int (x &&& y) :: st) M o) : G Y J X fi pc lv (.int y :: .int x :: st) M o := by
  intro hX r M' ho H ls locs hl hP hS
  exact lv_iand hX.1 hX.2.1 hd  (k hX r M' ho H ls locs hl hP hS)
theorem G_ior {β : Type} {Y : gY} {J : gJ} {X : gX} {fi : gY → gX → β → gM → State → Prop} {pc : Nat} {lv : List (Nat × Value)} {st : List Value} {M : gM} {o : Option (β × gM)} {x y : Int32} (hd : decode J.1 pc = .ok (.ior, 1))  (k : G Y J X fi (pc + 1) lv (.int (x ||| y) :: st) M o) : G Y J X fi pc lv (.int y :: .int x :: st) M o := by
  intro hX r M' ho H ls locs hl hP hS
  exact lv_ior hX.1 hX.2.1 hd  (k hX r M' ho H ls locs hl hP hS)
theorem G_ixor {β : Type} {Y : gY} {J : gJ} {X : gX} {fi : gY → gX → β → gM → State → Prop} {pc : Nat} {lv : List (Nat × Value)} {st : List Value} {M : gM} {o : Option (β × gM)} {x y : Int32} (hd : decode J.1 pc = .ok (.ixor, 1))  (k : G Y J X fi (pc + 1) lv (.int (x ^^^ y) :: st) M o) : G Y J X fi pc lv (.int y :: .int x :: st) M o := by
  intro hX r M' ho H ls locs hl hP hS
  exact lv_ixor hX.1 hX.2.1 hd  (k hX r M' ho H ls locs hl hP hS)
theorem G_ladd {β : Type} {Y : gY} {J : gJ} {X : gX} {fi : gY → gX → β → gM → State → Prop} {pc : Nat} {lv : List (Nat × Value)} {st : List Value} {M : gM} {o : Option (β × gM)} {x y : Int64} (hd : decode J.1 pc = .ok (.ladd, 1))  (k : G Y J X fi (pc + 1) lv (.long (x + y) :: st) M o) : G Y J X fi pc lv (.long y :: .long x :: st) M o := by
  intro hX r M' ho H ls locs hl hP hS
  exact lv_ladd hX.1 hX.2.1 hd  (k hX r M' ho H ls locs hl hP hS)
theorem G_lsub {β : Type} {Y : gY} {J : gJ} {X : gX} {fi : gY → gX → β → gM → State → Prop} {pc : Nat} {lv : List (Nat × Value)} {st : List Value} {M : gM} {o : Option (β × gM)} {x y : Int64} (hd : decode J.1 pc = .ok (.lsub, 1))  (k : G Y J X fi (pc + 1) lv (.long (x - y) :: st) M o) : G Y J X fi pc lv (.long y :: .long x :: st) M o := by
  intro hX r M' ho H ls locs hl hP hS
  exact lv_lsub hX.1 hX.2.1 hd  (k hX r M' ho H ls locs hl hP hS)
theorem G_lmul {β : Type} {Y : gY} {J : gJ} {X : gX} {fi : gY → gX → β → gM → State → Prop} {pc : Nat} {lv : List (Nat × Value)} {st : List Value} {M : gM} {o : Option (β × gM)} {x y : Int64} (hd : decode J.1 pc = .ok (.lmul, 1))  (k : G Y J X fi (pc + 1) lv (.long (x * y) :: st) M o) : G Y J X fi pc lv (.long y :: .long x :: st) M o := by
  intro hX r M' ho H ls locs hl hP hS
  exact lv_lmul hX.1 hX.2.1 hd  (k hX r M' ho H ls locs hl hP hS)
theorem G_land {β : Type} {Y : gY} {J : gJ} {X : gX} {fi : gY → gX → β → gM → State → Prop} {pc : Nat} {lv : List (Nat × Value)} {st : List Value} {M : gM} {o : Option (β × gM)} {x y : Int64} (hd : decode J.1 pc = .ok (.land, 1))  (k : G Y J X fi (pc + 1) lv (.long (x &&& y) :: st) M o) : G Y J X fi pc lv (.long y :: .long x :: st) M o := by
  intro hX r M' ho H ls locs hl hP hS
  exact lv_land hX.1 hX.2.1 hd  (k hX r M' ho H ls locs hl hP hS)
theorem G_lor {β : Type} {Y : gY} {J : gJ} {X : gX} {fi : gY → gX → β → gM → State → Prop} {pc : Nat} {lv : List (Nat × Value)} {st : List Value} {M : gM} {o : Option (β × gM)} {x y : Int64} (hd : decode J.1 pc = .ok (.lor, 1))  (k : G Y J X fi (pc + 1) lv (.long (x ||| y) :: st) M o) : G Y J X fi pc lv (.long y :: .long x :: st) M o := by
  intro hX r M' ho H ls locs hl hP hS
  exact lv_lor hX.1 hX.2.1 hd  (k hX r M' ho H ls locs hl hP hS)
theorem G_ineg {β : Type} {Y : gY} {J : gJ} {X : gX} {fi : gY → gX → β → gM → State → Prop} {pc : Nat} {lv : List (Nat × Value)} {st : List Value} {M : gM} {o : Option (β × gM)} {x : Int32} (hd : decode J.1 pc = .ok (.ineg, 1))  (k : G Y J X fi (pc + 1) lv (.int (-x) :: st) M o) : G Y J X fi pc lv (.int x :: st) M o := by
  intro hX r M' ho H ls locs hl hP hS
  exact lv_ineg hX.1 hX.2.1 hd  (k hX r M' ho H ls locs hl hP hS)
theorem G_ishl {β : Type} {Y : gY} {J : gJ} {X : gX} {fi : gY → gX → β → gM → State → Prop} {pc : Nat} {lv : List (Nat × Value)} {st : List Value} {M : gM} {o : Option (β × gM)} {x y : Int32} (hd : decode J.1 pc = .ok (.ishl, 1))  (k : G Y J X fi (pc + 1) lv (.int (x <<< (y &&& 31)) :: st) M o) : G Y J X fi pc lv (.int y :: .int x :: st) M o := by
  intro hX r M' ho H ls locs hl hP hS
  exact lv_ishl hX.1 hX.2.1 hd  (k hX r M' ho H ls locs hl hP hS)
theorem G_ishr {β : Type} {Y : gY} {J : gJ} {X : gX} {fi : gY → gX → β → gM → State → Prop} {pc : Nat} {lv : List (Nat × Value)} {st : List Value} {M : gM} {o : Option (β × gM)} {x y : Int32} (hd : decode J.1 pc = .ok (.ishr, 1))  (k : G Y J X fi (pc + 1) lv (.int (x >>> (y &&& 31)) :: st) M o) : G Y J X fi pc lv (.int y :: .int x :: st) M o := by
  intro hX r M' ho H ls locs hl hP hS
  exact lv_ishr hX.1 hX.2.1 hd  (k hX r M' ho H ls locs hl hP hS)
theorem G_iushr {β : Type} {Y : gY} {J : gJ} {X : gX} {fi : gY → gX → β → gM → State → Prop} {pc : Nat} {lv : List (Nat × Value)} {st : List Value} {M : gM} {o : Option (β × gM)} {x y : Int32} (hd : decode J.1 pc = .ok (.iushr, 1))  (k : G Y J X fi (pc + 1) lv (.int ((x.toUInt32 >>> (y.toUInt32 &&& Int32.toUInt32 31)).toInt32) :: st) M o) : G Y J X fi pc lv (.int y :: .int x :: st) M o := by
  intro hX r M' ho H ls locs hl hP hS
  exact lv_iushr hX.1 hX.2.1 hd rfl (k hX r M' ho H ls locs hl hP hS)
theorem G_lushr {β : Type} {Y : gY} {J : gJ} {X : gX} {fi : gY → gX → β → gM → State → Prop} {pc : Nat} {lv : List (Nat × Value)} {st : List Value} {M : gM} {o : Option (β × gM)} {x : Int64} {y : Int32} (hd : decode J.1 pc = .ok (.lushr, 1))  (k : G Y J X fi (pc + 1) lv (.long ((x.toUInt64 >>> (y.toInt64.toUInt64 &&& Int64.toUInt64 63)).toInt64) :: st) M o) : G Y J X fi pc lv (.int y :: .long x :: st) M o := by
  intro hX r M' ho H ls locs hl hP hS
  exact lv_lushr hX.1 hX.2.1 hd rfl (k hX r M' ho H ls locs hl hP hS)
theorem G_lshl {β : Type} {Y : gY} {J : gJ} {X : gX} {fi : gY → gX → β → gM → State → Prop} {pc : Nat} {lv : List (Nat × Value)} {st : List Value} {M : gM} {o : Option (β × gM)} {x : Int64} {y : Int32} (hd : decode J.1 pc = .ok (.lshl, 1))  (k : G Y J X fi (pc + 1) lv (.long (x <<< (y.toInt64 &&& 63)) :: st) M o) : G Y J X fi pc lv (.int y :: .long x :: st) M o := by
  intro hX r M' ho H ls locs hl hP hS
  exact lv_lshl hX.1 hX.2.1 hd rfl (k hX r M' ho H ls locs hl hP hS)
theorem G_i2l {β : Type} {Y : gY} {J : gJ} {X : gX} {fi : gY → gX → β → gM → State → Prop} {pc : Nat} {lv : List (Nat × Value)} {st : List Value} {M : gM} {o : Option (β × gM)} {x : Int32} (hd : decode J.1 pc = .ok (.i2l, 1))  (k : G Y J X fi (pc + 1) lv (.long x.toInt64 :: st) M o) : G Y J X fi pc lv (.int x :: st) M o := by
  intro hX r M' ho H ls locs hl hP hS
  exact lv_i2l hX.1 hX.2.1 hd rfl (k hX r M' ho H ls locs hl hP hS)
theorem G_l2i {β : Type} {Y : gY} {J : gJ} {X : gX} {fi : gY → gX → β → gM → State → Prop} {pc : Nat} {lv : List (Nat × Value)} {st : List Value} {M : gM} {o : Option (β × gM)} {x : Int64} (hd : decode J.1 pc = .ok (.l2i, 1))  (k : G Y J X fi (pc + 1) lv (.int x.toInt32 :: st) M o) : G Y J X fi pc lv (.long x :: st) M o := by
  intro hX r M' ho H ls locs hl hP hS
  exact lv_l2i hX.1 hX.2.1 hd rfl (k hX r M' ho H ls locs hl hP hS)
theorem G_lcmp {β : Type} {Y : gY} {J : gJ} {X : gX} {fi : gY → gX → β → gM → State → Prop} {pc : Nat} {lv : List (Nat × Value)} {st : List Value} {M : gM} {o : Option (β × gM)} {x y : Int64} (hd : decode J.1 pc = .ok (.lcmp, 1))  (k : G Y J X fi (pc + 1) lv (.int (lg_cmp x y) :: st) M o) : G Y J X fi pc lv (.long y :: .long x :: st) M o := by
  intro hX r M' ho H ls locs hl hP hS
  exact W.lcmp hX.1 hX.2.1 hd  (k hX r M' ho H ls locs hl hP hS)
theorem G_dup {β : Type} {Y : gY} {J : gJ} {X : gX} {fi : gY → gX → β → gM → State → Prop} {pc : Nat} {lv : List (Nat × Value)} {st : List Value} {M : gM} {o : Option (β × gM)} {v : Value} (hd : decode J.1 pc = .ok (.dup, 1)) (hv : v.category = 1) (k : G Y J X fi (pc + 1) lv (v :: v :: st) M o) : G Y J X fi pc lv (v :: st) M o := by
  intro hX r M' ho H ls locs hl hP hS
  exact lv_dup hX.1 hX.2.1 hd hv (k hX r M' ho H ls locs hl hP hS)
theorem G_pop {β : Type} {Y : gY} {J : gJ} {X : gX} {fi : gY → gX → β → gM → State → Prop} {pc : Nat} {lv : List (Nat × Value)} {st : List Value} {M : gM} {o : Option (β × gM)} {v : Value} (hd : decode J.1 pc = .ok (.pop, 1)) (hv : v.category = 1) (k : G Y J X fi (pc + 1) lv st M o) : G Y J X fi pc lv (v :: st) M o := by
  intro hX r M' ho H ls locs hl hP hS
  exact lv_pop hX.1 hX.2.1 hd hv (k hX r M' ho H ls locs hl hP hS)
theorem G_dup2 {β : Type} {Y : gY} {J : gJ} {X : gX} {fi : gY → gX → β → gM → State → Prop} {pc : Nat} {lv : List (Nat × Value)} {st : List Value} {M : gM} {o : Option (β × gM)} {v w : Value} (hd : decode J.1 pc = .ok (.dup2, 1)) (hv : v.category = 1) (hw : w.category = 1) (k : G Y J X fi (pc + 1) lv (v :: w :: v :: w :: st) M o) : G Y J X fi pc lv (v :: w :: st) M o := by
  intro hX r M' ho H ls locs hl hP hS
  exact lv_dup2_11 hX.1 hX.2.1 hd hv hw (k hX r M' ho H ls locs hl hP hS)
theorem G_idiv {β : Type} {Y : gY} {J : gJ} {X : gX} {fi : gY → gX → β → gM → State → Prop} {pc : Nat} {lv : List (Nat × Value)} {st : List Value} {M : gM} {o : Option (β × gM)} {x y : Int32} (hd : decode J.1 pc = .ok (.idiv, 1)) (k : G Y J X fi (pc + 1) lv (.int (x / y) :: st) M o) : G Y J X fi pc lv (.int y :: .int x :: st) M (g_nz y o) := by
  intro hX r M' ho H ls locs hl hP hS
  unfold g_nz at ho
  split at ho
  · cases ho
  · next hne => exact lv_idiv hX.1 hX.2.1 hd hne (k hX r M' ho H ls locs hl hP hS)
theorem G_irem {β : Type} {Y : gY} {J : gJ} {X : gX} {fi : gY → gX → β → gM → State → Prop} {pc : Nat} {lv : List (Nat × Value)} {st : List Value} {M : gM} {o : Option (β × gM)} {x y : Int32} (hd : decode J.1 pc = .ok (.irem, 1)) (k : G Y J X fi (pc + 1) lv (.int (x - x / y * y) :: st) M o) : G Y J X fi pc lv (.int y :: .int x :: st) M (g_nz y o) := by
  intro hX r M' ho H ls locs hl hP hS
  unfold g_nz at ho
  split at ho
  · cases ho
  · next hne => exact lv_irem hX.1 hX.2.1 hd hne (k hX r M' ho H ls locs hl hP hS)
theorem G_idivK {β : Type} {Y : gY} {J : gJ} {X : gX} {fi : gY → gX → β → gM → State → Prop} {pc : Nat} {lv : List (Nat × Value)} {st : List Value} {M : gM} {o : Option (β × gM)} {x y : Int32} (hd : decode J.1 pc = .ok (.idiv, 1)) (hne : ¬ y = 0) (k : G Y J X fi (pc + 1) lv (.int (x / y) :: st) M o) : G Y J X fi pc lv (.int y :: .int x :: st) M o := by
  intro hX r M' ho H ls locs hl hP hS
  exact lv_idiv hX.1 hX.2.1 hd hne (k hX r M' ho H ls locs hl hP hS)
theorem G_iremK {β : Type} {Y : gY} {J : gJ} {X : gX} {fi : gY → gX → β → gM → State → Prop} {pc : Nat} {lv : List (Nat × Value)} {st : List Value} {M : gM} {o : Option (β × gM)} {x y : Int32} (hd : decode J.1 pc = .ok (.irem, 1)) (hne : ¬ y = 0) (k : G Y J X fi (pc + 1) lv (.int (x - x / y * y) :: st) M o) : G Y J X fi pc lv (.int y :: .int x :: st) M o := by
  intro hX r M' ho H ls locs hl hP hS
  exact lv_irem hX.1 hX.2.1 hd hne (k hX r M' ho H ls locs hl hP hS)
theorem G_if_eq {β : Type} {Y : gY} {J : gJ} {X : gX} {fi : gY → gX → β → gM → State → Prop} {pc : Nat} {lv : List (Nat × Value)} {st : List Value} {M : gM} {oA oB : Option (β × gM)} {x : Int32} {off : Int} {tgt : Nat} (hd : decode J.1 pc = .ok (.ifCond .eq off, 3)) (ht : (pc : Int) + off = (tgt : Int)) (ka : G Y J X fi tgt lv st M oA) (kb : G Y J X fi (pc + 3) lv st M oB) : G Y J X fi pc lv (.int x :: st) M (if x = 0 then oA else oB) := by
  intro hX r M' ho H ls locs hl hP hS
  refine lv_if_eq hX.1 hX.2.1 hd ht (fun hc => ?_) (fun hc => ?_)
  · rw [if_pos hc] at ho; exact ka hX r M' ho H ls locs hl hP hS
  · rw [if_neg hc] at ho; exact kb hX r M' ho H ls locs hl hP hS
theorem G_icmp_eq {β : Type} {Y : gY} {J : gJ} {X : gX} {fi : gY → gX → β → gM → State → Prop} {pc : Nat} {lv : List (Nat × Value)} {st : List Value} {M : gM} {oA oB : Option (β × gM)} {x y : Int32} {off : Int} {tgt : Nat} (hd : decode J.1 pc = .ok (.if_icmp .eq off, 3)) (ht : (pc : Int) + off = (tgt : Int)) (ka : G Y J X fi tgt lv st M oA) (kb : G Y J X fi (pc + 3) lv st M oB) : G Y J X fi pc lv (.int y :: .int x :: st) M (if x = y then oA else oB) := by
  intro hX r M' ho H ls locs hl hP hS
  refine lv_icmp_eq hX.1 hX.2.1 hd ht (fun hc => ?_) (fun hc => ?_)
  · rw [if_pos hc] at ho; exact ka hX r M' ho H ls locs hl hP hS
  · rw [if_neg hc] at ho; exact kb hX r M' ho H ls locs hl hP hS
theorem G_if_ne {β : Type} {Y : gY} {J : gJ} {X : gX} {fi : gY → gX → β → gM → State → Prop} {pc : Nat} {lv : List (Nat × Value)} {st : List Value} {M : gM} {oA oB : Option (β × gM)} {x : Int32} {off : Int} {tgt : Nat} (hd : decode J.1 pc = .ok (.ifCond .ne off, 3)) (ht : (pc : Int) + off = (tgt : Int)) (ka : G Y J X fi tgt lv st M oA) (kb : G Y J X fi (pc + 3) lv st M oB) : G Y J X fi pc lv (.int x :: st) M (if x = 0 then oB else oA) := by
  intro hX r M' ho H ls locs hl hP hS
  refine lv_if_ne hX.1 hX.2.1 hd ht (fun hc => ?_) (fun hc => ?_)
  · rw [if_neg hc] at ho; exact ka hX r M' ho H ls locs hl hP hS
  · rw [if_pos hc] at ho; exact kb hX r M' ho H ls locs hl hP hS
theorem G_icmp_ne {β : Type} {Y : gY} {J : gJ} {X : gX} {fi : gY → gX → β → gM → State → Prop} {pc : Nat} {lv : List (Nat × Value)} {st : List Value} {M : gM} {oA oB : Option (β × gM)} {x y : Int32} {off : Int} {tgt : Nat} (hd : decode J.1 pc = .ok (.if_icmp .ne off, 3)) (ht : (pc : Int) + off = (tgt : Int)) (ka : G Y J X fi tgt lv st M oA) (kb : G Y J X fi (pc + 3) lv st M oB) : G Y J X fi pc lv (.int y :: .int x :: st) M (if x = y then oB else oA) := by
  intro hX r M' ho H ls locs hl hP hS
  refine lv_icmp_ne hX.1 hX.2.1 hd ht (fun hc => ?_) (fun hc => ?_)
  · rw [if_neg hc] at ho; exact ka hX r M' ho H ls locs hl hP hS
  · rw [if_pos hc] at ho; exact kb hX r M' ho H ls locs hl hP hS
theorem G_if_lt {β : Type} {Y : gY} {J : gJ} {X : gX} {fi : gY → gX → β → gM → State → Prop} {pc : Nat} {lv : List (Nat × Value)} {st : List Value} {M : gM} {oA oB : Option (β × gM)} {x : Int32} {off : Int} {tgt : Nat} (hd : decode J.1 pc = .ok (.ifCond .lt off, 3)) (ht : (pc : Int) + off = (tgt : Int)) (ka : G Y J X fi tgt lv st M oA) (kb : G Y J X fi (pc + 3) lv st M oB) : G Y J X fi pc lv (.int x :: st) M (if x < 0 then oA else oB) := by
  intro hX r M' ho H ls locs hl hP hS
  refine lv_if_lt hX.1 hX.2.1 hd ht (fun hc => ?_) (fun hc => ?_)
  · rw [if_pos hc] at ho; exact ka hX r M' ho H ls locs hl hP hS
  · rw [if_neg hc] at ho; exact kb hX r M' ho H ls locs hl hP hS
theorem G_icmp_lt {β : Type} {Y : gY} {J : gJ} {X : gX} {fi : gY → gX → β → gM → State → Prop} {pc : Nat} {lv : List (Nat × Value)} {st : List Value} {M : gM} {oA oB : Option (β × gM)} {x y : Int32} {off : Int} {tgt : Nat} (hd : decode J.1 pc = .ok (.if_icmp .lt off, 3)) (ht : (pc : Int) + off = (tgt : Int)) (ka : G Y J X fi tgt lv st M oA) (kb : G Y J X fi (pc + 3) lv st M oB) : G Y J X fi pc lv (.int y :: .int x :: st) M (if x < y then oA else oB) := by
  intro hX r M' ho H ls locs hl hP hS
  refine lv_icmp_lt hX.1 hX.2.1 hd ht (fun hc => ?_) (fun hc => ?_)
  · rw [if_pos hc] at ho; exact ka hX r M' ho H ls locs hl hP hS
  · rw [if_neg hc] at ho; exact kb hX r M' ho H ls locs hl hP hS
theorem G_if_ge {β : Type} {Y : gY} {J : gJ} {X : gX} {fi : gY → gX → β → gM → State → Prop} {pc : Nat} {lv : List (Nat × Value)} {st : List Value} {M : gM} {oA oB : Option (β × gM)} {x : Int32} {off : Int} {tgt : Nat} (hd : decode J.1 pc = .ok (.ifCond .ge off, 3)) (ht : (pc : Int) + off = (tgt : Int)) (ka : G Y J X fi tgt lv st M oA) (kb : G Y J X fi (pc + 3) lv st M oB) : G Y J X fi pc lv (.int x :: st) M (if 0 ≤ x then oA else oB) := by
  intro hX r M' ho H ls locs hl hP hS
  refine lv_if_ge hX.1 hX.2.1 hd ht (fun hc => ?_) (fun hc => ?_)
  · rw [if_pos hc] at ho; exact ka hX r M' ho H ls locs hl hP hS
  · rw [if_neg hc] at ho; exact kb hX r M' ho H ls locs hl hP hS
theorem G_icmp_ge {β : Type} {Y : gY} {J : gJ} {X : gX} {fi : gY → gX → β → gM → State → Prop} {pc : Nat} {lv : List (Nat × Value)} {st : List Value} {M : gM} {oA oB : Option (β × gM)} {x y : Int32} {off : Int} {tgt : Nat} (hd : decode J.1 pc = .ok (.if_icmp .ge off, 3)) (ht : (pc : Int) + off = (tgt : Int)) (ka : G Y J X fi tgt lv st M oA) (kb : G Y J X fi (pc + 3) lv st M oB) : G Y J X fi pc lv (.int y :: .int x :: st) M (if y ≤ x then oA else oB) := by
  intro hX r M' ho H ls locs hl hP hS
  refine lv_icmp_ge hX.1 hX.2.1 hd ht (fun hc => ?_) (fun hc => ?_)
  · rw [if_pos hc] at ho; exact ka hX r M' ho H ls locs hl hP hS
  · rw [if_neg hc] at ho; exact kb hX r M' ho H ls locs hl hP hS
theorem G_if_gt {β : Type} {Y : gY} {J : gJ} {X : gX} {fi : gY → gX → β → gM → State → Prop} {pc : Nat} {lv : List (Nat × Value)} {st : List Value} {M : gM} {oA oB : Option (β × gM)} {x : Int32} {off : Int} {tgt : Nat} (hd : decode J.1 pc = .ok (.ifCond .gt off, 3)) (ht : (pc : Int) + off = (tgt : Int)) (ka : G Y J X fi tgt lv st M oA) (kb : G Y J X fi (pc + 3) lv st M oB) : G Y J X fi pc lv (.int x :: st) M (if 0 < x then oA else oB) := by
  intro hX r M' ho H ls locs hl hP hS
  refine lv_if_gt hX.1 hX.2.1 hd ht (fun hc => ?_) (fun hc => ?_)
  · rw [if_pos hc] at ho; exact ka hX r M' ho H ls locs hl hP hS
  · rw [if_neg hc] at ho; exact kb hX r M' ho H ls locs hl hP hS
theorem G_icmp_gt {β : Type} {Y : gY} {J : gJ} {X : gX} {fi : gY → gX → β → gM → State → Prop} {pc : Nat} {lv : List (Nat × Value)} {st : List Value} {M : gM} {oA oB : Option (β × gM)} {x y : Int32} {off : Int} {tgt : Nat} (hd : decode J.1 pc = .ok (.if_icmp .gt off, 3)) (ht : (pc : Int) + off = (tgt : Int)) (ka : G Y J X fi tgt lv st M oA) (kb : G Y J X fi (pc + 3) lv st M oB) : G Y J X fi pc lv (.int y :: .int x :: st) M (if y < x then oA else oB) := by
  intro hX r M' ho H ls locs hl hP hS
  refine lv_icmp_gt hX.1 hX.2.1 hd ht (fun hc => ?_) (fun hc => ?_)
  · rw [if_pos hc] at ho; exact ka hX r M' ho H ls locs hl hP hS
  · rw [if_neg hc] at ho; exact kb hX r M' ho H ls locs hl hP hS
theorem G_if_le {β : Type} {Y : gY} {J : gJ} {X : gX} {fi : gY → gX → β → gM → State → Prop} {pc : Nat} {lv : List (Nat × Value)} {st : List Value} {M : gM} {oA oB : Option (β × gM)} {x : Int32} {off : Int} {tgt : Nat} (hd : decode J.1 pc = .ok (.ifCond .le off, 3)) (ht : (pc : Int) + off = (tgt : Int)) (ka : G Y J X fi tgt lv st M oA) (kb : G Y J X fi (pc + 3) lv st M oB) : G Y J X fi pc lv (.int x :: st) M (if x ≤ 0 then oA else oB) := by
  intro hX r M' ho H ls locs hl hP hS
  refine lv_if_le hX.1 hX.2.1 hd ht (fun hc => ?_) (fun hc => ?_)
  · rw [if_pos hc] at ho; exact ka hX r M' ho H ls locs hl hP hS
  · rw [if_neg hc] at ho; exact kb hX r M' ho H ls locs hl hP hS
theorem G_icmp_le {β : Type} {Y : gY} {J : gJ} {X : gX} {fi : gY → gX → β → gM → State → Prop} {pc : Nat} {lv : List (Nat × Value)} {st : List Value} {M : gM} {oA oB : Option (β × gM)} {x y : Int32} {off : Int} {tgt : Nat} (hd : decode J.1 pc = .ok (.if_icmp .le off, 3)) (ht : (pc : Int) + off = (tgt : Int)) (ka : G Y J X fi tgt lv st M oA) (kb : G Y J X fi (pc + 3) lv st M oB) : G Y J X fi pc lv (.int y :: .int x :: st) M (if x ≤ y then oA else oB) := by
  intro hX r M' ho H ls locs hl hP hS
  refine lv_icmp_le hX.1 hX.2.1 hd ht (fun hc => ?_) (fun hc => ?_)
  · rw [if_pos hc] at ho; exact ka hX r M' ho H ls locs hl hP hS
  · rw [if_neg hc] at ho; exact kb hX r M' ho H ls locs hl hP hS
theorem G_ifB_eq {β : Type} {Y : gY} {J : gJ} {X : gX} {fi : gY → gX → β → gM → State → Prop} {pc : Nat} {lv : List (Nat × Value)} {st : List Value} {M : gM} {oA oB : Option (β × gM)} {b : Bool} {off : Int} {tgt : Nat} (hd : decode J.1 pc = .ok (.ifCond .eq off, 3)) (ht : (pc : Int) + off = (tgt : Int)) (ka : G Y J X fi tgt lv st M oA) (kb : G Y J X fi (pc + 3) lv st M oB) : G Y J X fi pc lv (.int (b2i b) :: st) M (if b then oB else oA) := by
  cases b
  · exact G_if_eq (oA := oA) (oB := oB) hd ht ka kb
  · exact G_if_eq (oA := oA) (oB := oB) hd ht ka kb
theorem G_ifB_ne {β : Type} {Y : gY} {J : gJ} {X : gX} {fi : gY → gX → β → gM → State → Prop} {pc : Nat} {lv : List (Nat × Value)} {st : List Value} {M : gM} {oA oB : Option (β × gM)} {b : Bool} {off : Int} {tgt : Nat} (hd : decode J.1 pc = .ok (.ifCond .ne off, 3)) (ht : (pc : Int) + off = (tgt : Int)) (ka : G Y J X fi tgt lv st M oA) (kb : G Y J X fi (pc + 3) lv st M oB) : G Y J X fi pc lv (.int (b2i b) :: st) M (if b then oA else oB) := by
  cases b
  · exact G_if_ne (oA := oA) (oB := oB) hd ht ka kb
  · exact G_if_ne (oA := oA) (oB := oB) hd ht ka kb
theorem G_goto {β : Type} {Y : gY} {J : gJ} {X : gX} {fi : gY → gX → β → gM → State → Prop} {pc : Nat} {lv : List (Nat × Value)} {st : List Value} {M : gM} {o : Option (β × gM)} {off : Int} {tgt : Nat} (hd : decode J.1 pc = .ok (.goto off, 3)) (ht : (pc : Int) + off = (tgt : Int)) (k : G Y J X fi tgt lv st M o) : G Y J X fi pc lv st M o := by
  intro hX r M' ho H ls locs hl hP hS
  exact lv_goto hX.1 hX.2.1 hd ht (k hX r M' ho H ls locs hl hP hS)
theorem G_ite {β : Type} {Y : gY} {J : gJ} {X : gX} {fi : gY → gX → β → gM → State → Prop} {pc : Nat} {lv : List (Nat × Value)} {st : List Value} {M : gM} {oA oB : Option (β × gM)} {c : Prop} [Decidable c] (ka : c → G Y J X fi pc lv st M oA) (kb : ¬ c → G Y J X fi pc lv st M oB) : G Y J X fi pc lv st M (if c then oA else oB) := by
  by_cases hc : c
  · rw [if_pos hc]; exact ka hc
  · rw [if_neg hc]; exact kb hc
theorem G_none {β : Type} {Y : gY} {J : gJ} {X : gX} {fi : gY → gX → β → gM → State → Prop} {pc : Nat} {lv : List (Nat × Value)} {st : List Value} {M : gM}  : G Y J X fi pc lv st M none := fun _ _ _ ho => by cases ho
theorem G_sub {β : Type} {Y : gY} {J : gJ} {X : gX} {fi : gY → gX → β → gM → State → Prop} {pc : Nat} {lv : List (Nat × Value)} {st : List Value} {M : gM} {o : Option (β × gM)} {lv' : List (Nat × Value)} (ks : List Nat) (h : lv_pick lv ks = lv') (k : G Y J X fi pc lv' st M o) : G Y J X fi pc lv st M o := by
  intro hX r M' ho H ls locs hl hP hS
  exact k hX r M' ho H ls locs (lv_sub hl ks h) hP hS
theorem G_tabIn {β : Type} {Y : gY} {J : gJ} {X : gX} {fi : gY → gX → β → gM → State → Prop} {pc : Nat} {lv : List (Nat × Value)} {st : List Value} {M : gM} {o : Option (β × gM)} {dflt lo hi : Int} {offs : Array Int} {len : Nat} {x : Int32} {off : Int} {tgt : Nat} (hd : decode J.1 pc = .ok (.tableswitch dflt lo hi offs, len)) (h1 : ¬ x.toInt < lo) (h2 : ¬ hi < x.toInt) (h3 : offs[(x.toInt - lo).toNat]? = some off) (ht : (pc : Int) + off = (tgt : Int)) (k : G Y J X fi tgt lv st M o) : G Y J X fi pc lv (.int x :: st) M o := by
  intro hX r M' ho H ls locs hl hP hS
  exact lv_tableIn hX.1 hX.2.1 hd h1 h2 h3 ht (k hX r M' ho H ls locs hl hP hS)
theorem G_tabOut {β : Type} {Y : gY} {J : gJ} {X : gX} {fi : gY → gX → β → gM → State → Prop} {pc : Nat} {lv : List (Nat × Value)} {st : List Value} {M : gM} {o : Option (β × gM)} {dflt lo hi : Int} {offs : Array Int} {len : Nat} {x : Int32} {tgt : Nat} (hd : decode J.1 pc = .ok (.tableswitch dflt lo hi offs, len)) (h : x.toInt < lo ∨ hi < x.toInt) (ht : (pc : Int) + dflt = (tgt : Int)) (k : G Y J X fi tgt lv st M o) : G Y J X fi pc lv (.int x :: st) M o := by
  intro hX r M' ho H ls locs hl hP hS
  exact lv_tableOut hX.1 hX.2.1 hd h ht (k hX r M' ho H ls locs hl hP hS)
theorem G_look {β : Type} {Y : gY} {J : gJ} {X : gX} {fi : gY → gX → β → gM → State → Prop} {pc : Nat} {lv : List (Nat × Value)} {st : List Value} {M : gM} {o : Option (β × gM)} {dflt : Int} {ps : Array (Int × Int)} {len : Nat} {x : Int32} {off : Int} {tgt : Nat} (hd : decode J.1 pc = .ok (.lookupswitch dflt ps, len)) (hp : (ps.toList.zip (ps.toList.drop 1)).all (fun (a, next) => a.1 < next.1) = true) (h3 : Op.lookupswitch.offset ps.toList dflt x.toInt = off) (ht : (pc : Int) + off = (tgt : Int)) (k : G Y J X fi tgt lv st M o) : G Y J X fi pc lv (.int x :: st) M o := by
  intro hX r M' ho H ls locs hl hP hS
  exact lv_lookup hX.1 hX.2.1 hd hp h3 ht (k hX r M' ho H ls locs hl hP hS)
theorem G_ldc {β : Type} {Y : gY} {J : gJ} {X : gX} {fi : gY → gX → β → gM → State → Prop} {pc : Nat} {lv : List (Nat × Value)} {st : List Value} {M : gM} {o : Option (β × gM)} {index : Nat} {v : Int32} (hw : Cond.constant J.2.2.1 index v ∈ gws) (hd : decode J.1 pc = .ok (.ldc index, 2)) (k : G Y J X fi (pc + 2) lv (.int v :: st) M o) : G Y J X fi pc lv st M o := by
  intro hX r M' ho H ls locs hl hP hS
  exact lv_ldc hX.1 hX.2.1 hX.2.2.2.2.1 (hX.2.2.2.2.2.1 _ hw) hd (k hX r M' ho H ls locs hl hP hS)
theorem G_ldcw {β : Type} {Y : gY} {J : gJ} {X : gX} {fi : gY → gX → β → gM → State → Prop} {pc : Nat} {lv : List (Nat × Value)} {st : List Value} {M : gM} {o : Option (β × gM)} {index : Nat} {v : Int32} (hw : Cond.constant J.2.2.1 index v ∈ gws) (hd : decode J.1 pc = .ok (.ldc_w index, 3)) (k : G Y J X fi (pc + 3) lv (.int v :: st) M o) : G Y J X fi pc lv st M o := by
  intro hX r M' ho H ls locs hl hP hS
  exact lv_ldcw hX.1 hX.2.1 hX.2.2.2.2.1 (hX.2.2.2.2.2.1 _ hw) hd (k hX r M' ho H ls locs hl hP hS)
theorem G_ldc2 {β : Type} {Y : gY} {J : gJ} {X : gX} {fi : gY → gX → β → gM → State → Prop} {pc : Nat} {lv : List (Nat × Value)} {st : List Value} {M : gM} {o : Option (β × gM)} {index : Nat} {v : Int64} (hw : Cond.constantLong J.2.2.1 index v ∈ gws) (hd : decode J.1 pc = .ok (.ldc2_w index, 3)) (k : G Y J X fi (pc + 3) lv (.long v :: st) M o) : G Y J X fi pc lv st M o := by
  intro hX r M' ho H ls locs hl hP hS
  exact lv_ldc2 hX.1 hX.2.1 hX.2.2.2.2.1 (hX.2.2.2.2.2.1 _ hw) hd (k hX r M' ho H ls locs hl hP hS)
theorem G_iald {β : Type} {Y : gY} {J : gJ} {X : gX} {fi : gY → gX → β → gM → State → Prop} {pc : Nat} {lv : List (Nat × Value)} {st : List Value} {M : gM} {o : Option (β × gM)} {i : Int32} {a n : Nat} (ar : Y[a]? = some (1, n, [])) (hd : decode J.1 pc = .ok (.iaload, 1)) (k : G Y J X fi (pc + 1) lv (.int (M.1 a (tn i)) :: st) M o) : G Y J X fi pc lv (.int i :: .ref (ad X a) :: st) M (g_ck i n o) := by
  intro hX r M' ho H ls locs hl hP hS
  unfold g_ck at ho
  split at ho
  · cases ho
  · next hne => exact va_iald hX.1 hX.2.1 hX.2.2.2.2.2.2.2.1 hP a 0 (g_at ar) rfl hne hd (k hX r M' ho H ls locs hl hP hS)
theorem G_lald {β : Type} {Y : gY} {J : gJ} {X : gX} {fi : gY → gX → β → gM → State → Prop} {pc : Nat} {lv : List (Nat × Value)} {st : List Value} {M : gM} {o : Option (β × gM)} {i : Int32} {a n : Nat} (ar : Y[a]? = some (2, n, [])) (hd : decode J.1 pc = .ok (.laload, 1)) (k : G Y J X fi (pc + 1) lv (.long (M.2.1 a (tn i)) :: st) M o) : G Y J X fi pc lv (.int i :: .ref (ad X a) :: st) M (g_ck i n o) := by
  intro hX r M' ho H ls locs hl hP hS
  unfold g_ck at ho
  split at ho
  · cases ho
  · next hne => exact va_lald hX.1 hX.2.1 hX.2.2.2.2.2.2.2.1 hP a 1 (g_at ar) rfl hne hd (k hX r M' ho H ls locs hl hP hS)
theorem G_zald {β : Type} {Y : gY} {J : gJ} {X : gX} {fi : gY → gX → β → gM → State → Prop} {pc : Nat} {lv : List (Nat × Value)} {st : List Value} {M : gM} {o : Option (β × gM)} {i : Int32} {a n : Nat} (ar : Y[a]? = some (3, n, [])) (hd : decode J.1 pc = .ok (.baload, 1)) (k : G Y J X fi (pc + 1) lv (.int (M.1 a (tn i)) :: st) M o) : G Y J X fi pc lv (.int i :: .ref (ad X a) :: st) M (g_ck i n o) := by
  intro hX r M' ho H ls locs hl hP hS
  unfold g_ck at ho
  split at ho
  · cases ho
  · next hne => exact va_zald hX.1 hX.2.1 hX.2.2.2.2.2.2.2.1 hP a 2 (g_at ar) rfl hne hd (k hX r M' ho H ls locs hl hP hS)
theorem G_iast {β : Type} {Y : gY} {J : gJ} {X : gX} {fi : gY → gX → β → gM → State → Prop} {pc : Nat} {lv : List (Nat × Value)} {st : List Value} {M : gM} {o : Option (β × gM)} {i : Int32} {x : Int32} {a n : Nat} (ar : Y[a]? = some (1, n, [])) (hd : decode J.1 pc = .ok (.iastore, 1)) (k : G Y J X fi (pc + 1) lv st (sI M a (tn i) x) o) : G Y J X fi pc lv (.int x :: .int i :: .ref (ad X a) :: st) M (g_ck i n o) := by
  intro hX r M' ho H ls locs hl hP hS
  unfold g_ck at ho
  split at ho
  · cases ho
  · next hne =>
    refine va_iast hX.1 hX.2.1 hX.2.2.2.2.2.2.2.1 hP (hX.2.2.2.2.2.2.2.2.1.va M) hS a 0 (g_at ar) rfl hne hd (fun H1 locs1 hP1 hD1 hS1 => ?_)
    refine k hX r M' ho H1 ls locs1 hl ?_ hS1
    have e := g_set (Z := xZ X) (M := M) (M' := (sI M a (tn i) x)) ar sI_ne
    rw [← e]
    simp only [g_ce, sI_at]
    exact hP1
theorem G_last {β : Type} {Y : gY} {J : gJ} {X : gX} {fi : gY → gX → β → gM → State → Prop} {pc : Nat} {lv : List (Nat × Value)} {st : List Value} {M : gM} {o : Option (β × gM)} {i : Int32} {x : Int64} {a n : Nat} (ar : Y[a]? = some (2, n, [])) (hd : decode J.1 pc = .ok (.lastore, 1)) (k : G Y J X fi (pc + 1) lv st (sL M a (tn i) x) o) : G Y J X fi pc lv (.long x :: .int i :: .ref (ad X a) :: st) M (g_ck i n o) := by
  intro hX r M' ho H ls locs hl hP hS
  unfold g_ck at ho
  split at ho
  · cases ho
  · next hne =>
    refine va_last hX.1 hX.2.1 hX.2.2.2.2.2.2.2.1 hP (hX.2.2.2.2.2.2.2.2.1.va M) hS a 1 (g_at ar) rfl hne hd (fun H1 locs1 hP1 hD1 hS1 => ?_)
    refine k hX r M' ho H1 ls locs1 hl ?_ hS1
    have e := g_set (Z := xZ X) (M := M) (M' := (sL M a (tn i) x)) ar sL_ne
    rw [← e]
    simp only [g_ce, sL_at]
    exact hP1
theorem G_zast {β : Type} {Y : gY} {J : gJ} {X : gX} {fi : gY → gX → β → gM → State → Prop} {pc : Nat} {lv : List (Nat × Value)} {st : List Value} {M : gM} {o : Option (β × gM)} {i : Int32} {x : Int32} {a n : Nat} (ar : Y[a]? = some (3, n, [])) (hd : decode J.1 pc = .ok (.bastore, 1)) (k : G Y J X fi (pc + 1) lv st (sI M a (tn i) (zb x)) o) : G Y J X fi pc lv (.int x :: .int i :: .ref (ad X a) :: st) M (g_ck i n o) := by
  intro hX r M' ho H ls locs hl hP hS
  unfold g_ck at ho
  split at ho
  · cases ho
  · next hne =>
    refine va_zast hX.1 hX.2.1 hX.2.2.2.2.2.2.2.1 hP (hX.2.2.2.2.2.2.2.2.1.va M) hS a 2 (g_at ar) rfl hne hd (fun H1 locs1 hP1 hD1 hS1 => ?_)
    refine k hX r M' ho H1 ls locs1 hl ?_ hS1
    have e := g_set (Z := xZ X) (M := M) (M' := (sI M a (tn i) (zb x))) ar sI_ne
    rw [← e]
    simp only [g_ce, sI_at]
    exact hP1
theorem G_alen {β : Type} {Y : gY} {J : gJ} {X : gX} {fi : gY → gX → β → gM → State → Prop} {pc : Nat} {lv : List (Nat × Value)} {st : List Value} {M : gM} {o : Option (β × gM)} {a n : Nat} {v : Int32} (ar : Y[a]? = some (1, n, [])) (hv : Int32.ofNat n = v) (hd : decode J.1 pc = .ok (.arraylength, 1)) (k : G Y J X fi (pc + 1) lv (.int v :: st) M o) : G Y J X fi pc lv (.ref (ad X a) :: st) M o := by
  intro hX r M' ho H ls locs hl hP hS
  exact va_alen hX.1 hX.2.1 hX.2.2.2.2.2.2.2.1 hP a 0 (g_at ar) (ty := .int) rfl hv hd (k hX r M' ho H ls locs hl hP hS)
theorem G_alenL {β : Type} {Y : gY} {J : gJ} {X : gX} {fi : gY → gX → β → gM → State → Prop} {pc : Nat} {lv : List (Nat × Value)} {st : List Value} {M : gM} {o : Option (β × gM)} {a n : Nat} {v : Int32} (ar : Y[a]? = some (2, n, [])) (hv : Int32.ofNat n = v) (hd : decode J.1 pc = .ok (.arraylength, 1)) (k : G Y J X fi (pc + 1) lv (.int v :: st) M o) : G Y J X fi pc lv (.ref (ad X a) :: st) M o := by
  intro hX r M' ho H ls locs hl hP hS
  exact va_alen hX.1 hX.2.1 hX.2.2.2.2.2.2.2.1 hP a 1 (g_at ar) (ty := .long) rfl hv hd (k hX r M' ho H ls locs hl hP hS)
def g_cls (ci : Nat) (C : String) (T : u_T) (N : Nat) (ty : Nat → FieldType) : Prop := vwCl[ci]? = some (C, T, N) ∧ (∀ w ∈ u_ws C T N, w ∈ gws) ∧ (∀ k, k < N → parseFieldDescriptor (T k).2.2.1 = some (ty k)) ∧ (∀ a, a < N → ∀ b, b < N → a ≠ b → (T a).2.1 ≠ (T b).2.1)
theorem G_get {β : Type} {Y : gY} {J : gJ} {X : gX} {fi : gY → gX → β → gM → State → Prop} {pc : Nat} {lv : List (Nat × Value)} {st : List Value} {M : gM} {o : Option (β × gM)} {k ci c idx : Nat} {cs : List Nat} {C : String} {T : u_T} {N : Nat} {ty : Nat → FieldType} {v : Value} (j : Nat) (cl : g_cls ci C T N ty) (ob : Y[k]? = some (0, ci, cs)) (hw : Cond.fieldLink J.2.2.1 idx (T j).1 (T j).2.1 (T j).2.2.1 ∈ gws) (hd : decode J.1 pc = .ok (.getfield idx, 3)) (hj : j < N) (hcs : cs[j]? = some c) (hv : g_fv (ad X) M k j c = v) (kk : G Y J X fi (pc + 3) lv (v :: st) M o) : G Y J X fi pc lv (.ref (ad X k) :: st) M o := by
  intro hX r M' ho H ls locs hl hP hS
  exact va_get hX.1 hX.2.1 hX.2.2.2.2.2.1 cl.2.1 hX.2.2.2.2.1 hX.2.2.2.2.2.2.2.1 hP k (g_at ob) cl.1 j hj (hX.2.2.2.2.2.1 _ hw) (fun _ h => h) (by rw [← hv]; exact g_fs_get hcs) hd (kk hX r M' ho H ls locs hl hP hS)
theorem G_putI {β : Type} {Y : gY} {J : gJ} {X : gX} {fi : gY → gX → β → gM → State → Prop} {pc : Nat} {lv : List (Nat × Value)} {st : List Value} {M : gM} {o : Option (β × gM)} {k ci idx : Nat} {cs : List Nat} {C : String} {T : u_T} {N : Nat} {ty : Nat → FieldType} {x : Int32} (j : Nat) (cl : g_cls ci C T N ty) (ob : Y[k]? = some (0, ci, cs)) (hw : Cond.fieldLink J.2.2.1 idx (T j).1 (T j).2.1 (T j).2.2.1 ∈ gws) (hd : decode J.1 pc = .ok (.putfield idx, 3)) (hj : j < N) (hcs : cs[j]? = some 0) (hfin : (T j).2.2.2 = false) (hty : ty j = .int)  (kk : G Y J X fi (pc + 3) lv st (sI M k j x) o) : G Y J X fi pc lv (.int x :: .ref (ad X k) :: st) M o := by
  intro hX r M' ho H ls locs hl hP hS
  refine va_put hX.1 hX.2.1 hX.2.2.2.2.2.1 cl.2.1 ty cl.2.2.1 cl.2.2.2 hX.2.2.2.2.1 hX.2.2.2.2.2.2.2.1 hP (hX.2.2.2.2.2.2.2.2.1.va M) hS k (g_at ob) cl.1 j hj (hX.2.2.2.2.2.1 _ hw) (fun _ h => h) hfin ((cl.2.2.1 j hj).trans (congrArg some hty)) rfl rfl (by have h := (List.getElem?_eq_some_iff.mp hcs).1; simpa [g_fs] using h) hd (fun H1 locs1 hP1 hD1 hS1 => ?_)
  refine kk hX r M' ho H1 ls locs1 hl ?_ hS1
  have e := g_set (Z := xZ X) (M := M) (M' := (sI M k j x)) ob sI_ne
  have e2 := g_fs_set (ad := ad X) (M := M) (M' := (sI M k j x)) (k := k) hcs sI_fv0 sI_fv
  rw [← e]
  simp only [g_ce, ← e2]
  exact hP1
theorem G_putZ {β : Type} {Y : gY} {J : gJ} {X : gX} {fi : gY → gX → β → gM → State → Prop} {pc : Nat} {lv : List (Nat × Value)} {st : List Value} {M : gM} {o : Option (β × gM)} {k ci idx : Nat} {cs : List Nat} {C : String} {T : u_T} {N : Nat} {ty : Nat → FieldType} {x : Int32} (j : Nat) (cl : g_cls ci C T N ty) (ob : Y[k]? = some (0, ci, cs)) (hw : Cond.fieldLink J.2.2.1 idx (T j).1 (T j).2.1 (T j).2.2.1 ∈ gws) (hd : decode J.1 pc = .ok (.putfield idx, 3)) (hj : j < N) (hcs : cs[j]? = some 0) (hfin : (T j).2.2.2 = false) (hty : ty j = .boolean) (hx : narrow .boolean (.int x) = .int x ∧ fits .boolean (.int x) = true) (kk : G Y J X fi (pc + 3) lv st (sI M k j x) o) : G Y J X fi pc lv (.int x :: .ref (ad X k) :: st) M o := by
  intro hX r M' ho H ls locs hl hP hS
  refine va_put hX.1 hX.2.1 hX.2.2.2.2.2.1 cl.2.1 ty cl.2.2.1 cl.2.2.2 hX.2.2.2.2.1 hX.2.2.2.2.2.2.2.1 hP (hX.2.2.2.2.2.2.2.2.1.va M) hS k (g_at ob) cl.1 j hj (hX.2.2.2.2.2.1 _ hw) (fun _ h => h) hfin ((cl.2.2.1 j hj).trans (congrArg some hty)) hx.1 hx.2 (by have h := (List.getElem?_eq_some_iff.mp hcs).1; simpa [g_fs] using h) hd (fun H1 locs1 hP1 hD1 hS1 => ?_)
  refine kk hX r M' ho H1 ls locs1 hl ?_ hS1
  have e := g_set (Z := xZ X) (M := M) (M' := (sI M k j x)) ob sI_ne
  have e2 := g_fs_set (ad := ad X) (M := M) (M' := (sI M k j x)) (k := k) hcs sI_fv0 sI_fv
  rw [← e]
  simp only [g_ce, ← e2]
  exact hP1
theorem G_putR {β : Type} {Y : gY} {J : gJ} {X : gX} {fi : gY → gX → β → gM → State → Prop} {pc : Nat} {lv : List (Nat × Value)} {st : List Value} {M : gM} {o : Option (β × gM)} {k ci idx : Nat} {cs : List Nat} {C : String} {T : u_T} {N : Nat} {ty : Nat → FieldType} {n : Nat} {D : String} (j : Nat) (cl : g_cls ci C T N ty) (ob : Y[k]? = some (0, ci, cs)) (hw : Cond.fieldLink J.2.2.1 idx (T j).1 (T j).2.1 (T j).2.2.1 ∈ gws) (hd : decode J.1 pc = .ok (.putfield idx, 3)) (hj : j < N) (hcs : cs[j]? = some 2) (hfin : (T j).2.2.2 = false) (hty : ty j = .object D) (hn0 : n ≠ 0) (kk : G Y J X fi (pc + 3) lv st (sR M k j n) o) : G Y J X fi pc lv (.ref (ad X n) :: .ref (ad X k) :: st) M o := by
  intro hX r M' ho H ls locs hl hP hS
  refine va_put hX.1 hX.2.1 hX.2.2.2.2.2.1 cl.2.1 ty cl.2.2.1 cl.2.2.2 hX.2.2.2.2.1 hX.2.2.2.2.2.2.2.1 hP (hX.2.2.2.2.2.2.2.2.1.va M) hS k (g_at ob) cl.1 j hj (hX.2.2.2.2.2.1 _ hw) (fun _ h => h) hfin ((cl.2.2.1 j hj).trans (congrArg some hty)) rfl rfl (by have h := (List.getElem?_eq_some_iff.mp hcs).1; simpa [g_fs] using h) hd (fun H1 locs1 hP1 hD1 hS1 => ?_)
  refine kk hX r M' ho H1 ls locs1 hl ?_ hS1
  have e := g_set (Z := xZ X) (M := M) (M' := (sR M k j n)) ob sR_ne
  have e2 := g_fs_set (ad := ad X) (M := M) (M' := (sR M k j n)) (k := k) hcs (sR_fv2 hn0) sR_fv
  rw [← e]
  simp only [g_ce, ← e2]
  exact hP1
theorem G_putRA {β : Type} {Y : gY} {J : gJ} {X : gX} {fi : gY → gX → β → gM → State → Prop} {pc : Nat} {lv : List (Nat × Value)} {st : List Value} {M : gM} {o : Option (β × gM)} {k ci idx : Nat} {cs : List Nat} {C : String} {T : u_T} {N : Nat} {ty : Nat → FieldType} {n : Nat} (j : Nat) (cl : g_cls ci C T N ty) (ob : Y[k]? = some (0, ci, cs)) (hw : Cond.fieldLink J.2.2.1 idx (T j).1 (T j).2.1 (T j).2.2.1 ∈ gws) (hd : decode J.1 pc = .ok (.putfield idx, 3)) (hj : j < N) (hcs : cs[j]? = some 2) (hfin : (T j).2.2.2 = false) (hty : ty j = .array .int) (hn0 : n ≠ 0) (kk : G Y J X fi (pc + 3) lv st (sR M k j n) o) : G Y J X fi pc lv (.ref (ad X n) :: .ref (ad X k) :: st) M o := by
  intro hX r M' ho H ls locs hl hP hS
  refine va_put hX.1 hX.2.1 hX.2.2.2.2.2.1 cl.2.1 ty cl.2.2.1 cl.2.2.2 hX.2.2.2.2.1 hX.2.2.2.2.2.2.2.1 hP (hX.2.2.2.2.2.2.2.2.1.va M) hS k (g_at ob) cl.1 j hj (hX.2.2.2.2.2.1 _ hw) (fun _ h => h) hfin ((cl.2.2.1 j hj).trans (congrArg some hty)) rfl rfl (by have h := (List.getElem?_eq_some_iff.mp hcs).1; simpa [g_fs] using h) hd (fun H1 locs1 hP1 hD1 hS1 => ?_)
  refine kk hX r M' ho H1 ls locs1 hl ?_ hS1
  have e := g_set (Z := xZ X) (M := M) (M' := (sR M k j n)) ob sR_ne
  have e2 := g_fs_set (ad := ad X) (M := M) (M' := (sR M k j n)) (k := k) hcs (sR_fv2 hn0) sR_fv
  rw [← e]
  simp only [g_ce, ← e2]
  exact hP1
def g_or {β : Type} (a b t : Nat) (k : Nat → Option β) : Option β := if t = a ∨ t = b then k t else none
def g_is {β : Type} (a t : Nat) (o : Option β) : Option β := if t = a then o else none
theorem G_getO {β : Type} {Y : gY} {J : gJ} {X : gX} {fi : gY → gX → β → gM → State → Prop} {pc : Nat} {lv : List (Nat × Value)} {st : List Value} {M : gM}  {k ci idx : Nat} {cs : List Nat} {C : String} {T : u_T} {N : Nat} {ty : Nat → FieldType} {a b : Nat} {kf : Nat → Option (β × gM)} (j : Nat) (cl : g_cls ci C T N ty) (ob : Y[k]? = some (0, ci, cs)) (hw : Cond.fieldLink J.2.2.1 idx (T j).1 (T j).2.1 (T j).2.2.1 ∈ gws) (hd : decode J.1 pc = .ok (.getfield idx, 3)) (hj : j < N) (hcs : cs[j]? = some 2) (h0 : a ≠ 0 ∧ b ≠ 0) (kk : ∀ t, t = a ∨ t = b → G Y J X fi (pc + 3) lv (.ref (ad X t) :: st) M (kf t)) : G Y J X fi pc lv (.ref (ad X k) :: st) M (g_or a b (M.2.2 k j) kf) := by
  unfold g_or
  refine G_ite (fun h => ?_) (fun _ => G_none)
  refine G_get j cl ob hw hd hj hcs ?_ (kk _ h)
  have hn : M.2.2 k j ≠ 0 := by rcases h with h | h <;> rw [h]; exact h0.1; exact h0.2
  simp [g_fv, hn, va_rf]
theorem G_getC {β : Type} {Y : gY} {J : gJ} {X : gX} {fi : gY → gX → β → gM → State → Prop} {pc : Nat} {lv : List (Nat × Value)} {st : List Value} {M : gM} {o : Option (β × gM)} {k ci idx : Nat} {cs : List Nat} {C : String} {T : u_T} {N : Nat} {ty : Nat → FieldType} {a : Nat} (j : Nat) (cl : g_cls ci C T N ty) (ob : Y[k]? = some (0, ci, cs)) (hw : Cond.fieldLink J.2.2.1 idx (T j).1 (T j).2.1 (T j).2.2.1 ∈ gws) (hd : decode J.1 pc = .ok (.getfield idx, 3)) (hj : j < N) (hcs : cs[j]? = some 2) (h0 : a ≠ 0) (kk : G Y J X fi (pc + 3) lv (.ref (ad X a) :: st) M o) : G Y J X fi pc lv (.ref (ad X k) :: st) M (g_is a (M.2.2 k j) o) := by
  unfold g_is
  refine G_ite (fun h => ?_) (fun _ => G_none)
  refine G_get j cl ob hw hd hj hcs ?_ kk
  simp [g_fv, h, h0, va_rf]
theorem G_iret {Y : gY} {J : gJ} {X : gX} {pc : Nat} {lv : List (Nat × Value)} {M : gM} {x : Int32} (hr : J.2.2.2.1 = some .int) (hd : decode J.1 pc = .ok (.ireturn, 1)) : G Y J X (g_fin g_ei) pc lv [.int x] M (some (x, M)) := by
  intro hX r M' ho H ls locs hl hP hS
  cases ho
  exact W.iret hX.1 hX.2.1 (hX.2.2.2.1.trans hr) (fun t ht _ => ⟨⟨rfl, by rw [ht]; exact hP⟩, hS.F ht⟩) (fun q hq => hS.2.2 q hq) hd hX.2.2.2.2.2.2.1
theorem G_lret {Y : gY} {J : gJ} {X : gX} {pc : Nat} {lv : List (Nat × Value)} {M : gM} {x : Int64} (hr : J.2.2.2.1 = some .long) (hd : decode J.1 pc = .ok (.lreturn, 1)) : G Y J X (g_fin g_el) pc lv [.long x] M (some (x, M)) := by
  intro hX r M' ho H ls locs hl hP hS
  cases ho
  exact W.lret hX.1 hX.2.1 (hX.2.2.2.1.trans hr) (fun t ht _ => ⟨⟨rfl, by rw [ht]; exact hP⟩, hS.F ht⟩) (fun q hq => hS.2.2 q hq) hd hX.2.2.2.2.2.2.1
theorem G_vret {Y : gY} {J : gJ} {X : gX} {pc : Nat} {lv : List (Nat × Value)} {M : gM} (hr : J.2.2.2.1 = none) (hd : decode J.1 pc = .ok (.return_, 1)) : G Y J X (g_fin g_ev) pc lv [] M (some ((), M)) := by
  intro hX r M' ho H ls locs hl hP hS
  cases ho
  exact W.vret hX.1 hX.2.1 (hX.2.2.2.1.trans hr) (fun t ht _ => ⟨⟨rfl, by rw [ht]; exact hP⟩, hS.F ht⟩) (fun q hq => hS.2.2 q hq) hd hX.2.2.2.2.2.2.1
theorem G_zret {Y : gY} {J : gJ} {X : gX} {pc : Nat} {lv : List (Nat × Value)} {M : gM} {b : Bool} (hr : J.2.2.2.1 = some .boolean) (hd : decode J.1 pc = .ok (.ireturn, 1)) : G Y J X (g_fin g_eb) pc lv [.int (b2i b)] M (some (b, M)) := by
  intro hX r M' ho H ls locs hl hP hS
  cases ho
  exact W.zret hX.1 hX.2.1 (hX.2.2.2.1.trans hr) (by cases b <;> rfl) (fun t ht _ => ⟨⟨rfl, by rw [ht]; exact hP⟩, hS.F ht⟩) (fun q hq => hS.2.2 q hq) hd hX.2.2.2.2.2.2.1
theorem G_zretI {Y : gY} {J : gJ} {X : gX} {pc : Nat} {lv : List (Nat × Value)} {M : gM} {x : Int32} (hr : J.2.2.2.1 = some .boolean) (hd : decode J.1 pc = .ok (.ireturn, 1)) : G Y J X (g_fin g_eb) pc lv [.int x] M (g_tb x (fun b => some (b, M))) := by
  unfold g_tb
  refine G_ite (fun h => ?_) (fun _ => G_ite (fun h => ?_) (fun _ => G_none))
  · subst h; exact G_zret (b := false) hr hd
  · subst h; exact G_zret (b := true) hr hd
