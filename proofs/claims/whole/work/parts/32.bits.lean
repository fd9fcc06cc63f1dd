/-! pasted from kit/laws (BITS, NUMBERS) -/
/-! rows on bits, shifts and unsigned numbers, to paste: each family out of a closed proof of our own, whole with what it rests on; each by itself clean at Lean in its own claim (generation 39, form 5). Take a family whole -/
/-! ===== Int32 by its bits: bt x i ===== -/
def bt (x : Int32) (i : Nat) : Bool := x.toBitVec.getLsbD i
theorem b_ext {x y : Int32} (h : ∀ i, i < 32 → bt x i = bt y i) : x = y := Int32.toBitVec_inj.mp (BitVec.eq_of_getLsbD_eq (fun i hi => h i hi))
theorem b_or (x y : Int32) (i : Nat) : bt (x ||| y) i = (bt x i || bt y i) := by unfold bt; rw [Int32.toBitVec_or, BitVec.getLsbD_or]
theorem b_and (x y : Int32) (i : Nat) : bt (x &&& y) i = (bt x i && bt y i) := by unfold bt; rw [Int32.toBitVec_and, BitVec.getLsbD_and]
theorem b_xor (x y : Int32) (i : Nat) : bt (x ^^^ y) i = (bt x i ^^ bt y i) := by unfold bt; rw [Int32.toBitVec_xor, BitVec.getLsbD_xor]
theorem b_big {x : Int32} {i : Nat} (h : 32 ≤ i) : bt x i = false := BitVec.getLsbD_of_ge _ _ h
theorem b_255 (i : Nat) : bt 255 i = decide (i < 8) := by
  rcases Nat.lt_or_ge i 32 with h | h
  · exact (by decide +kernel : ∀ i, i < 32 → bt 255 i = decide (i < 8)) i h
  · rw [b_big h, decide_eq_false (by omega)]
theorem b_65535 (i : Nat) : bt 65535 i = decide (i < 16) := by
  rcases Nat.lt_or_ge i 32 with h | h
  · exact (by decide +kernel : ∀ i, i < 32 → bt 65535 i = decide (i < 16)) i h
  · rw [b_big h, decide_eq_false (by omega)]
theorem b_m1 : ∀ i, i < 32 → bt (-1) i = true := by decide +kernel
theorem b_0 (i : Nat) : bt 0 i = false := BitVec.getLsbD_zero
theorem s_l : ∀ n, n < 32 → ((nI n &&& 31).toBitVec.smod 32).toNat = n := by decide +kernel
theorem s_u : ∀ n, n < 32 → (((nI n).toUInt32 &&& Int32.toUInt32 31).toBitVec % 32).toNat = n := by decide +kernel
theorem b_shl (n : Nat) (hn : n < 32) (x : Int32) {i : Nat} (hi : i < 32) : bt (x <<< (nI n &&& 31)) i = (decide (n ≤ i) && bt x (i - n)) := by
  unfold bt
  rw [Int32.toBitVec_shiftLeft]
  show (x.toBitVec <<< ((nI n &&& 31).toBitVec.smod 32).toNat).getLsbD i = _
  rw [s_l n hn, BitVec.getLsbD_shiftLeft]
  rcases Nat.lt_or_ge i n with h | h
  · simp [h, Nat.not_le.mpr h]
  · simp [hi, h, Nat.not_lt.mpr h]
theorem b_ushr (n : Nat) (hn : n < 32) (x : Int32) (i : Nat) : bt ((x.toUInt32 >>> ((nI n).toUInt32 &&& Int32.toUInt32 31)).toInt32) i = bt x (n + i) := by
  show (x.toUInt32 >>> ((nI n).toUInt32 &&& Int32.toUInt32 31)).toBitVec.getLsbD i = x.toUInt32.toBitVec.getLsbD (n + i)
  rw [UInt32.toBitVec_shiftRight]
  show (x.toUInt32.toBitVec >>> (((nI n).toUInt32 &&& Int32.toUInt32 31).toBitVec % 32).toNat).getLsbD i = _
  rw [s_u n hn, BitVec.getLsbD_ushiftRight]
theorem b_sshr (n : Nat) (hn : n < 32) (x : Int32) {i : Nat} (hi : i < 32) : bt (x >>> (nI n &&& 31)) i = if n + i < 32 then bt x (n + i) else bt x 31 := by
  unfold bt
  rw [Int32.toBitVec_shiftRight]
  show (x.toBitVec.sshiftRight ((nI n &&& 31).toBitVec.smod 32).toNat).getLsbD i = _
  rw [s_l n hn, BitVec.getLsbD_sshiftRight, BitVec.msb_eq_getLsbD_last]
  simp [hi]
theorem wb_tb (n : Nat) : (lN n).toBitVec = BitVec.ofNat 64 n := rfl
theorem wb_inj {a b : Int64} (h : a.toBitVec = b.toBitVec) : a = b := Int64.toBitVec_inj.mp h
theorem wb_tn {n : Nat} (h : n < 2 ^ 64) : (lN n).toBitVec.toNat = n := by rw [wb_tb, BitVec.toNat_ofNat, Nat.mod_eq_of_lt h]
theorem wb_of (x : Int64) : ∃ n, n < 2 ^ 64 ∧ x = lN n := ⟨x.toBitVec.toNat, x.toBitVec.isLt, wb_inj (by rw [wb_tb]; simp)⟩
theorem wb_of32 (x : Int32) : ∃ n, n < 2 ^ 32 ∧ x = nI n := ⟨x.toBitVec.toNat, x.toBitVec.isLt, Int32.toBitVec_inj.mp (by show _ = BitVec.ofNat 32 _; simp)⟩
theorem wb_c : ∀ k, k < 64 → ((nI k).toInt64 &&& 63) = lN k := by decide +kernel
theorem wb_cu : ∀ k, k < 64 → ((nI k).toInt64.toUInt64 &&& Int64.toUInt64 63) = UInt64.ofNat k := by decide +kernel
theorem wb_sm : ∀ k, k < 64 → (BitVec.ofNat 64 k).smod 64 = BitVec.ofNat 64 k := by decide +kernel
theorem wb_pw {a b : Nat} (h : a ≤ b) : 2 ^ b = 2 ^ a * 2 ^ (b - a) := by rw [← Nat.pow_add]; congr 1; omega
theorem wb_lt2 {a b : Nat} (h : a < b) : 2 ^ a < 2 ^ b := Nat.pow_lt_pow_right (by decide) h
theorem wb_mod (n : Nat) : lN n = lN (n % 2 ^ 64) := wb_inj (by rw [wb_tb, wb_tb]; apply BitVec.eq_of_toNat_eq; rw [BitVec.toNat_ofNat, BitVec.toNat_ofNat, Nat.mod_mod])
theorem wb_shr {n k : Nat} (hn : n < 2 ^ 64) (hk : k < 64) : ((lN n).toUInt64 >>> ((nI k).toInt64.toUInt64 &&& Int64.toUInt64 63)).toInt64 = lN (n / 2 ^ k) := by
  rw [wb_cu k hk]
  apply wb_inj
  apply BitVec.eq_of_toNat_eq
  show ((lN n).toUInt64 >>> UInt64.ofNat k).toNat = (BitVec.ofNat 64 _).toNat
  have h1 : (UInt64.ofNat k).toNat = k := by
    show (BitVec.ofNat 64 k).toNat = k
    rw [BitVec.toNat_ofNat, Nat.mod_eq_of_lt (by omega)]
  have h2 : (lN n).toUInt64.toNat = n := wb_tn hn
  rw [UInt64.toNat_shiftRight, h1, h2, Nat.mod_eq_of_lt hk, Nat.shiftRight_eq_div_pow, BitVec.toNat_ofNat, Nat.mod_eq_of_lt (Nat.lt_of_le_of_lt (Nat.div_le_self _ _) hn)]
theorem wb_shl (n : Nat) {k : Nat} (hk : k < 64) : lN n <<< ((nI k).toInt64 &&& 63) = lN (n * 2 ^ k) := by
  rw [wb_c k hk]
  apply wb_inj
  rw [Int64.toBitVec_shiftLeft, wb_tb, wb_tb, wb_tb, wb_sm k hk]
  apply BitVec.eq_of_toNat_eq
  rw [BitVec.shiftLeft_eq', BitVec.toNat_shiftLeft, BitVec.toNat_ofNat, BitVec.toNat_ofNat, BitVec.toNat_ofNat, Nat.mod_eq_of_lt (show k < 2 ^ 64 by omega), Nat.shiftLeft_eq, Nat.mul_mod, Nat.mod_mod, ← Nat.mul_mod]
theorem wb_and {a b : Nat} (ha : a < 2 ^ 64) (hb : b < 2 ^ 64) : lN a &&& lN b = lN (a &&& b) := by
  apply wb_inj
  rw [Int64.toBitVec_and, wb_tb, wb_tb, wb_tb]
  apply BitVec.eq_of_toNat_eq
  rw [BitVec.toNat_and, BitVec.toNat_ofNat, BitVec.toNat_ofNat, BitVec.toNat_ofNat, Nat.mod_eq_of_lt ha, Nat.mod_eq_of_lt hb, Nat.mod_eq_of_lt (Nat.and_lt_two_pow _ hb)]
theorem wb_or {a b : Nat} (ha : a < 2 ^ 64) (hb : b < 2 ^ 64) : lN a ||| lN b = lN (a ||| b) := by
  apply wb_inj
  rw [Int64.toBitVec_or, wb_tb, wb_tb, wb_tb]
  apply BitVec.eq_of_toNat_eq
  rw [BitVec.toNat_or, BitVec.toNat_ofNat, BitVec.toNat_ofNat, BitVec.toNat_ofNat, Nat.mod_eq_of_lt ha, Nat.mod_eq_of_lt hb, Nat.mod_eq_of_lt (Nat.or_lt_two_pow ha hb)]
theorem wb_mask {n k : Nat} (hn : n < 2 ^ 64) (hk : k < 64) : lN n &&& lN (2 ^ k - 1) = lN (n % 2 ^ k) := by
  rw [wb_and hn (by have := wb_lt2 hk; omega), Nat.and_two_pow_sub_one_eq_mod]
theorem wb_a1 {n : Nat} (hn : n < 2 ^ 64) : lN n &&& 1 = lN (n % 2) := wb_mask (k := 1) hn (by decide)
theorem fa_and (a b : Nat) : nI a &&& nI b = nI (a &&& b) := by
  apply Int32.toBitVec_inj.1
  show BitVec.ofNat 32 a &&& BitVec.ofNat 32 b = BitVec.ofNat 32 (a &&& b)
  apply BitVec.eq_of_getLsbD_eq
  intro i hi
  simp [hi]
theorem fa_mask (n k : Nat) : nI n &&& nI (2 ^ k - 1) = nI (n % 2 ^ k) := by rw [fa_and, Nat.and_two_pow_sub_one_eq_mod]
/-! ===== the entries of a group ===== -/
def cE (G j : Nat) : Nat := G / 2 ^ (12 * j) % 2 ^ 12
theorem cE_or {G e j j2 : Nat} (he : e < 4096) : cE (G ||| e * 2 ^ (12 * j)) j2 = cE G j2 ||| (if j2 = j then e else 0) := by
  apply Nat.eq_of_testBit_eq
  intro i
  unfold cE
  by_cases hj : j2 = j
  · subst hj
    rw [if_pos rfl, Nat.testBit_or, Nat.testBit_mod_two_pow, Nat.testBit_mod_two_pow, Nat.testBit_div_two_pow, Nat.testBit_div_two_pow, Nat.testBit_or, Nat.testBit_mul_two_pow]
    by_cases hi : i < 12
    · simp [hi]
    · have : e.testBit i = false := Nat.testBit_lt_two_pow (Nat.lt_of_lt_of_le he (by
        show 2 ^ 12 ≤ 2 ^ i
        exact Nat.pow_le_pow_right (by decide) (by omega)))
      simp [hi, this]
  · rw [if_neg hj, Nat.testBit_or, Nat.testBit_mod_two_pow, Nat.testBit_mod_two_pow, Nat.testBit_div_two_pow, Nat.testBit_div_two_pow, Nat.testBit_or, Nat.testBit_mul_two_pow, Nat.zero_testBit]
    by_cases hi : i < 12
    · have : (decide (12 * j ≤ 12 * j2 + i) && e.testBit (12 * j2 + i - 12 * j)) = false := by
        by_cases h : 12 * j ≤ 12 * j2 + i
        · have h2 : e.testBit (12 * j2 + i - 12 * j) = false := Nat.testBit_lt_two_pow (Nat.lt_of_lt_of_le he (by
            show 2 ^ 12 ≤ 2 ^ (12 * j2 + i - 12 * j)
            exact Nat.pow_le_pow_right (by decide) (by omega)))
          rw [h2, Bool.and_false]
        · simp [h]
      simp [hi]
      intro h1 h2
      exfalso
      have h4 : 12 * j2 + i = i + 12 * j2 := Nat.add_comm _ _
      rw [h4, h2, Bool.and_true] at this
      simp at this
      omega
    · simp [hi]
theorem cE_top {G e j : Nat} (he : e < 4096) (hj : j < 4) : (G ||| e * 2 ^ (12 * j)) / 2 ^ 48 = G / 2 ^ 48 := by
  apply Nat.eq_of_testBit_eq
  intro i
  rw [Nat.testBit_div_two_pow, Nat.testBit_div_two_pow, Nat.testBit_or, Nat.testBit_mul_two_pow]
  have h2 : e.testBit (i + 48 - 12 * j) = false := Nat.testBit_lt_two_pow (Nat.lt_of_lt_of_le he (by
    show 2 ^ 12 ≤ 2 ^ (i + 48 - 12 * j)
    exact Nat.pow_le_pow_right (by decide) (by omega)))
  have h3 : e.testBit (48 + i - 12 * j) = false := by rw [Nat.add_comm 48 i]; exact h2
  simp [h2, h3]
theorem cE_fresh {st j : Nat} (hj : j < 4) : cE (st * 2 ^ 48) j = 0 := by
  unfold cE
  have h : st * 2 ^ 48 = st * 2 ^ (36 - 12 * j) * 2 ^ 12 * 2 ^ (12 * j) := by
    rw [Nat.mul_assoc, Nat.mul_assoc, ← Nat.pow_add, ← Nat.pow_add]
    congr 2
    omega
  rw [h, Nat.mul_div_cancel _ (Nat.two_pow_pos _), Nat.mul_mod_left]
theorem cE_lt (G j : Nat) : cE G j < 4096 := Nat.mod_lt _ (by decide)
theorem nI_64 {n : Nat} (h : n < 2 ^ 31) : (nI n).toInt64 = lN n := by
  apply Int64.toInt_inj.1
  rw [Int32.toInt_toInt64, nI_toInt h, lN_toInt h]
theorem cE_read {G j : Nat} (hG : G < 2 ^ 64) (hj : j < 4) : ((((lN G).toUInt64 >>> ((i3 ((12 * j : Nat) : Int)).toInt64.toUInt64 &&& Int64.toUInt64 63)).toInt64).toInt32) &&& (4095 : Int32) = i3 (cE G j : Nat) := by
  have h : 12 * j < 64 := by omega
  have e := wb_shr hG h
  rw [i3_nI] at e
  rw [e, lN_i]
  exact fa_mask (G / 2 ^ (12 * j)) 12
theorem cE_stamp {G : Nat} (hG : G < 2 ^ 64) : ((((lN G).toUInt64 >>> ((48 : Int32).toInt64.toUInt64 &&& Int64.toUInt64 63)).toInt64).toInt32) = i3 (G / 2 ^ 48 : Nat) := by
  have e := wb_shr hG (k := 48) (by decide)
  have e2 : nI 48 = 48 := rfl
  rw [e2] at e
  rw [e, lN_i]
  rfl
theorem cE_write {G e j : Nat} (hG : G < 2 ^ 64) (he : e < 4096) (hj : j < 4) : lN G ||| ((i3 (e : Int)).toInt64 <<< ((i3 ((12 * j : Nat) : Int)).toInt64 &&& 63)) = lN (G ||| e * 2 ^ (12 * j)) := by
  have h1 := wb_shl e (k := 12 * j) (by omega)
  have h3 : e * 2 ^ (12 * j) < 2 ^ 64 := by
    have : e * 2 ^ (12 * j) < 2 ^ 12 * 2 ^ (12 * j) := Nat.mul_lt_mul_of_pos_right he (Nat.two_pow_pos _)
    rw [← Nat.pow_add] at this
    exact Nat.lt_of_lt_of_le this (Nat.pow_le_pow_right (by decide) (by omega))
  rw [← i3_nI, ← i3_nI, nI_64 (n := e) (by omega), h1, wb_or hG h3]
theorem cE_wlt {G e j : Nat} (hG : G < 2 ^ 64) (he : e < 4096) (hj : j < 4) : G ||| e * 2 ^ (12 * j) < 2 ^ 64 := by
  have h3 : e * 2 ^ (12 * j) < 2 ^ 64 := by
    have : e * 2 ^ (12 * j) < 2 ^ 12 * 2 ^ (12 * j) := Nat.mul_lt_mul_of_pos_right he (Nat.two_pow_pos _)
    rw [← Nat.pow_add] at this
    exact Nat.lt_of_lt_of_le this (Nat.pow_le_pow_right (by decide) (by omega))
  exact Nat.or_lt_two_pow hG h3
theorem cE_new {st : Nat} (h : st < 65536) : ((i3 (st : Int)).toInt64) <<< ((48 : Int32).toInt64 &&& 63) = lN (st * 2 ^ 48) := by
  have h1 := wb_shl st (k := 48) (by decide)
  rw [← i3_nI, nI_64 (by omega)]
  exact h1
/-! ===== one bit of an int ===== -/
theorem bt_i {m : Int32} {a : Nat} (ha : a < 31) : (((m >>> (i3 (a : Int) &&& 31)) &&& (1 : Int32)) = (1 : Int32)) = (bt m a = true) := by
  have h0 : bt (m >>> (i3 (a : Int) &&& 31)) 0 = bt m a := by
    have := b_sshr a (by omega) m (i := 0) (by omega)
    rw [i3_nI] at this
    rw [this, if_pos (by omega)]
    rfl
  apply propext
  constructor
  · intro h
    have := congrArg (fun x => bt x 0) h
    simp only [b_and] at this
    rw [h0] at this
    have e : bt 1 0 = true := by decide
    rw [e, Bool.and_true] at this
    exact this
  · intro h
    apply b_ext
    intro i hi
    rw [b_and]
    by_cases h1 : i = 0
    · subst h1
      rw [h0, h]
      rfl
    · have : ∀ i, i < 32 → i ≠ 0 → bt 1 i = false := by decide
      rw [this i hi h1, Bool.and_false]
theorem bt_or {m : Int32} {a b : Nat} (ha : a < 31) (hb : b < 32) : bt (m ||| ((1 : Int32) <<< (i3 (a : Int) &&& 31))) b = (bt m b || decide (a = b)) := by
  have h := b_shl a (by omega) 1 hb
  rw [i3_nI] at h
  rw [b_or, h]
  congr 1
  have : ∀ i, i < 32 → bt 1 i = decide (i = 0) := by decide
  by_cases h1 : a ≤ b
  · rw [this _ (by omega)]
    by_cases h2 : a = b
    · subst h2; simp
    · simp [h1, h2]
      omega
  · simp [h1]
    omega
