/-! ===== sums and CONDS as rows of words, and what they come to ===== -/
abbrev Cw : Type := Nat × Int
abbrev Lw : Type := Bool × Bool × Nat × List Cw × List Cw
def cop (o : Nat) : Int := [0, 1, 3, 4, 5, 6, 2].getD o 0
def ec1 (x : Cw) : Int32 := i3 (x.2 * 16 + cop x.1)
def okW (x : Cw) : Prop := x.1 ≤ 6 ∧ 0 ≤ x.2 ∧ x.2 < 10000 ∧ (x.1 = 1 → x.2 < 6) ∧ (2 ≤ x.1 → x.2 = 0)
def SG (f : Nat → Int32) (c : Nat) : List Int32 → Prop
  | [] => True
  | w :: ws => f c = w ∧ SG f (c + 1) ws
theorem SG_a {f : Nat → Int32} : ∀ (a : List Int32) (c : Nat) (b : List Int32), SG f c (a ++ b) ↔ SG f c a ∧ SG f (c + a.length) b := by
  intro a
  induction a with
  | nil => intro c b; simp [SG]
  | cons w a ih =>
    intro c b
    rw [List.cons_append, SG, SG, ih, List.length_cons, show c + 1 + a.length = c + (a.length + 1) by omega, and_assoc]
theorem SG_c {f g : Nat → Int32} : ∀ (a : List Int32) (c : Nat), (∀ k, c ≤ k → k < c + a.length → g k = f k) → SG f c a → SG g c a := by
  intro a
  induction a with
  | nil => intro c _ _; trivial
  | cons w a ih =>
    intro c h h2
    rw [List.length_cons] at h
    exact ⟨by rw [h c (Nat.le_refl _) (by omega)]; exact h2.1, ih (c + 1) (fun k k1 k2 => h k (by omega) (by omega)) h2.2⟩
/-- how the row of values grows and shrinks -/
def dF (b : Nat) : List Cw → Nat → Nat → Prop
  | [], d, e => d = e
  | x :: F, d, e => okW x ∧ (x.1 < 2 → d < b ∧ dF b F (d + 1) e) ∧ (x.1 = 6 → 1 ≤ d ∧ dF b F d e) ∧ (2 ≤ x.1 → x.1 ≠ 6 → 2 ≤ d ∧ dF b F (d - 1) e)
theorem dF_a {b : Nat} : ∀ (F : List Cw) (d e g : Nat) (G : List Cw), dF b F d e → dF b G e g → dF b (F ++ G) d g := by
  intro F
  induction F with
  | nil => intro d e g G h1 h2; rw [dF] at h1; subst h1; exact h2
  | cons x F ih =>
    intro d e g G h1 h2
    obtain ⟨a, a2, c, p⟩ := h1
    exact ⟨a, fun q => ⟨(a2 q).1, ih _ _ _ _ (a2 q).2 h2⟩, fun q => ⟨(c q).1, ih _ _ _ _ (c q).2 h2⟩, fun q r => ⟨(p q r).1, ih _ _ _ _ (p q r).2 h2⟩⟩
def st1 (E : Int → Int32) (x : Cw) (s : List Int32) : Option (List Int32) :=
  if x.1 = 0 then some (i3 x.2 :: s) else if x.1 = 1 then some (E x.2 :: s) else match s with
    | [] => none
    | y :: s1 => if x.1 = 6 then some (-y :: s1) else match s1 with
      | [] => none
      | z :: s2 => if x.1 = 2 then some ((z + y) :: s2) else if x.1 = 3 then some ((z - y) :: s2) else if x.1 = 4 then some ((z * y) :: s2) else if y = 0 then none else some ((z / y) :: s2)
def ev (E : Int → Int32) : List Cw → Option (List Int32) → Option (List Int32)
  | [], o => o
  | x :: F, o => ev E F (o.bind (st1 E x))
theorem ev_n (E : Int → Int32) : ∀ F, ev E F none = none := by
  intro F
  induction F with
  | nil => rfl
  | cons x F ih => exact ih
theorem ev_a (E : Int → Int32) : ∀ (F : List Cw) (o : Option (List Int32)) (G : List Cw), ev E (F ++ G) o = ev E G (ev E F o) := by
  intro F
  induction F with
  | nil => intro o G; rfl
  | cons x F ih => intro o G; exact ih _ _
theorem st1_b {b : Nat} {E : Int → Int32} {x : Cw} {s : List Int32} (u : List Int32) {d e : Nat} (h : dF b [x] d e) (hs : s.length = d) : st1 E x (s ++ u) = (st1 E x s).map (· ++ u) ∧ (∀ r, st1 E x s = some r → r.length = e) := by
  obtain ⟨hx, h1, h2, h3⟩ := h
  obtain ⟨op, v⟩ := x
  have hop : op ≤ 6 := hx.1
  unfold st1
  by_cases a0 : op = 0
  · subst a0
    have := (h1 (show 0 < 2 by decide)).2
    rw [dF] at this
    simp
    omega
  by_cases a1 : op = 1
  · subst a1
    have := (h1 (show 1 < 2 by decide)).2
    rw [dF] at this
    simp
    omega
  simp only [a0, a1, if_false]
  cases s with
  | nil =>
    exfalso
    rw [List.length_nil] at hs
    by_cases a6 : op = 6
    · have := (h2 a6).1; omega
    · have := (h3 (show 2 ≤ op by omega) a6).1; omega
  | cons y s1 =>
    by_cases a6 : op = 6
    · have := (h2 a6).2
      rw [dF] at this
      subst a6
      simp at hs ⊢
      omega
    · have h4 := h3 (show 2 ≤ op by omega) a6
      have h5 := h4.2
      rw [dF] at h5
      cases s1 with
      | nil => simp at hs; omega
      | cons z s2 =>
        simp at hs
        simp only [a6, if_false, List.cons_append]
        by_cases a2 : op = 2
        · simp [a2]; omega
        by_cases a3 : op = 3
        · simp [a3]; omega
        by_cases a4 : op = 4
        · simp [a4]; omega
        simp only [a2, a3, a4, if_false]
        by_cases hy : y = 0
        · simp [hy]
        · simp [hy]; omega
theorem dF_c {b : Nat} {x : Cw} {F : List Cw} {d g : Nat} (h : dF b (x :: F) d g) : ∃ e, dF b [x] d e ∧ dF b F e g := by
  obtain ⟨hx, h1, h2, h3⟩ := h
  by_cases a : x.1 < 2
  · exact ⟨d + 1, ⟨hx, fun q => ⟨(h1 q).1, rfl⟩, fun q => by omega, fun q => by omega⟩, (h1 a).2⟩
  · by_cases a6 : x.1 = 6
    · exact ⟨d, ⟨hx, fun q => by omega, fun q => ⟨(h2 q).1, rfl⟩, fun q r => absurd a6 r⟩, (h2 a6).2⟩
    · exact ⟨d - 1, ⟨hx, fun q => by omega, fun q => absurd q a6, fun q r => ⟨(h3 q r).1, rfl⟩⟩, (h3 (by omega) a6).2⟩
theorem dF_d {b : Nat} {x : Cw} {d e : Nat} (h : dF b [x] d e) (hd : d ≤ b) : e ≤ b := by
  obtain ⟨hx, h1, h2, h3⟩ := h
  by_cases a : x.1 < 2
  · have h4 := h1 a
    have h5 := h4.2
    rw [dF] at h5
    omega
  · by_cases a6 : x.1 = 6
    · have h5 := (h2 a6).2
      rw [dF] at h5
      omega
    · have h5 := (h3 (by omega) a6).2
      rw [dF] at h5
      omega
theorem ev_b {b : Nat} {E : Int → Int32} (u : List Int32) : ∀ (F : List Cw) (d e : Nat) (s : List Int32), dF b F d e → s.length = d → ev E F (some (s ++ u)) = (ev E F (some s)).map (· ++ u) ∧ (∀ r, ev E F (some s) = some r → r.length = e) := by
  intro F
  induction F with
  | nil =>
    intro d e s h hs
    rw [dF] at h
    exact ⟨rfl, fun r hr => by rw [ev] at hr; cases hr; omega⟩
  | cons x F ih =>
    intro d e s h hs
    obtain ⟨e1, h1, h2⟩ := dF_c h
    obtain ⟨q1, q2⟩ := st1_b (E := E) u h1 hs
    rw [ev, ev, Option.bind_some, Option.bind_some, q1]
    cases hst : st1 E x s with
    | none => rw [Option.map_none, ev_n]; exact ⟨rfl, fun r hr => by cases hr⟩
    | some r => rw [Option.map_some]; exact ih e1 e r h2 (q2 r hst)
theorem dF_sh {b : Nat} : ∀ (F : List Cw) (d e : Nat), dF b F d e → dF (b + 1) F (d + 1) (e + 1) := by
  intro F
  induction F with
  | nil => intro d e h; rw [dF] at h ⊢; omega
  | cons x F ih =>
    intro d e h
    obtain ⟨a, a2, c, p⟩ := h
    refine ⟨a, fun q => ⟨?_, ih _ _ (a2 q).2⟩, fun q => ⟨?_, ih _ _ (c q).2⟩, fun q r => ⟨?_, ?_⟩⟩
    · have := (a2 q).1; omega
    · have := (c q).1; omega
    · have := (p q r).1; omega
    · have h1 := (p q r).1
      have := ih _ _ (p q r).2
      rwa [show d - 1 + 1 = d + 1 - 1 by omega] at this
theorem dF_up {b b' : Nat} (hb : b ≤ b') : ∀ (F : List Cw) (d e : Nat), dF b F d e → dF b' F d e := by
  intro F
  induction F with
  | nil => intro d e h; exact h
  | cons x F ih =>
    intro d e h
    obtain ⟨a, a2, c, p⟩ := h
    exact ⟨a, fun q => ⟨by have := (a2 q).1; omega, ih _ _ (a2 q).2⟩, fun q => ⟨(c q).1, ih _ _ (c q).2⟩, fun q r => ⟨(p q r).1, ih _ _ (p q r).2⟩⟩
/-- what a sum comes to: none, where it divides by 0 -/
def suV (E : Int → Int32) (X : List Cw) : Option Int32 := match ev E X (some []) with
  | some (v :: _) => some v
  | _ => none
theorem su_x {b : Nat} {E : Int → Int32} {X : List Cw} (h : dF b X 0 1) : (ev E X (some []) = none ∧ suV E X = none) ∨ ∃ v, ev E X (some []) = some [v] ∧ suV E X = some v := by
  have := (ev_b (E := E) [] X 0 1 [] h rfl).2
  unfold suV
  cases he : ev E X (some []) with
  | none => exact Or.inl ⟨rfl, rfl⟩
  | some r =>
    have hl := this r he
    match r, hl with
    | [v], _ => exact Or.inr ⟨v, rfl, rfl⟩
def cmB (m : Nat) (x y : Int32) : Bool := if m = 0 then decide (x = y) else if m = 1 then !decide (x = y) else if m = 2 then !decide (y ≤ x) else !decide (y < x)
def liV (E : Int → Int32) (l : Lw) : Bool := match suV E l.2.2.2.1, suV E l.2.2.2.2 with
  | some x, some y => (cmB l.2.2.1 x y) != l.2.1
  | _, _ => l.2.1
def hoV (E : Int → Int32) : Bool → List Lw → Bool
  | all, [] => all
  | all, l :: L => if l.1 && all then true else hoV E ((l.1 || all) && liV E l) L
def okL (l : Lw) : Prop := l.2.2.1 < 4 ∧ dF 15 l.2.2.2.1 0 1 ∧ dF 15 l.2.2.2.2 0 1
def vr (a b c d e f : Int32) (k : Int) : Int32 := if k = 0 then a else if k = 1 then b else if k = 2 then c else if k = 3 then d else if k = 4 then e else f
/-! the class -/
def AR (g : Nat → Int32) : List Int32 → Prop
  | [] => True
  | y :: s => g s.length = y ∧ AR g s
theorem AR_u {g : Nat → Int32} {j : Nat} {x : Int32} : ∀ s : List Int32, s.length ≤ j → AR g s → AR (upd g j x) s := by
  intro s
  induction s with
  | nil => intro _ _; trivial
  | cons y s ih =>
    intro h1 h2
    rw [List.length_cons] at h1
    exact ⟨by rw [up_n (by omega)]; exact h2.1, ih (by omega) h2.2⟩
theorem an_n {a b : Nat} (ha : a < 2147483648) (hb : b < 2147483648) : i3 (a : Int) &&& i3 (b : Int) = i3 ((a &&& b : Nat) : Int) := by
  apply Int32.toBitVec_inj.1
  rw [Int32.toBitVec_and]
  show BitVec.ofInt 32 (a : Int) &&& BitVec.ofInt 32 (b : Int) = BitVec.ofInt 32 ((a &&& b : Nat) : Int)
  rw [BitVec.ofInt_natCast, BitVec.ofInt_natCast, BitVec.ofInt_natCast, BitVec.ofNat_and]
theorem an_63 {a : Nat} (h : a < 64) : i3 (a : Int) &&& 63 = i3 (a : Int) := by
  rw [show (63 : Int32) = i3 ((63 : Nat) : Int) from rfl, an_n (by omega) (by omega), show (63 : Nat) = 2 ^ 6 - 1 from rfl, Nat.and_two_pow_sub_one_eq_mod, Nat.mod_eq_of_lt (by omega)]
theorem an_7 {a : Nat} (h : a < 8) : i3 (a : Int) &&& 7 = i3 (a : Int) := by
  rw [show (7 : Int32) = i3 ((7 : Nat) : Int) from rfl, an_n (by omega) (by omega), show (7 : Nat) = 2 ^ 3 - 1 from rfl, Nat.and_two_pow_sub_one_eq_mod, Nat.mod_eq_of_lt (by omega)]
theorem an_15 {v c : Nat} (hv : v < 100000) (hc : c < 16) : i3 ((v : Int) * 16 + c) &&& 15 = i3 (c : Int) := by
  rw [show (15 : Int32) = i3 ((15 : Nat) : Int) from rfl, show (v : Int) * 16 + c = ((v * 16 + c : Nat) : Int) by omega, an_n (by omega) (by omega), show (15 : Nat) = 2 ^ 4 - 1 from rfl, Nat.and_two_pow_sub_one_eq_mod]
  congr 2
  omega
theorem dv_16 {v c : Nat} (hv : v < 100000) (hc : c < 16) : i3 ((v : Int) * 16 + c) / 16 = i3 (v : Int) := by
  rw [iL16, i3_div (by omega) (by omega) (by omega) (by omega)]
  congr 1
  omega
def stI (o : Option (List Int32)) (d : Nat) (M : gM) : Prop := match o with
  | none => M.1 28 2 = 1
  | some S => M.1 28 2 = 0 ∧ AR (M.1 29) S ∧ S.length = d
section
variable {E : Int → Int32} {a1 : Nat} {M N : gM}
theorem e_step {b : Nat} (hb : b ≤ 16) {n p d e u : Nat} {x : Cw} {o : Option (List Int32)} {Q : Int32 → gM → Prop} (ha : a1 ≠ 28 ∧ a1 ≠ 29 ∧ a1 ≠ 30) (hx : M.1 a1 p = ec1 x) (hd : dF b [x] d e) (hdd : d ≤ b) (hu : u ≤ 2) (hp : p < 800) (hE : ∀ k : Nat, k < 6 → M.1 30 k = E (k : Int)) (ho : stI o (d + u) M)
    (k : ∀ M', Fr [28, 29] M M' → stI (o.bind (st1 E x)) (e + u) M' → wp (f_X2_run_18 a1 n (i3 (((e + u : Nat) : Int) - 1)) (i3 ((p + 1 : Nat) : Int)) M') Q) : wp (f_X2_run_18 a1 (n + 1) (i3 (((d + u : Nat) : Int) - 1)) (i3 (p : Int)) M) Q := by
  obtain ⟨hok, h1, h2, h3⟩ := hd
  obtain ⟨op, v⟩ := x
  have hop : op ≤ 6 := hok.1
  have hv0 : 0 ≤ v := hok.2.1
  have hv1 : v < 10000 := hok.2.2.1
  obtain ⟨w, rfl⟩ : ∃ w : Nat, v = w := ⟨v.toNat, by omega⟩
  have hcop : ∃ c : Nat, cop op = c ∧ c < 7 := by
    have : op = 0 ∨ op = 1 ∨ op = 2 ∨ op = 3 ∨ op = 4 ∨ op = 5 ∨ op = 6 := by omega
    rcases this with g | g | g | g | g | g | g <;> subst g
    · exact ⟨0, rfl, by omega⟩
    · exact ⟨1, rfl, by omega⟩
    · exact ⟨3, rfl, by omega⟩
    · exact ⟨4, rfl, by omega⟩
    · exact ⟨5, rfl, by omega⟩
    · exact ⟨6, rfl, by omega⟩
    · exact ⟨2, rfl, by omega⟩
  obtain ⟨c, ec, hc⟩ := hcop
  have hw : M.1 a1 p = i3 ((w : Int) * 16 + c) := by rw [hx, ec1, ec]
  rw [f_X2_run_18, iL800, if_neg (by rw [i3_le (by omega) (by omega) (by omega) (by omega)]; omega), ck_ok (by omega) (by omega) (by omega), wp_v, tn_n (by omega), hw, an_15 (by omega) (by omega), iL7, if_pos (by rw [i3_lt (by omega) (by omega) (by omega) (by omega)]; omega)]
  -- one that is laid on top
  have go : ∀ (T : Nat) (val : Int32), T + 1 = e + u → T < 60 → Fr [28, 29] M (sI M 29 T val) := fun T val _ _ => Fr.rf.i (by decide)
  have fin : ∀ (T : Nat) (val : Int32) (M1 : gM), T + 1 = e + u → Fr [28, 29] M M1 → stI (o.bind (st1 E (op, (w : Int)))) (e + u) (sI M1 29 T val) → wp (f_X2_run_18 a1 n (i3 (T : Int)) (i3 (p : Int) + 1) (sI M1 29 T val)) Q := by
    intro T val M1 hT f1 hs
    have := k (sI M1 29 T val) (f1.i (by decide)) hs
    rw [i3_s1, show (p : Int) + 1 = ((p + 1 : Nat) : Int) by omega, show (T : Int) = ((e + u : Nat) : Int) - 1 by omega]
    exact this
  by_cases a0 : op < 2
  · obtain ⟨b1, b2⟩ := h1 a0
    rw [dF] at b2
    have eT : i3 (((d + u : Nat) : Int) - 1) + 1 = i3 ((d + u : Nat) : Int) := by rw [i3_s1]; congr 1; omega
    have hc2 : c = op := by
      have : op = 0 ∨ op = 1 := by omega
      rcases this with g | g <;> subst g
      · have : cop 0 = 0 := rfl
        omega
      · have : cop 1 = 1 := rfl
        omega
    have ns : ∀ val : Int32, (∀ S, st1 E (op, (w : Int)) S = some (val :: S)) → stI (o.bind (st1 E (op, (w : Int)))) (e + u) (sI M 29 (d + u) val) := by
      intro val hst
      cases o with
      | none => show (sI M 29 (d + u) val).1 28 2 = 1; rw [rI_n (by decide)]; exact ho
      | some S =>
        obtain ⟨s1, s2, s3⟩ := ho
        rw [Option.bind_some, hst]
        refine ⟨by rw [rI_n (by decide)]; exact s1, ?_, by rw [List.length_cons]; omega⟩
        rw [rI_e]
        exact ⟨by rw [s3, up_e], AR_u S (by omega) s2⟩
    rw [if_neg (by rw [iL1, i3_lt (by omega) (by omega) (by omega) (by omega)]; omega), f_X2_run_66, wp_v, eT, i3_s1, show ((d + u : Nat) : Int) + 1 = ((d + u + 1 : Nat) : Int) by omega, an_63 (by omega), an_63 (by omega), ck_ok (by omega) (by omega) (by omega), wp_v, ck_ok (by omega) (by omega) (by omega), wp_v, tn_n (by omega), tn_n (by omega)]
    by_cases a1' : op = 0
    · subst a1'
      rw [hc2, if_pos (show i3 ((0 : Nat) : Int) = 0 from rfl), ck_ok (by omega) (by omega) (by omega), wp_v, ck_ok (by omega) (by omega) (by omega), wp_m, hw, dv_16 (by omega) (by omega)]
      exact fin (d + u) _ M (by omega) Fr.rf (ns _ (fun S => rfl))
    · have e1 : op = 1 := by omega
      subst e1
      have hw6 : (w : Int) < 6 := hok.2.2.2.1 rfl
      rw [hc2, if_neg (by decide), if_pos (show i3 ((1 : Nat) : Int) = 1 from rfl), ck_ok (by omega) (by omega) (by omega), hw, dv_16 (by omega) (by omega), an_7 (by omega), ck_ok (by omega) (by omega) (by omega), wp_v, ck_ok (by omega) (by omega) (by omega), wp_m, tn_n (by omega), hE w (by omega)]
      exact fin (d + u) _ M (by omega) Fr.rf (ns _ (fun S => rfl))
  by_cases a6 : op = 6
  · subst a6
    obtain ⟨b1, b2⟩ := h2 rfl
    rw [dF] at b2
    have hc2 : c = 2 := by have : cop 6 = 2 := rfl; omega
    subst hc2
    obtain ⟨T, hT⟩ : ∃ T : Nat, d + u = T + 1 := ⟨d + u - 1, by omega⟩
    rw [if_pos (by decide), if_pos (by decide), f_X2_run_66, wp_v, hT, show ((T + 1 : Nat) : Int) - 1 = (T : Int) by omega, show i3 (T : Int) + 0 = i3 (T : Int) by rw [iL0, i3_add, Int.add_zero], i3_s1, show (T : Int) + 1 = ((T + 1 : Nat) : Int) by omega, an_63 (by omega), an_63 (by omega), ck_ok (by omega) (by omega) (by omega), wp_v, ck_ok (by omega) (by omega) (by omega), wp_v, tn_n (by omega), tn_n (by omega), if_neg (by decide), if_neg (by decide), if_pos (by decide), wp_v, ck_ok (by omega) (by omega) (by omega), wp_m]
    refine fin T _ M (by omega) Fr.rf ?_
    cases o with
    | none => show (sI M 29 T _).1 28 2 = 1; rw [rI_n (by decide)]; exact ho
    | some S =>
      obtain ⟨s1, s2, s3⟩ := ho
      match S, s2, s3 with
      | [], _, s3 => rw [List.length_nil] at s3; omega
      | y :: S1, s2, s3 =>
        rw [List.length_cons] at s3
        have e1 : S1.length = T := by omega
        rw [Option.bind_some, show st1 E (6, (w : Int)) (y :: S1) = some (-y :: S1) from rfl]
        refine ⟨by rw [rI_n (by decide)]; exact s1, ?_, by rw [List.length_cons]; omega⟩
        rw [rI_e]
        have := s2.1
        rw [e1] at this
        exact ⟨by rw [e1, up_e, this], AR_u S1 (by omega) s2.2⟩
  · obtain ⟨b1, b2⟩ := h3 (show 2 ≤ op by omega) a6
    rw [dF] at b2
    have hc2 : c = op + 1 := by
      have : op = 2 ∨ op = 3 ∨ op = 4 ∨ op = 5 := by omega
      rcases this with g | g | g | g <;> subst g
      · have : cop 2 = 3 := rfl
        omega
      · have : cop 3 = 4 := rfl
        omega
      · have : cop 4 = 5 := rfl
        omega
      · have : cop 5 = 6 := rfl
        omega
    obtain ⟨T, hT⟩ : ∃ T : Nat, d + u = T + 2 := ⟨d + u - 2, by omega⟩
    have hbin : ∀ (val : Int32) (M1 : gM), Fr [28, 29] M M1 → M1.1 29 = M.1 29 → (o = none ∨ M1.1 28 2 = M.1 28 2) → (o = none → M1.1 28 2 = 1) → (∀ y z S2, o = some (y :: z :: S2) → st1 E (op, (w : Int)) (y :: z :: S2) = some (val :: S2)) → stI (o.bind (st1 E (op, (w : Int)))) (e + u) (sI M1 29 T val) := by
      intro val M1 f1 g1 g2 g3 g4
      cases o with
      | none => show (sI M1 29 T val).1 28 2 = 1; rw [rI_n (by decide)]; exact g3 rfl
      | some S =>
        obtain ⟨s1, s2, s3⟩ := ho
        match S, s2, s3, g4 with
        | [], _, s3, _ => rw [List.length_nil] at s3; omega
        | [y], _, s3, _ => simp at s3; omega
        | y :: z :: S2, s2, s3, g4 =>
          simp only [List.length_cons] at s3
          rw [Option.bind_some, g4 y z S2 rfl]
          refine ⟨?_, ?_, by rw [List.length_cons]; omega⟩
          · rw [rI_n (by decide)]
            rcases g2 with g | g
            · cases g
            · rw [g]; exact s1
          · rw [rI_e, g1]
            have e1 : S2.length = T := by omega
            exact ⟨by rw [e1, up_e], AR_u S2 (by omega) s2.2.2⟩
    have top : ∀ y z S2, o = some (y :: z :: S2) → M.1 29 T = z ∧ M.1 29 (T + 1) = y := by
      intro y z S2 e1
      subst e1
      obtain ⟨s1, s2, s3⟩ := ho
      simp only [List.length_cons] at s3
      have e1 : S2.length = T := by omega
      have q1 := s2.1
      have q2 := s2.2.1
      rw [List.length_cons, e1] at q1
      rw [e1] at q2
      exact ⟨q2, q1⟩
    rw [if_pos (by rw [iL1, i3_lt (by omega) (by omega) (by omega) (by omega)]; omega), if_neg (by rw [iL2, i3_eq (by omega) (by omega) (by omega) (by omega)]; omega), f_X2_run_66, wp_v, hT, show i3 (((T + 2 : Nat) : Int) - 1) + (-1) = i3 (T : Int) by rw [show ((-1) : Int32) = i3 (-1) from rfl, i3_add]; congr 1; omega, i3_s1, show (T : Int) + 1 = ((T + 1 : Nat) : Int) by omega, an_63 (by omega), an_63 (by omega), ck_ok (by omega) (by omega) (by omega), wp_v, ck_ok (by omega) (by omega) (by omega), wp_v, tn_n (s := T) (by omega), tn_n (s := T + 1) (by omega), if_neg (by rw [iL0, i3_eq (by omega) (by omega) (by omega) (by omega)]; omega), if_neg (by rw [iL1, i3_eq (by omega) (by omega) (by omega) (by omega)]; omega), if_neg (by rw [iL2, i3_eq (by omega) (by omega) (by omega) (by omega)]; omega)]
    have self : o = none → M.1 28 2 = 1 := fun e1 => by subst e1; exact ho
    have h4 : op = 2 ∨ op = 3 ∨ op = 4 ∨ op = 5 := by omega
    rcases h4 with g | g | g | g <;> subst g <;> subst hc2
    · rw [if_pos (by decide), wp_v, ck_ok (by omega) (by omega) (by omega), wp_m]
      exact fin T _ M (by omega) Fr.rf (hbin _ M Fr.rf rfl (Or.inr rfl) self (fun y z S2 e1 => by rw [(top y z S2 e1).1, (top y z S2 e1).2]; rfl))
    · rw [if_neg (by decide), if_pos (by decide), wp_v, ck_ok (by omega) (by omega) (by omega), wp_m]
      exact fin T _ M (by omega) Fr.rf (hbin _ M Fr.rf rfl (Or.inr rfl) self (fun y z S2 e1 => by rw [(top y z S2 e1).1, (top y z S2 e1).2]; rfl))
    · rw [if_neg (by decide), if_neg (by decide), if_pos (by decide), wp_v, ck_ok (by omega) (by omega) (by omega), wp_m]
      exact fin T _ M (by omega) Fr.rf (hbin _ M Fr.rf rfl (Or.inr rfl) self (fun y z S2 e1 => by rw [(top y z S2 e1).1, (top y z S2 e1).2]; rfl))
    · rw [if_neg (by decide), if_neg (by decide), if_neg (by decide)]
      refine wp_if (fun hz => ?_) (fun hz => ?_)
      · rw [wp_m, ck_ok (by omega) (by omega) (by omega), wp_m]
        have f1 : Fr [28, 29] M (sI M 28 2 1) := Fr.rf.i (by decide)
        refine fin T _ (sI M 28 2 1) (by omega) f1 ?_
        have hno : o.bind (st1 E (5, (w : Int))) = none := by
          cases o with
          | none => rfl
          | some S =>
            obtain ⟨s1, s2, s3⟩ := id ho
            match S, s2, s3 with
            | [], _, s3 => rw [List.length_nil] at s3; omega
            | [y], _, s3 => simp at s3; omega
            | y :: z :: S2, s2, s3 =>
              have := (top y z S2 rfl).2
              rw [this] at hz
              rw [Option.bind_some, hz]
              rfl
        rw [hno]
        show (sI (sI M 28 2 1) 29 T _).1 28 2 = 1
        rw [rI_n (by decide), rI_e, up_e]
      · rw [nz_ok hz, wp_v, ck_ok (by omega) (by omega) (by omega), wp_m]
        refine fin T _ M (by omega) Fr.rf (hbin _ M Fr.rf rfl (Or.inr rfl) self (fun y z S2 e1 => ?_))
        have hy := (top y z S2 e1).2
        rw [hy] at hz
        rw [(top y z S2 e1).1, (top y z S2 e1).2]
        show (if y = 0 then none else some ((z / y) :: S2)) = some ((z / y) :: S2)
        rw [if_neg hz]
/-- the words of a sum are reckoned one behind another -/
theorem e_run {b : Nat} (hb : b ≤ 16) (ha : a1 ≠ 28 ∧ a1 ≠ 29 ∧ a1 ≠ 30) {u : Nat} (hu : u ≤ 2) {g : Nat} : ∀ (F : List Cw) (n p d : Nat) (o : Option (List Int32)) (M : gM) (c : Nat), SG (M.1 a1) p (F.map ec1) → dF b F d g → d ≤ b → p + F.length < 800 → F.length < n → (∀ k : Nat, k < 6 → M.1 30 k = E (k : Int)) → stI o (d + u) M → (M.1 a1 (p + F.length)) &&& 15 = i3 (c : Int) → 7 ≤ c → c < 16 → wp (f_X2_run_18 a1 n (i3 (((d + u : Nat) : Int) - 1)) (i3 (p : Int)) M) (fun r N => r = i3 ((p + F.length : Nat) : Int) ∧ Fr [28, 29] M N ∧ stI (ev E F o) (g + u) N) := by
  intro F
  induction F with
  | nil =>
    intro n p d o M c hS hd hdd hp hn hE ho hc h7 h16
    cases n with
    | zero => rw [List.length_nil] at hn; omega
    | succ n =>
      rw [List.length_nil, Nat.add_zero] at hc hp
      rw [f_X2_run_18, iL800, if_neg (by rw [i3_le (by omega) (by omega) (by omega) (by omega)]; omega), ck_ok (by omega) (by omega) (by omega), wp_v, tn_n (by omega), hc, iL7, if_neg (by rw [i3_lt (by omega) (by omega) (by omega) (by omega)]; omega), wp_some]
      rw [dF] at hd
      subst hd
      exact ⟨rfl, Fr.rf, ho⟩
  | cons x F ih =>
    intro n p d o M c hS hd hdd hp hn hE ho hc h7 h16
    rw [List.length_cons] at hp hn hc
    obtain ⟨e, hd1, hd2⟩ := dF_c hd
    cases n with
    | zero => omega
    | succ n =>
      refine e_step hb ha hS.1 hd1 hdd hu (by omega) hE ho (fun M' f hs => ?_)
      have ew : M'.1 a1 = M.1 a1 := f.e1 (by simp; omega)
      have e30 : M'.1 30 = M.1 30 := f.e1 (by decide)
      refine wp_mono (ih n (p + 1) e (o.bind (st1 E x)) M' c (by rw [ew]; exact hS.2) hd2 (dF_d hd1 hdd) (by omega) (by omega) (fun k hk => by rw [e30]; exact hE k hk) hs (by rw [ew, show p + 1 + F.length = p + (F.length + 1) by omega]; exact hc) h7 h16) (fun r N hN => ?_)
      rw [List.length_cons, show p + (F.length + 1) = p + 1 + F.length by omega]
      exact ⟨hN.1, f.tr hN.2.1, hN.2.2⟩
theorem k_run {b : Nat} (hb : b ≤ 16) (ha : a1 ≠ 28 ∧ a1 ≠ 29 ∧ a1 ≠ 30) {F : List Cw} {p g c : Nat} (hS : SG (M.1 a1) p (F.map ec1)) (hd : dF b F 0 g) (hp : p + F.length < 800) (hE : ∀ k : Nat, k < 6 → M.1 30 k = E (k : Int)) (hc : (M.1 a1 (p + F.length)) &&& 15 = i3 (c : Int)) (h7 : 7 ≤ c) (h16 : c < 16) : wp (f_X2_run a1 (i3 (p : Int)) M) (fun r N => r = i3 ((p + F.length : Nat) : Int) ∧ Fr [28, 29] M N ∧ stI (ev E F (some [])) g N) := by
  rw [f_X2_run, wp_m, if_pos (by rw [iL0, i3_le (by omega) (by omega) (by omega) (by omega)]; omega)]
  have f0 : Fr [28, 29] M (sI M 28 2 0) := Fr.rf.i (by decide)
  have ew : (sI M 28 2 0).1 a1 = M.1 a1 := f0.e1 (by simp; omega)
  have e30 : (sI M 28 2 0).1 30 = M.1 30 := f0.e1 (by decide)
  have := e_run (E := E) hb ha (u := 0) (by omega) F FU p 0 (some []) (sI M 28 2 0) c (by rw [ew]; exact hS) hd (by omega) hp (by rw [FU_s]; omega) (fun k hk => by rw [e30]; exact hE k hk) ⟨by rw [rI_e, up_e], trivial, rfl⟩ (by rw [ew]; exact hc) h7 h16
  exact wp_mono this (fun r N hN => ⟨hN.1, f0.tr hN.2.1, hN.2.2⟩)
end
