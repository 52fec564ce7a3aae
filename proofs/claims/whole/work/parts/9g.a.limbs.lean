/-! Numbers by their limbs of thirty bits. -/
def Bp (i : Nat) : Nat := 1073741824 ^ i
theorem Bp_0 : Bp 0 = 1 := rfl
theorem Bp_s (i : Nat) : Bp (i + 1) = Bp i * 1073741824 := Nat.pow_succ ..
theorem Bp_pos (i : Nat) : 0 < Bp i := Nat.pow_pos (by omega)
theorem Bp_add (i j : Nat) : Bp (i + j) = Bp i * Bp j := Nat.pow_add ..
theorem Bp_le {i j : Nat} (h : i ≤ j) : Bp i ≤ Bp j := Nat.pow_le_pow_right (by omega) h
def dgt (V i : Nat) : Nat := V / Bp i % 1073741824
theorem dgt_lt (V i : Nat) : dgt V i < 1073741824 := Nat.mod_lt _ (by omega)
theorem dgt_0 (V : Nat) : dgt V 0 = V % 1073741824 := by
  unfold dgt; rw [Bp_0, Nat.div_one]
theorem mod_s (V i : Nat) : V % Bp (i + 1) = V % Bp i + Bp i * dgt V i := by
  unfold dgt
  rw [Bp_s, Nat.mod_mul]
theorem div_s (V i : Nat) : V / Bp (i + 1) = V / Bp i / 1073741824 := by
  rw [Bp_s, Nat.div_div_eq_div_mul]
theorem dgt_of_lt {V i : Nat} (h : V < Bp i) : dgt V i = 0 := by
  unfold dgt; rw [Nat.div_eq_of_lt h]
/-- a number below two to the thirty is its own first limb -/
theorem dgt_small {v : Nat} (h : v < 1073741824) (i : Nat) : dgt v i = if i = 0 then v else 0 := by
  cases i with
  | zero => rw [dgt_0, if_pos rfl, Nat.mod_eq_of_lt h]
  | succ i =>
    rw [if_neg (by omega)]
    refine dgt_of_lt (Nat.lt_of_lt_of_le h ?_)
    rw [Bp_s]
    have := Bp_pos i
    exact Nat.le_mul_of_pos_left _ this
/-- all limbs tell the number -/
theorem dgt_ext : ∀ (n : Nat) {V W : Nat}, V < Bp n → W < Bp n → (∀ i, i < n → dgt V i = dgt W i) → V = W := by
  intro n V W hV hW h
  have k : ∀ i, i ≤ n → V % Bp i = W % Bp i := fun i hi => by
    induction i with
    | zero => rw [Bp_0, Nat.mod_one, Nat.mod_one]
    | succ i ih => rw [mod_s, mod_s, ih (by omega), h i (by omega)]
  have := k n (Nat.le_refl n)
  rw [Nat.mod_eq_of_lt hV, Nat.mod_eq_of_lt hW] at this
  exact this
/-- two numbers, each times something, added up limb by limb -/
def cry (a V b W i : Nat) : Nat := (a * (V % Bp i) + b * (W % Bp i)) / Bp i
theorem cry_0 (a V b W : Nat) : cry a V b W 0 = 0 := by
  unfold cry; rw [Bp_0, Nat.mod_one, Nat.mod_one, Nat.div_one]; omega
theorem cry_x (a V b W i : Nat) : (a * V + b * W) / Bp i = cry a V b W i + (a * (V / Bp i) + b * (W / Bp i)) := by
  have p := Bp_pos i
  have e : a * V + b * W = (a * (V % Bp i) + b * (W % Bp i)) + Bp i * (a * (V / Bp i) + b * (W / Bp i)) := by
    have h1 : a * V = a * (V % Bp i) + Bp i * (a * (V / Bp i)) := by
      rw [Nat.mul_left_comm (Bp i), ← Nat.mul_add, Nat.mod_add_div]
    have h2 : b * W = b * (W % Bp i) + Bp i * (b * (W / Bp i)) := by
      rw [Nat.mul_left_comm (Bp i), ← Nat.mul_add, Nat.mod_add_div]
    rw [Nat.mul_add]
    omega
  unfold cry
  rw [e, Nat.add_mul_div_left _ _ p]
theorem cry_dgt (a V b W i : Nat) : (cry a V b W i + a * dgt V i + b * dgt W i) % 1073741824 = dgt (a * V + b * W) i := by
  show _ = (a * V + b * W) / Bp i % 1073741824
  rw [cry_x]
  unfold dgt
  generalize cry a V b W i = c
  generalize V / Bp i = x
  generalize W / Bp i = y
  have e : c + (a * x + b * y) = (c + a * (x % 1073741824) + b * (y % 1073741824)) + 1073741824 * (a * (x / 1073741824) + b * (y / 1073741824)) := by
    have h1 : a * x = a * (x % 1073741824) + 1073741824 * (a * (x / 1073741824)) := by
      rw [Nat.mul_left_comm 1073741824, ← Nat.mul_add, Nat.mod_add_div]
    have h2 : b * y = b * (y % 1073741824) + 1073741824 * (b * (y / 1073741824)) := by
      rw [Nat.mul_left_comm 1073741824, ← Nat.mul_add, Nat.mod_add_div]
    rw [Nat.mul_add]
    omega
  rw [e, Nat.add_mul_mod_self_left]
theorem cry_s (a V b W i : Nat) : cry a V b W (i + 1) = (cry a V b W i + a * dgt V i + b * dgt W i) / 1073741824 := by
  have p := Bp_pos i
  have e : a * (V % Bp (i + 1)) + b * (W % Bp (i + 1)) = (a * (V % Bp i) + b * (W % Bp i)) + Bp i * (a * dgt V i + b * dgt W i) := by
    rw [mod_s, mod_s, Nat.mul_add, Nat.mul_add, Nat.mul_add, Nat.mul_left_comm (Bp i) a, Nat.mul_left_comm (Bp i) b]
    omega
  unfold cry
  rw [e, Bp_s, ← Nat.div_div_eq_div_mul, Nat.add_mul_div_left _ _ p, Nat.add_assoc (_ / _)]
theorem cry_le {a V b W i m : Nat} (h : a + b ≤ m) : cry a V b W i ≤ m := by
  have p := Bp_pos i
  unfold cry
  have h1 : a * (V % Bp i) ≤ a * Bp i := Nat.mul_le_mul_left _ (Nat.le_of_lt (Nat.mod_lt _ p))
  have h2 : b * (W % Bp i) ≤ b * Bp i := Nat.mul_le_mul_left _ (Nat.le_of_lt (Nat.mod_lt _ p))
  calc (a * (V % Bp i) + b * (W % Bp i)) / Bp i ≤ ((a + b) * Bp i) / Bp i := Nat.div_le_div_right (by rw [Nat.add_mul]; omega)
    _ = a + b := Nat.mul_div_cancel _ p
    _ ≤ m := h
theorem cry_top {a V b W n : Nat} (hV : V < Bp n) (hW : W < Bp n) : cry a V b W n = (a * V + b * W) / Bp n := by
  unfold cry
  rw [Nat.mod_eq_of_lt hV, Nat.mod_eq_of_lt hW]
/-- division from the top -/
theorem ddiv {Q d : Nat} (hd : 0 < d) : (Q / 1073741824 % d * 1073741824 + Q % 1073741824) % d = Q % d ∧ (Q / 1073741824 % d * 1073741824 + Q % 1073741824) / d = Q / d % 1073741824 := by
  have e1 := Nat.div_add_mod Q 1073741824
  have e2 := Nat.div_add_mod (Q / 1073741824) d
  generalize hq : Q / 1073741824 = q at *
  generalize hr : Q % 1073741824 = r at *
  have rl : r < 1073741824 := by rw [← hr]; exact Nat.mod_lt _ (by omega)
  generalize hu : q / d = u at *
  generalize hv : q % d = v at *
  have vl : v < d := by rw [← hv]; exact Nat.mod_lt _ hd
  have eQ : Q = (v * 1073741824 + r) + d * (u * 1073741824) := by
    rw [← e1, ← e2, Nat.mul_add, ← Nat.mul_assoc d, Nat.mul_comm (d * u)]
    omega
  have xl : v * 1073741824 + r < d * 1073741824 := by
    have : (v + 1) * 1073741824 ≤ d * 1073741824 := Nat.mul_le_mul_right _ vl
    omega
  rw [eQ, Nat.add_mul_mod_self_left, Nat.add_mul_div_left _ _ hd, Nat.add_mul_mod_self_right]
  refine ⟨rfl, (Nat.mod_eq_of_lt ?_).symm⟩
  exact (Nat.div_lt_iff_lt_mul hd).mpr (by omega)
theorem dgt_div {V d i : Nat} (hd : 0 < d) : (V / Bp (i + 1) % d * 1073741824 + dgt V i) % d = V / Bp i % d ∧ (V / Bp (i + 1) % d * 1073741824 + dgt V i) / d = dgt (V / d) i := by
  have := ddiv (Q := V / Bp i) hd
  rw [div_s]
  refine ⟨this.1, this.2.trans ?_⟩
  unfold dgt
  rw [Nat.div_div_eq_div_mul, Nat.div_div_eq_div_mul, Nat.mul_comm]
/-- subtraction limb by limb -/
def brw (V W i : Nat) : Nat := if V % Bp i < W % Bp i then 1 else 0
theorem brw_0 (V W : Nat) : brw V W 0 = 0 := by
  unfold brw; rw [Bp_0, Nat.mod_one, Nat.mod_one]; rfl
theorem brw_le (V W i : Nat) : brw V W i ≤ 1 := by unfold brw; split <;> omega
theorem brw_s (V W i : Nat) : brw V W (i + 1) = if dgt V i < dgt W i + brw V W i then 1 else 0 := by
  have p := Bp_pos i
  have v := Nat.mod_lt V p
  have w := Nat.mod_lt W p
  unfold brw
  rw [mod_s, mod_s]
  generalize V % Bp i = x at *
  generalize W % Bp i = y at *
  generalize dgt V i = d
  generalize dgt W i = e
  generalize Bp i = P at *
  by_cases c : x < y
  · rw [if_pos c]
    by_cases z : d < e + 1
    · rw [if_pos z, if_pos]
      have : P * d ≤ P * e := Nat.mul_le_mul_left _ (by omega)
      omega
    · rw [if_neg z, if_neg]
      have : P * (e + 1) ≤ P * d := Nat.mul_le_mul_left _ (by omega)
      rw [Nat.mul_add] at this
      omega
  · rw [if_neg c]
    by_cases z : d < e + 0
    · rw [if_pos z, if_pos]
      have : P * (d + 1) ≤ P * e := Nat.mul_le_mul_left _ (by omega)
      rw [Nat.mul_add] at this
      omega
    · rw [if_neg z, if_neg]
      have : P * e ≤ P * d := Nat.mul_le_mul_left _ (by omega)
      omega
theorem brw_cry (W D i : Nat) : brw (W + D) W i = cry 1 W 1 D i := by
  have p := Bp_pos i
  have w := Nat.mod_lt W p
  have d := Nat.mod_lt D p
  unfold brw cry
  rw [Nat.add_mod, Nat.one_mul, Nat.one_mul]
  generalize W % Bp i = x at *
  generalize D % Bp i = y at *
  generalize Bp i = P at *
  by_cases c : x + y < P
  · rw [Nat.mod_eq_of_lt c, if_neg (by omega), Nat.div_eq_of_lt c]
  · have e : x + y = (x + y - P) + P * 1 := by omega
    rw [show (x + y) % P = x + y - P from by rw [Nat.mod_eq_sub_mod (by omega), Nat.mod_eq_of_lt (by omega)], if_pos (by omega), e, Nat.add_mul_div_left _ _ p, Nat.div_eq_of_lt (by omega)]
theorem brw_dgt {V W : Nat} (h : W ≤ V) (i : Nat) : dgt (V - W) i = if dgt V i < dgt W i + brw V W i then dgt V i + 1073741824 - dgt W i - brw V W i else dgt V i - dgt W i - brw V W i := by
  obtain ⟨D, rfl⟩ : ∃ D, V = W + D := ⟨V - W, by omega⟩
  rw [brw_cry, Nat.add_sub_cancel_left]
  have k := cry_dgt 1 W 1 D i
  rw [Nat.one_mul, Nat.one_mul, Nat.one_mul, Nat.one_mul] at k
  have c1 : cry 1 W 1 D i ≤ 1 := by rw [← brw_cry]; exact brw_le _ _ _
  have d1 := dgt_lt W i
  have d2 := dgt_lt D i
  have d3 := dgt_lt (W + D) i
  split <;> omega
/-- comparing from the top -/
theorem cmp_top {V W n i : Nat} (hV : V < Bp n) (hW : W < Bp n) (hi : i < n) (he : ∀ j, i < j → j < n → dgt V j = dgt W j) (hl : dgt V i < dgt W i) : V < W := by
  have k : ∀ d, i + 1 + d ≤ n → V % Bp (i + 1 + d) < W % Bp (i + 1 + d) := fun d hd => by
    induction d with
    | zero =>
      have p := Bp_pos i
      have v := Nat.mod_lt V p
      have : Bp i * (dgt V i + 1) ≤ Bp i * dgt W i := Nat.mul_le_mul_left _ hl
      rw [Nat.add_zero, mod_s, mod_s]
      rw [Nat.mul_add] at this
      omega
    | succ d ih =>
      have := ih (by omega)
      rw [← Nat.add_assoc, mod_s, mod_s W, he (i + 1 + d) (by omega) (by omega)]
      omega
  have := k (n - (i + 1)) (by omega)
  rw [show i + 1 + (n - (i + 1)) = n by omega, Nat.mod_eq_of_lt hV, Nat.mod_eq_of_lt hW] at this
  exact this
theorem Bp_pow (i : Nat) : Bp i = 2 ^ (30 * i) := by
  unfold Bp
  rw [Nat.pow_mul]
abbrev jl (n : Nat) : Int64 := Int64.ofNat n
theorem jl_add (a b : Nat) : jl a + jl b = jl (a + b) := (Int64.ofNat_add a b).symm
theorem jl_mul (a b : Nat) : jl a * jl b = jl (a * b) := (Int64.ofNat_mul a b).symm
theorem jl_sub {a b : Nat} (h : b ≤ a) : jl a - jl b = jl (a - b) := (Int64.ofNat_sub a b h).symm
theorem jl_div {a b : Nat} (ha : a < 9223372036854775808) (hb : b < 9223372036854775808) : jl a / jl b = jl (a / b) := (Int64.ofNat_div ha hb).symm
theorem jl_rem {a b : Nat} (ha : a < 9223372036854775808) (hb : b < 9223372036854775808) : jl a - jl a / jl b * jl b = jl (a % b) := by
  rw [jl_div ha hb, jl_mul, jl_sub (Nat.div_mul_le_self a b)]
  congr 1
  have := Nat.div_add_mod a b
  rw [Nat.mul_comm] at this
  omega
theorem jl_i {a : Nat} (h : a < 2147483648) : (jn a).toInt64 = jl a := by
  apply Int64.toInt.inj
  rw [Int32.toInt_toInt64, Int32.toInt_ofNat_of_lt h, Int64.toInt_ofNat_of_lt (by omega)]
theorem jl_to (a : Nat) : (jl a).toInt32 = jn a := Int64.toInt32_ofNat ..
theorem jl_and (a b : Nat) : jl a &&& jl b = jl (a &&& b) := Int64.toBitVec.inj (by
  show BitVec.ofNat 64 a &&& BitVec.ofNat 64 b = BitVec.ofNat 64 (a &&& b)
  exact BitVec.ofNat_and.symm)
theorem jl_shr {a : Nat} (ha : a < 9223372036854775808) : jl a >>> ((30 : Int32).toInt64 &&& 63) = jl (a / 1073741824) := by
  apply Int64.toBitVec.inj
  show (BitVec.ofNat 64 a).sshiftRight ((((30 : Int32).toInt64 &&& 63).toBitVec.smod 64).toNat) = BitVec.ofNat 64 (a / 1073741824)
  rw [show (((30 : Int32).toInt64 &&& 63).toBitVec.smod 64).toNat = 30 by decide]
  have m : (BitVec.ofNat 64 a).msb = false := by
    rw [BitVec.msb_eq_false_iff_two_mul_lt, BitVec.toNat_ofNat, Nat.mod_eq_of_lt (by omega)]
    omega
  rw [BitVec.sshiftRight_eq_of_msb_false m]
  apply BitVec.eq_of_toNat_eq
  rw [BitVec.toNat_ushiftRight, BitVec.toNat_ofNat, BitVec.toNat_ofNat, Nat.shiftRight_eq_div_pow, Nat.mod_eq_of_lt (a := a) (by omega), Nat.mod_eq_of_lt (by omega)]
theorem jl_shl {a : Nat} : jl a <<< ((30 : Int32).toInt64 &&& 63) = jl (a * 1073741824) := by
  apply Int64.toBitVec.inj
  show (BitVec.ofNat 64 a) <<< ((((30 : Int32).toInt64 &&& 63).toBitVec.smod 64)) = BitVec.ofNat 64 (a * 1073741824)
  rw [show (((30 : Int32).toInt64 &&& 63).toBitVec.smod 64) = BitVec.ofNat 64 30 by decide]
  apply BitVec.eq_of_toNat_eq
  rw [BitVec.shiftLeft_eq', BitVec.toNat_shiftLeft, BitVec.toNat_ofNat, BitVec.toNat_ofNat, BitVec.toNat_ofNat, show 30 % 2 ^ 64 = 30 from rfl, Nat.shiftLeft_eq, Nat.mul_mod, Nat.mod_mod, ← Nat.mul_mod]
theorem neg_nn {k : Nat} (h0 : 0 < k) (h : k < 2147483648) : ¬ (0 : Int32) ≤ -(jn k) := by
  rw [Int32.le_iff_toInt_le, Int32.toInt_neg, Int32.toInt_ofNat_of_lt h, Int.bmod_eq_of_le (by omega) (by omega)]
  show ¬ (0 : Int) ≤ _
  omega
theorem sub3 {v w b : Nat} (h : w + b ≤ v) : jn v - jn w - jn b = jn (v - w - b) := by
  rw [jn_sub (by omega), jn_sub (by omega)]
theorem sub_neg3 {v w b : Nat} (h : v < w + b) : jn v - jn w - jn b = -(jn (w + b - v)) := by
  have e : jn (w + b) = jn (w + b - v) + jn v := by rw [jn_add]; congr 1; omega
  rw [← jn_add] at e
  have : jn v - jn w - jn b = jn v - (jn w + jn b) := by
    simp only [Int32.sub_eq_add_neg, Int32.neg_add, Int32.add_assoc]
  rw [this, e, Int32.sub_eq_add_neg, Int32.neg_add, Int32.sub_eq_add_neg, Int32.add_comm (-(jn (w + b - v))), ← Int32.add_assoc, Int32.add_right_neg, Int32.zero_add]
theorem sub_add3 {v w b B : Nat} (h : w + b ≤ v + B) : jn v - jn w - jn b + jn B = jn (v + B - w - b) := by
  rw [← sub3 (show w + b ≤ v + B from h), ← jn_add]
  simp only [Int32.sub_eq_add_neg, Int32.add_assoc]
  congr 1
  rw [← Int32.add_assoc, Int32.add_comm]
/-- a number by its limbs in a row -/
def Bg (f : Nat → Int32) (a n V : Nat) : Prop := V < Bp n ∧ ∀ i, i < n → f (a + i) = jn (dgt V i)
def On (k a n : Nat) (t t' : St) : Prop := fx [k] [] t t' ∧ ∀ j, (j < a ∨ a + n ≤ j) → gA t' k j = gA t k j
/-- limbs written upward -/
def Wr (k a R i : Nat) (t s : St) : Prop := fx [k] [] t s ∧ (∀ j, j < i → gA s k (a + j) = jn (dgt R j)) ∧ ∀ j, (j < a ∨ a + i ≤ j) → gA s k j = gA t k j
theorem Wr.nil {k a R : Nat} {t : St} : Wr k a R 0 t t := ⟨fx.rfl, fun j hj => absurd hj (Nat.not_lt_zero j), fun _ _ => rfl⟩
theorem Wr.put {k a R i : Nat} {t s : St} {v : Int32} (h : Wr k a R i t s) (hi : a + i < 2147483648) (hv : v = jn (dgt R i)) : Wr k a R (i + 1) t (sA s k (jn (a + i)) v) := by
  obtain ⟨h1, h2, h3⟩ := h
  refine ⟨h1.trans (fx_sA (by simp)), fun j hj => ?_, fun j hj => ?_⟩
  · rw [gA_sA, jn_cl hi]
    by_cases c : j = i
    · subst c; rw [upd_at, hv]
    · rw [upd_ne (by omega)]; exact h2 j (by omega)
  · rw [gA_sA, jn_cl hi, upd_ne (by omega)]
    exact h3 j (by omega)
theorem Wr.fin {k a R n : Nat} {t s : St} (h : Wr k a R n t s) (hR : R < Bp n) : On k a n t s ∧ Bg (gA s k) a n R := ⟨⟨h.1, h.2.2⟩, hR, h.2.1⟩
/-- limbs written downward -/
def Wd (k a n R i : Nat) (t s : St) : Prop := fx [k] [] t s ∧ (∀ j, i ≤ j → j < n → gA s k (a + j) = jn (dgt R j)) ∧ ∀ j, (j < a + i ∨ a + n ≤ j) → gA s k j = gA t k j
theorem Wd.nil {k a n R : Nat} {t : St} : Wd k a n R n t t := ⟨fx.rfl, fun j h1 h2 => by omega, fun _ _ => rfl⟩
theorem Wd.put {k a n R i : Nat} {t s : St} {v : Int32} (h : Wd k a n R (i + 1) t s) (hin : i < n) (hi : a + i < 2147483648) (hv : v = jn (dgt R i)) : Wd k a n R i t (sA s k (jn (a + i)) v) := by
  obtain ⟨h1, h2, h3⟩ := h
  refine ⟨h1.trans (fx_sA (by simp)), fun j hj hj2 => ?_, fun j hj => ?_⟩
  · rw [gA_sA, jn_cl hi]
    by_cases c : j = i
    · subst c; rw [upd_at, hv]
    · rw [upd_ne (by omega)]; exact h2 j (by omega) hj2
  · rw [gA_sA, jn_cl hi, upd_ne (by omega)]
    exact h3 j (by omega)
theorem Wd.fin {k a n R : Nat} {t s : St} (h : Wd k a n R 0 t s) (hR : R < Bp n) : On k a n t s ∧ Bg (gA s k) a n R := ⟨⟨h.1, fun j hj => h.2.2 j (by omega)⟩, hR, fun i hi => h.2.1 i (Nat.zero_le _) hi⟩
theorem Bg.on {k a n b m V : Nat} {t t' : St} (h : Bg (gA t k) b m V) (hx : On k a n t t') (hd : b + m ≤ a ∨ a + n ≤ b) : Bg (gA t' k) b m V := ⟨h.1, fun i hi => by rw [hx.2 _ (by omega)]; exact h.2 i hi⟩
theorem Bg.cong {f g : Nat → Int32} {a n V : Nat} (h : Bg f a n V) (e : ∀ j, j < n → g (a + j) = f (a + j)) : Bg g a n V := ⟨h.1, fun i hi => by rw [e i hi]; exact h.2 i hi⟩
