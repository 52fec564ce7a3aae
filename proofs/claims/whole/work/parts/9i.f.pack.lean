/-! Six by six noughts and ones: many at once. -/
def PK : Nat → ((Nat → Int) → Int) → (Nat → Int) → Int
  | 0, f, x => f x
  | n + 1, f, x => PK n f (fun k => if k = n then 0 else x k) + (2 : Int) ^ (12 * 2 ^ n) * PK n f (fun k => if k = n then 1 else x k)
theorem PK_s (n : Nat) (f : (Nat → Int) → Int) (x : Nat → Int) : PK (n + 1) f x = PK n f (fun k => if k = n then 0 else x k) + (2 : Int) ^ (12 * 2 ^ n) * PK n f (fun k => if k = n then 1 else x k) := rfl
theorem PK_add (f g : (Nat → Int) → Int) : ∀ n x, PK n (fun y => f y + g y) x = PK n f x + PK n g x := by
  intro n
  induction n with
  | zero => intro x; rfl
  | succ n ih =>
    intro x
    rw [PK_s, PK_s, PK_s, ih, ih, Int.mul_add]
    omega
theorem PK_mul (c : Int) (f : (Nat → Int) → Int) : ∀ n x, PK n (fun y => c * f y) x = c * PK n f x := by
  intro n
  induction n with
  | zero => intro x; rfl
  | succ n ih =>
    intro x
    rw [PK_s, PK_s, ih, ih, Int.mul_add, Int.mul_left_comm]
theorem PK_zS (c : Nat → Int) (f : Nat → (Nat → Int) → Int) (n : Nat) (x : Nat → Int) : ∀ m, PK n (fun y => zS (fun j => c j * f j y) m) x = zS (fun j => c j * PK n (f j) x) m := by
  intro m
  induction m with
  | zero =>
    have := PK_mul 0 (fun _ => 0) n x
    simp only [Int.zero_mul] at this
    exact this
  | succ m ih =>
    rw [zS_s, ← ih, ← PK_mul, ← PK_add]
    rfl
def ones : Nat → Nat
  | 0 => 1
  | n + 1 => ones n + ones n <<< (12 * 2 ^ n)
theorem ones_s (n : Nat) : ones (n + 1) = ones n + ones n * 2 ^ (12 * 2 ^ n) := by
  show ones n + ones n <<< (12 * 2 ^ n) = _
  rw [Nat.shiftLeft_eq]
theorem cast_pow2 (k : Nat) : ((2 ^ k : Nat) : Int) = (2 : Int) ^ k := by
  rw [Int.natCast_pow]
  rfl
theorem PK_const (c : Int) : ∀ n x, PK n (fun _ => c) x = c * (ones n : Int) := by
  intro n
  induction n with
  | zero => intro x; exact (Int.mul_one c).symm
  | succ n ih =>
    intro x
    rw [PK_s, ih, ih, ones_s, Int.natCast_add, Int.natCast_mul, cast_pow2, Int.mul_add]
    congr 1
    ac_rfl
def mon (a b c : Nat) : Nat → Nat
  | 0 => 1
  | n + 1 => bif (Nat.beq n a || Nat.beq n b || Nat.beq n c) then mon a b c n <<< (12 * 2 ^ n) else mon a b c n + mon a b c n <<< (12 * 2 ^ n)
theorem mon_in {a b c n : Nat} (h : n = a ∨ n = b ∨ n = c) : mon a b c (n + 1) = mon a b c n * 2 ^ (12 * 2 ^ n) := by
  show (bif (Nat.beq n a || Nat.beq n b || Nat.beq n c) then _ else _) = _
  rw [show (Nat.beq n a || Nat.beq n b || Nat.beq n c) = true from by
    rcases h with h | h | h
    · rw [h, Nat.beq_refl]; rfl
    · rw [h, Nat.beq_refl, Bool.or_true]; rfl
    · rw [h, Nat.beq_refl, Bool.or_true]]
  exact Nat.shiftLeft_eq _ _
theorem beq_no {a b : Nat} (h : a ≠ b) : Nat.beq a b = false := by
  cases e : Nat.beq a b with
  | false => rfl
  | true => exact absurd (Nat.eq_of_beq_eq_true e) h
theorem mon_out {a b c n : Nat} (h1 : n ≠ a) (h2 : n ≠ b) (h3 : n ≠ c) : mon a b c (n + 1) = mon a b c n + mon a b c n * 2 ^ (12 * 2 ^ n) := by
  show (bif (Nat.beq n a || Nat.beq n b || Nat.beq n c) then _ else _) = _
  rw [beq_no h1, beq_no h2, beq_no h3]
  show _ + _ <<< _ = _
  rw [Nat.shiftLeft_eq]
def vlu (n : Nat) (x : Nat → Int) (v : Nat) : Int := if v < n then 1 else x v
theorem vlu_at {n : Nat} {x : Nat → Int} {y : Int} : vlu n (fun k => if k = n then y else x k) n = y := by
  unfold vlu
  rw [if_neg (Nat.lt_irrefl n)]
  exact if_pos rfl
theorem vlu_ne {n v : Nat} {x : Nat → Int} {y : Int} (h : v ≠ n) : vlu n (fun k => if k = n then y else x k) v = vlu (n + 1) x v := by
  unfold vlu
  by_cases c : v < n
  · rw [if_pos c, if_pos (by omega)]
  · rw [if_neg c, if_neg (by omega)]
    exact if_neg h
theorem vlu_up {n : Nat} {x : Nat → Int} : vlu (n + 1) x n = 1 := if_pos (Nat.lt_succ_self n)
theorem PK_mon {a b c : Nat} (hab : a ≠ b) (hac : a ≠ c) (hbc : b ≠ c) : ∀ n x, PK n (fun y => y a * (y b * y c)) x = (mon a b c n : Int) * (vlu n x a * (vlu n x b * vlu n x c)) := by
  intro n
  induction n with
  | zero => intro x; exact (Int.one_mul _).symm
  | succ n ih =>
    intro x
    rw [PK_s, ih, ih]
    by_cases ca : n = a
    · subst ca
      rw [vlu_at, vlu_at, vlu_ne (fun e => hab e.symm), vlu_ne (fun e => hac e.symm), vlu_ne (fun e => hab e.symm), vlu_ne (fun e => hac e.symm), vlu_up, mon_in (Or.inl rfl), Int.natCast_mul, cast_pow2, Int.zero_mul, Int.mul_zero, Int.zero_add]
      ac_rfl
    · by_cases cb : n = b
      · subst cb
        rw [vlu_at, vlu_at, vlu_ne (fun e => ca e.symm), vlu_ne (fun e => hbc e.symm), vlu_ne (fun e => ca e.symm), vlu_ne (fun e => hbc e.symm), vlu_up, mon_in (Or.inr (Or.inl rfl)), Int.natCast_mul, cast_pow2, Int.zero_mul, Int.mul_zero, Int.mul_zero, Int.zero_add]
        ac_rfl
      · by_cases cc : n = c
        · subst cc
          rw [vlu_at, vlu_at, vlu_ne (fun e => ca e.symm), vlu_ne (fun e => cb e.symm), vlu_ne (fun e => ca e.symm), vlu_ne (fun e => cb e.symm), vlu_up, mon_in (Or.inr (Or.inr rfl)), Int.natCast_mul, cast_pow2, Int.mul_zero, Int.mul_zero, Int.mul_zero, Int.zero_add]
          ac_rfl
        · rw [vlu_ne (fun e => ca e.symm), vlu_ne (fun e => cb e.symm), vlu_ne (fun e => cc e.symm), vlu_ne (fun e => ca e.symm), vlu_ne (fun e => cb e.symm), vlu_ne (fun e => cc e.symm), mon_out ca cb cc, Int.natCast_add, Int.natCast_mul, cast_pow2, Int.add_mul]
          congr 1
          ac_rfl
/-- the numbers can be told from the packed one -/
theorem pow_twice (n : Nat) : (2 : Int) ^ (12 * 2 ^ (n + 1)) = 2 ^ (12 * 2 ^ n) * 2 ^ (12 * 2 ^ n) := by
  rw [← Int.pow_add]
  congr 1
  rw [Nat.pow_succ]
  omega
theorem PK_in {f : (Nat → Int) → Int} (hf : ∀ y, 0 ≤ f y ∧ f y < 4096) : ∀ n x, 0 ≤ PK n f x ∧ PK n f x < 2 ^ (12 * 2 ^ n) := by
  intro n
  induction n with
  | zero => intro x; exact hf x
  | succ n ih =>
    intro x
    obtain ⟨a1, a2⟩ := ih (fun k => if k = n then 0 else x k)
    obtain ⟨b1, b2⟩ := ih (fun k => if k = n then 1 else x k)
    rw [PK_s, pow_twice]
    generalize (2 : Int) ^ (12 * 2 ^ n) = P at *
    generalize PK n f (fun k => if k = n then 0 else x k) = a at *
    generalize PK n f (fun k => if k = n then 1 else x k) = b at *
    have h0 : 0 ≤ P * b := Int.mul_nonneg (by omega) b1
    have h1 : P * (b + 1) ≤ P * P := Int.mul_le_mul_of_nonneg_left (by omega) (by omega)
    rw [Int.mul_add, Int.mul_one] at h1
    omega
def MK (n : Nat) : Nat := 3072 * ones n
theorem MK_s (n : Nat) : MK (n + 1) = 2 ^ (12 * 2 ^ n) * MK n + MK n := by
  unfold MK
  rw [ones_s, Nat.mul_add, Nat.add_comm]
  congr 1
  ac_rfl
theorem pow_twiceN (n : Nat) : (2 : Nat) ^ (12 * 2 ^ (n + 1)) = 2 ^ (12 * 2 ^ n) * 2 ^ (12 * 2 ^ n) := by
  rw [← Nat.pow_add]
  congr 1
  rw [Nat.pow_succ]
  omega
theorem MK_lt : ∀ n, MK n < 2 ^ (12 * 2 ^ n) := by
  intro n
  induction n with
  | zero => decide
  | succ n ih =>
    rw [MK_s, pow_twiceN]
    generalize (2 : Nat) ^ (12 * 2 ^ n) = P at *
    have h1 : P * (MK n + 1) ≤ P * P := Nat.mul_le_mul_left _ ih
    rw [Nat.mul_add, Nat.mul_one] at h1
    omega
theorem and_split {K a b c d : Nat} (hb : b < 2 ^ K) (hd : d < 2 ^ K) (h : (2 ^ K * a + b) &&& (2 ^ K * c + d) = 0) : a &&& c = 0 ∧ b &&& d = 0 := by
  have t : ∀ i, ((2 ^ K * a + b).testBit i && (2 ^ K * c + d).testBit i) = false := fun i => by
    rw [← Nat.testBit_and, h, Nat.zero_testBit]
  constructor
  · refine Nat.eq_of_testBit_eq fun i => ?_
    have := t (K + i)
    rw [Nat.testBit_two_pow_mul_add _ hb, Nat.testBit_two_pow_mul_add _ hd, if_neg (by omega), if_neg (by omega), show K + i - K = i by omega] at this
    rw [Nat.testBit_and, this, Nat.zero_testBit]
  · refine Nat.eq_of_testBit_eq fun i => ?_
    by_cases c' : i < K
    · have := t i
      rw [Nat.testBit_two_pow_mul_add _ hb, Nat.testBit_two_pow_mul_add _ hd, if_pos c', if_pos c'] at this
      rw [Nat.testBit_and, this, Nat.zero_testBit]
    · have : b.testBit i = false := Nat.testBit_lt_two_pow (Nat.lt_of_lt_of_le hb (Nat.pow_le_pow_right (by omega) (by omega)))
      rw [Nat.testBit_and, this, Bool.false_and, Nat.zero_testBit]
theorem small_1024 {z : Nat} (h : z < 4096) (g : z &&& 3072 = 0) : z < 1024 := by
  have t : ∀ i, (z.testBit i && (3072 : Nat).testBit i) = false := fun i => by
    rw [← Nat.testBit_and, g, Nat.zero_testBit]
  have t10 := t 10
  have t11 := t 11
  rw [show (3072 : Nat).testBit 10 = true from by decide, Bool.and_true] at t10
  rw [show (3072 : Nat).testBit 11 = true from by decide, Bool.and_true] at t11
  rw [Nat.testBit_eq_decide_div_mod_eq] at t10 t11
  have a := of_decide_eq_false t10
  have b := of_decide_eq_false t11
  rw [show 2 ^ 10 = 1024 from rfl] at a
  rw [show 2 ^ 11 = 2048 from rfl] at b
  omega
theorem chk_all {f : (Nat → Int) → Int} (hf : ∀ y, 0 ≤ f y ∧ f y < 4096) : ∀ n x y (Z : Nat), (Z : Int) = PK n f x → Z &&& MK n = 0 → (∀ k, n ≤ k → y k = x k) → (∀ k, k < n → y k = 0 ∨ y k = 1) → f y < 1024 := by
  intro n
  induction n with
  | zero =>
    intro x y Z hZ hM hy _
    have : y = x := funext fun k => hy k (Nat.zero_le _)
    subst this
    have e : (Z : Int) = f y := hZ
    have := hf y
    have := small_1024 (z := Z) (by omega) hM
    omega
  | succ n ih =>
    intro x y Z hZ hM hy hb
    obtain ⟨a1, a2⟩ := PK_in hf n (fun k => if k = n then 0 else x k)
    obtain ⟨b1, b2⟩ := PK_in hf n (fun k => if k = n then 1 else x k)
    obtain ⟨A, hA⟩ := Int.eq_ofNat_of_zero_le a1
    obtain ⟨B, hB⟩ := Int.eq_ofNat_of_zero_le b1
    rw [PK_s, hA, hB, ← cast_pow2, ← Int.natCast_mul, ← Int.natCast_add] at hZ
    have eZ : Z = 2 ^ (12 * 2 ^ n) * B + A := by
      have := Int.ofNat.inj hZ
      rw [Nat.add_comm]
      exact this
    have lA : A < 2 ^ (12 * 2 ^ n) := by
      rw [hA, ← cast_pow2] at a2
      exact Int.ofNat_lt.mp a2
    rw [eZ, MK_s] at hM
    obtain ⟨m1, m2⟩ := and_split lA (MK_lt n) hM
    rcases hb n (Nat.lt_succ_self n) with z | z
    · refine ih _ y A hA.symm m2 (fun k hk => ?_) (fun k hk => hb k (by omega))
      (try dsimp only)
      by_cases c : k = n
      · rw [if_pos c, c, z]
      · rw [if_neg c]; exact hy k (by omega)
    · refine ih _ y B hB.symm m1 (fun k hk => ?_) (fun k hk => hb k (by omega))
      (try dsimp only)
      by_cases c : k = n
      · rw [if_pos c, c, z]
      · rw [if_neg c]; exact hy k (by omega)
