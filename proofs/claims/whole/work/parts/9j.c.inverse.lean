/-! Exact division by an odd number's inverse; how often two divides. -/
theorem odd_sq {o : Int} (h : o % 2 = 1) : ∃ k, 1 - o * o = 8 * k := by
  have e : o = 8 * (o / 8) + o % 8 := by omega
  generalize o / 8 = q at e
  have r : o % 8 = 1 ∨ o % 8 = 3 ∨ o % 8 = 5 ∨ o % 8 = 7 := by omega
  generalize o % 8 = s at e r
  have sq : o * o = 64 * (q * q) + 16 * (q * s) + s * s := by
    rw [e, Int.add_mul, Int.mul_add, Int.mul_add]
    have e1 : 8 * q * (8 * q) = 64 * (q * q) := by
      rw [show (64 : Int) = 8 * 8 from by decide]
      ac_rfl
    have e2 : 8 * q * s = 8 * (q * s) := Int.mul_assoc _ _ _
    have e3 : s * (8 * q) = 8 * (q * s) := by ac_rfl
    rw [e1, e2, e3]
    omega
  rcases r with r | r | r | r
  · subst r; exact ⟨-(8 * (q * q)) - 2 * q, by rw [sq]; omega⟩
  · subst r; exact ⟨-(8 * (q * q)) - 6 * q - 1, by rw [sq]; omega⟩
  · subst r; exact ⟨-(8 * (q * q)) - 10 * q - 3, by rw [sq]; omega⟩
  · subst r; exact ⟨-(8 * (q * q)) - 14 * q - 6, by rw [sq]; omega⟩
theorem inv_step (o x : Int) : 1 - o * (x * (2 - o * x)) = (1 - o * x) * (1 - o * x) := by
  rw [Int.sub_mul, Int.one_mul, Int.mul_sub x, Int.mul_sub o, Int.mul_sub (o * x), Int.mul_one]
  have e1 : o * (x * 2) = 2 * (o * x) := by ac_rfl
  have e2 : o * (x * (o * x)) = o * x * (o * x) := by ac_rfl
  rw [e1, e2]
  omega
theorem inv_eq (t : St) {o : Int} (h : o % 2 = 1) : ∃ X, x3_inverseOf t (zl o) = some (zl X) ∧ (o * X) % 18446744073709551616 = 1 := by
  have L := lp_cnt (b := fun x : Int64 × Int32 => x3_inverseOf_B5 t (zl o) x.1 x.2) (S := Int) (fun i X => (zl X, jn i)) 5
    (fun i X => ∃ k, 1 - o * X = 2 ^ (3 * 2 ^ i) * k) (fun y => ∃ X, y = zl X ∧ ∃ k, 1 - o * X = 2 ^ (3 * 2 ^ 5) * k) (by
      rintro i X hi ⟨k, hk⟩
      refine ⟨X * (2 - o * X), ?_, k * k, ?_⟩
      · (try dsimp only)
        unfold x3_inverseOf_B5
        rw [if_neg (show ¬ (5 : Int32) ≤ jn i from nle (b := 5) hi (by omega)), show (2 : Int64) = zl 2 from rfl, zl_mul, zl_sub, zl_mul]
        simp only [nm, jn_s]
      · rw [inv_step, hk]
        have e : (2 : Int) ^ (3 * 2 ^ (i + 1)) = 2 ^ (3 * 2 ^ i) * 2 ^ (3 * 2 ^ i) := by
          rw [← Int.pow_add]
          congr 1
          rw [Nat.pow_succ]
          omega
        rw [e]
        ac_rfl) (by
      rintro X hX
      exact ⟨zl X, by (try dsimp only); unfold x3_inverseOf_B5; rw [if_pos (show (5 : Int32) ≤ jn 5 by decide)], X, rfl, hX⟩) 0 o (Nat.zero_le _) (odd_sq h)
  obtain ⟨y, k1, X, rfl, k, k2⟩ := L
  refine ⟨X, ?_, ?_⟩
  · unfold x3_inverseOf
    rw [show lp (fun x : Int64 × Int32 => x3_inverseOf_B5 t (zl o) x.1 x.2) (zl o, (0 : Int32)) = some (zl X) from k1, bs]
  · have e : (2 : Int) ^ (3 * 2 ^ 5) * k = 18446744073709551616 * (4294967296 * k) := by
      rw [show (2 : Int) ^ (3 * 2 ^ 5) = 18446744073709551616 * 4294967296 from by decide, Int.mul_assoc]
    rw [e] at k2
    generalize 4294967296 * k = m at k2
    omega
/-- a number is a power of two by an odd one -/
theorem two_part : ∀ n : Nat, 0 < n → ∃ z m, n = 2 ^ z * (2 * m + 1) := by
  intro n
  induction n using Nat.strongRecOn with
  | _ n ih =>
    intro h
    by_cases c : n % 2 = 1
    · exact ⟨0, n / 2, by rw [Nat.pow_zero]; omega⟩
    · obtain ⟨z, m, e⟩ := ih (n / 2) (by omega) (by omega)
      refine ⟨z + 1, m, ?_⟩
      rw [Nat.pow_succ, Nat.mul_comm (2 ^ z) 2, Nat.mul_assoc, ← e]
      omega
theorem low_two {z m : Nat} (hz : z < 64) (h : 2 ^ z * (2 * m + 1) < 2 ^ 64) : (2 ^ z * (2 * m + 1)) &&& (2 ^ 64 - 2 ^ z * (2 * m + 1)) = 2 ^ z := by
  have p := Nat.two_pow_pos z
  have e1 : 2 ^ z * (2 * m + 1) = 2 ^ z * (2 * m + 1) + 0 := rfl
  have e2 : 2 ^ z * (2 * m + 1) = (2 ^ z * (2 * m) + (2 ^ z - 1)) + 1 := by
    rw [Nat.mul_add, Nat.mul_one]
    omega
  refine Nat.eq_of_testBit_eq fun i => ?_
  have b2 : (2 ^ 64 - 2 ^ z * (2 * m + 1)).testBit i = (decide (i < 64) && !(2 ^ z * (2 * m) + (2 ^ z - 1)).testBit i) := by
    rw [e2]
    exact Nat.testBit_two_pow_sub_succ (by omega) i
  have b1 : (2 ^ z * (2 * m + 1)).testBit i = if i < z then (0 : Nat).testBit i else (2 * m + 1).testBit (i - z) := by
    have := Nat.testBit_two_pow_mul_add (2 * m + 1) (b := 0) (i := z) p i
    exact this
  rw [Nat.testBit_and, b2, b1, Nat.testBit_two_pow_mul_add _ (by omega), Nat.testBit_two_pow]
  by_cases c : i < z
  · rw [if_pos c, Nat.zero_testBit, Bool.false_and, decide_eq_false (by omega)]
  · rw [if_neg c, if_neg c]
    by_cases d : i = z
    · subst d
      rw [Nat.sub_self, Nat.testBit_zero, Nat.testBit_zero, decide_eq_true hz, decide_eq_true (by omega), decide_eq_false (by omega), decide_eq_true rfl]
      rfl
    · rw [decide_eq_false (show ¬ z = i by omega), show i - z = (i - z - 1) + 1 by omega, Nat.testBit_succ, Nat.testBit_succ, show (2 * m + 1) / 2 = m by omega, show 2 * m / 2 = m by omega]
      cases m.testBit (i - z - 1) <;> simp
theorem cnt_lt (z : Nat) : ∀ n, z ≤ n → cntB (fun i => decide (i < z)) n = z := by
  intro n
  induction n with
  | zero => intro h; have : z = 0 := by omega
            subst this; rfl
  | succ n ih =>
    intro h
    rw [cnt_s]
    by_cases c : z = n + 1
    · subst c
      rw [cntB_all fun i hi => decide_eq_true (by omega), if_pos (decide_eq_true (by omega))]
    · rw [ih (by omega), if_neg (by rw [decide_eq_true_eq]; omega), Nat.add_zero]
theorem zeros_eq (t : St) {d : Nat} (h0 : 0 < d) (h : d < 9223372036854775808) : ∃ z m, d = 2 ^ z * (2 * m + 1) ∧ z < 63 ∧ j13_bitCount_95d88 t ((zl (d : Int) &&& -(zl (d : Int))) - (1 : Int64)) = some (jn z) := by
  obtain ⟨z, m, e⟩ := two_part d h0
  have p := Nat.two_pow_pos z
  have zl63 : z < 63 := by
    have a : 2 ^ z ≤ 2 ^ z * (2 * m + 1) := Nat.le_mul_of_pos_right _ (by omega)
    have b : 2 ^ z < 2 ^ 63 := by
      have : (2 : Nat) ^ 63 = 9223372036854775808 := by decide
      omega
    exact (Nat.pow_lt_pow_iff_right (a := 2) (by omega)).mp b
  refine ⟨z, m, e, zl63, ?_⟩
  have p64 : (2 : Nat) ^ 64 = 18446744073709551616 := by decide
  have lt := low_two (z := z) (m := m) (by omega) (by rw [← e, p64]; omega)
  rw [← e, p64] at lt
  rw [zl_jl, jl_neg (by omega), jl_and, lt, show (1 : Int64) = jl 1 from rfl, jl_sub p, bc64_eq]
  congr 2
  unfold wcn
  have z64 : 2 ^ z < 2 ^ 64 := Nat.pow_lt_pow_right (by omega) (by omega)
  rw [cntB_cong (g := fun i => decide (i < z)) fun i _ => ?_, cnt_lt z 64 (by omega)]
  rw [wb_nat]
  show (BitVec.ofNat 64 (2 ^ z - 1)).toNat.testBit i = _
  rw [BitVec.toNat_ofNat, Nat.mod_eq_of_lt (by omega), Nat.testBit_two_pow_sub_one]
/-- the quotient as the class works it -/
theorem quot_eq {d : Nat} {z m : Nat} (e : d = 2 ^ z * (2 * m + 1)) {N Q X : Int} (hN : N = (d : Int) * Q) (hX : (((2 * m + 1 : Nat) : Int) * X) % 18446744073709551616 = 1) : zl (N / 2 ^ z) * zl X = zl Q := by
  have p : (2 : Int) ^ z ≠ 0 := Int.ne_of_gt (Int.pow_pos (by decide))
  have e1 : N / 2 ^ z = ((2 * m + 1 : Nat) : Int) * Q := by
    rw [hN, e, Int.natCast_mul, cast_pow2, Int.mul_assoc, Int.mul_ediv_cancel_left _ p]
  rw [e1, zl_mul]
  apply zl_eq
  rw [show ((2 * m + 1 : Nat) : Int) * Q * X = Q * (((2 * m + 1 : Nat) : Int) * X) from by ac_rfl, Int.mul_emod, hX, Int.mul_one, Int.emod_emod]
