/-! Words of 64 bits as whole numbers. -/
abbrev zl (z : Int) : Int64 := Int64.ofInt z
theorem zl_add (a b : Int) : zl a + zl b = zl (a + b) := (Int64.ofInt_add a b).symm
theorem zl_mul (a b : Int) : zl a * zl b = zl (a * b) := (Int64.ofInt_mul a b).symm
theorem zl_sub (a b : Int) : zl a - zl b = zl (a - b) := (Int64.ofInt_sub a b).symm
theorem zl_neg (a : Int) : -(zl a) = zl (-a) := (Int64.ofInt_neg a).symm
theorem zl_jl (n : Nat) : zl (n : Int) = jl n := Int64.ofInt_eq_ofNat
theorem zl_int {z : Int} (h1 : -9223372036854775808 ≤ z) (h2 : z < 9223372036854775808) : (zl z).toInt = z := Int64.toInt_ofInt_of_le h1 h2
theorem nB_zl (z : Int) : (nB (zl z) : Int) = z % 18446744073709551616 := by
  show (((BitVec.ofInt 64 z).toNat : Nat) : Int) = _
  rw [BitVec.toNat_ofInt]
  exact Int.toNat_of_nonneg (Int.emod_nonneg _ (by decide))
theorem nB_inj {x y : Int64} (h : nB x = nB y) : x = y := Int64.toBitVec.inj (BitVec.eq_of_toNat_eq h)
theorem zl_eq {a b : Int} (h : a % 18446744073709551616 = b % 18446744073709551616) : zl a = zl b := nB_inj (by
  have := nB_zl a
  have := nB_zl b
  omega)
theorem zl_of {x : Int64} {z : Int} (h : (nB x : Int) = z % 18446744073709551616) : x = zl z := nB_inj (by
  have := nB_zl z
  omega)
theorem mask32 (A : Int) : zl A &&& (4294967295 : Int64) = zl (A % 4294967296) := zl_of (by
  rw [nB_and, show nB 4294967295 = 2 ^ 32 - 1 from by decide, Nat.and_two_pow_sub_one_eq_mod]
  have := nB_zl A
  omega)
theorem sar_m : ∀ m : Nat, m < 64 → (((jn m).toInt64 &&& 63).toBitVec.smod 64).toNat = m := by decide +kernel
theorem sar_eq {A : Int} {m : Nat} (hm : m < 64) (h1 : -9223372036854775808 ≤ A) (h2 : A < 9223372036854775808) : zl A >>> ((jn m).toInt64 &&& 63) = zl (A / 2 ^ m) := by
  have r : -9223372036854775808 ≤ A / 2 ^ m ∧ A / 2 ^ m < 9223372036854775808 := by
    have p : (0 : Int) < 2 ^ m := Int.pow_pos (by decide)
    constructor
    · rw [Int.le_ediv_iff_mul_le p]
      have : (-9223372036854775808 : Int) * 2 ^ m ≤ -9223372036854775808 * 1 := Int.mul_le_mul_of_nonpos_left (by decide) p
      omega
    · rw [Int.ediv_lt_iff_lt_mul p]
      have : (9223372036854775808 : Int) * 1 ≤ 9223372036854775808 * 2 ^ m := Int.mul_le_mul_of_nonneg_left p (by decide)
      omega
  apply Int64.toBitVec.inj
  show ((zl A).toBitVec).sshiftRight ((((jn m).toInt64 &&& 63).toBitVec.smod 64).toNat) = (zl (A / 2 ^ m)).toBitVec
  rw [sar_m m hm]
  apply BitVec.eq_of_toInt_eq
  rw [BitVec.toInt_sshiftRight]
  have e := zl_int h1 h2
  have e1 := zl_int r.1 r.2
  unfold Int64.toInt at e e1
  rw [e, e1, Int.shiftRight_eq_div_pow]
  rfl
theorem sar32 {A : Int} (h1 : -9223372036854775808 ≤ A) (h2 : A < 9223372036854775808) : zl A >>> ((32 : Int32).toInt64 &&& 63) = zl (A / 4294967296) := sar_eq (m := 32) (by decide) h1 h2
theorem ush_zl {n : Int} {m : Nat} (hm : m < 64) : ush (zl n) m = zl (n % 18446744073709551616 / 2 ^ m) := zl_of (by
  rw [nB_ush hm, Nat.shiftRight_eq_div_pow]
  have a := nB_zl n
  have p : 0 < 2 ^ m := Nat.two_pow_pos m
  have d : nB (zl n) / 2 ^ m ≤ nB (zl n) := Nat.div_le_self _ _
  have l := nB_lt (zl n)
  rw [← a]
  have e : ((nB (zl n) / 2 ^ m : Nat) : Int) = (nB (zl n) : Int) / 2 ^ m := by
    rw [Int.natCast_ediv, cast_pow2]
  rw [← e]
  generalize nB (zl n) / 2 ^ m = v at *
  omega)
theorem prod_parts (ah al bh bl : Int) : (ah * 4294967296 + al) * (bh * 4294967296 + bl) = (ah * bh) * 18446744073709551616 + (ah * bl + al * bh) * 4294967296 + al * bl := by
  rw [Int.add_mul, Int.mul_add, Int.mul_add]
  have e1 : ah * 4294967296 * (bh * 4294967296) = (ah * bh) * 18446744073709551616 := by
    rw [show (18446744073709551616 : Int) = 4294967296 * 4294967296 from by decide]
    ac_rfl
  have e2 : ah * 4294967296 * bl = (ah * bl) * 4294967296 := by ac_rfl
  have e3 : al * (bh * 4294967296) = (al * bh) * 4294967296 := by ac_rfl
  rw [e1, e2, e3]
  omega
theorem mul_bd {a b : Int} (h1 : -2147483648 ≤ a) (h2 : a ≤ 2147483647) (h3 : 0 ≤ b) (h4 : b ≤ 4294967295) : -9223372034707292160 ≤ a * b ∧ a * b ≤ 9223372030412324865 := by
  have k1 : a * b ≤ 2147483647 * b := Int.mul_le_mul_of_nonneg_right h2 h3
  have k2 : -2147483648 * b ≤ a * b := Int.mul_le_mul_of_nonneg_right h1 h3
  omega
theorem hp_eq (t : St) {A B : Int} (a1 : -9223372036854775808 ≤ A) (a2 : A < 9223372036854775808) (b1 : -9223372036854775808 ≤ B) (b2 : B < 9223372036854775808) : x3_highOfProduct t (zl A) (zl B) = some (zl (A * B / 18446744073709551616)) := by
  have hAB := prod_parts (A / 4294967296) (A % 4294967296) (B / 4294967296) (B % 4294967296)
  rw [show A / 4294967296 * 4294967296 + A % 4294967296 = A by omega, show B / 4294967296 * 4294967296 + B % 4294967296 = B by omega] at hAB
  have q1 := mul_bd (a := A / 4294967296) (b := B % 4294967296) (by omega) (by omega) (by omega) (by omega)
  have q2 := mul_bd (a := B / 4294967296) (b := A % 4294967296) (by omega) (by omega) (by omega) (by omega)
  have c2 : B / 4294967296 * (A % 4294967296) = A % 4294967296 * (B / 4294967296) := Int.mul_comm _ _
  rw [c2] at q2
  have l0 : 0 ≤ A % 4294967296 * (B % 4294967296) := Int.mul_nonneg (by omega) (by omega)
  have l1 : A % 4294967296 * (B % 4294967296) ≤ 4294967295 * (B % 4294967296) := Int.mul_le_mul_of_nonneg_right (by omega) (by omega)
  unfold x3_highOfProduct
  simp only [nm]
  rw [mask32, mask32, sar32 a1 a2, sar32 b1 b2]
  generalize A / 4294967296 = ah at *
  generalize A % 4294967296 = al at *
  generalize B / 4294967296 = bh at *
  generalize hbl : B % 4294967296 = bl at *
  have lb : bl ≤ 4294967295 := by omega
  rw [zl_mul al bl, zl_mul ah bl, zl_mul al bh, zl_mul ah bh]
  rw [show ((zl (al * bl)).toUInt64 >>> (((32 : Int32)).toInt64.toUInt64 &&& Int64.toUInt64 63)).toInt64 = ush (zl (al * bl)) 32 from rfl, ush_zl (by decide), show (2 : Int) ^ 32 = 4294967296 from by decide]
  generalize al * bl = L at *
  generalize ah * bl = q at *
  generalize al * bh = r at *
  generalize ah * bh = p at *
  have Le : L % 18446744073709551616 / 4294967296 = L / 4294967296 := by omega
  rw [Le, zl_add, mask32, zl_add, sar32 (by omega) (by omega), sar32 (by omega) (by omega), zl_add, zl_add, hAB]
  congr 2
  omega
theorem lg_nn {x y : Int64} : (0 : Int32) ≤ lg_cmp x y ↔ y.toInt ≤ x.toInt := by
  unfold lg_cmp
  by_cases h : x > y
  · rw [if_pos h]
    have := Int64.lt_iff_toInt_lt.mp h
    exact ⟨fun _ => by omega, fun _ => by decide⟩
  · rw [if_neg h]
    have h' : ¬ y.toInt < x.toInt := fun z => h (Int64.lt_iff_toInt_lt.mpr z)
    by_cases e : x = y
    · rw [if_pos e, e]
      exact ⟨fun _ => Int.le_refl _, fun _ => by decide⟩
    · rw [if_neg e]
      have ne : x.toInt ≠ y.toInt := fun z => e (Int64.toInt.inj z)
      exact ⟨fun z => absurd z (by decide), fun z => by omega⟩
theorem lg_neg {x y : Int64} : lg_cmp x y < 0 ↔ x.toInt < y.toInt := by
  have a := lg_nn (x := x) (y := y)
  constructor
  · intro h
    by_cases c : x.toInt < y.toInt
    · exact c
    · have := a.mpr (by omega)
      rw [Int32.lt_iff_toInt_lt] at h
      rw [Int32.le_iff_toInt_le] at this
      omega
  · intro h
    by_cases c : (0 : Int32) ≤ lg_cmp x y
    · have := a.mp c
      omega
    · rw [Int32.lt_iff_toInt_lt]
      rw [Int32.le_iff_toInt_le] at c
      omega
theorem lg_swap {x y : Int64} : lg_cmp x y ≤ 0 ↔ x.toInt ≤ y.toInt := by
  unfold lg_cmp
  by_cases h : x > y
  · rw [if_pos h]
    have := Int64.lt_iff_toInt_lt.mp h
    exact ⟨fun z => absurd z (by decide), fun z => by omega⟩
  · rw [if_neg h]
    have h' : ¬ y.toInt < x.toInt := fun z => h (Int64.lt_iff_toInt_lt.mpr z)
    by_cases e : x = y
    · rw [if_pos e, e]
      exact ⟨fun _ => Int.le_refl _, fun _ => by decide⟩
    · rw [if_neg e]
      exact ⟨fun _ => by omega, fun _ => by decide⟩
theorem low_cmp (X : Int) : (zl X + (-9223372036854775808 : Int64)).toInt = X % 18446744073709551616 - 9223372036854775808 := by
  rw [show (-9223372036854775808 : Int64) = zl (-9223372036854775808) from rfl, zl_add, zl_eq (a := X + -9223372036854775808) (b := X % 18446744073709551616 - 9223372036854775808) (by omega)]
  exact zl_int (by omega) (by omega)
theorem xor63 {y : Nat} (h : y < 2 ^ 63) : y ^^^ 2 ^ 63 = 2 ^ 63 + y := by
  have e := Nat.two_pow_add_eq_or_of_lt h 1
  rw [Nat.mul_one] at e
  rw [e]
  refine Nat.eq_of_testBit_eq fun i => ?_
  rw [Nat.testBit_xor, Nat.testBit_or, Nat.testBit_two_pow]
  by_cases c : 63 = i
  · subst c
    rw [Nat.testBit_lt_two_pow h]
    rfl
  · rw [decide_eq_false c]
    cases y.testBit i <;> rfl
theorem xor_top (x : Int64) : x ^^^ (-9223372036854775808 : Int64) = x + (-9223372036854775808 : Int64) := by
  refine Int64.toBitVec_inj.mp (BitVec.eq_of_toNat_eq ?_)
  rw [Int64.toBitVec_xor, Int64.toBitVec_add, BitVec.toNat_xor, BitVec.toNat_add, show (-9223372036854775808 : Int64).toBitVec.toNat = 2 ^ 63 from rfl]
  have lt := x.toBitVec.isLt
  generalize x.toBitVec.toNat = n at *
  by_cases h : n < 2 ^ 63
  · rw [xor63 h, Nat.mod_eq_of_lt (by omega), Nat.add_comm]
  · obtain ⟨y, rfl⟩ : ∃ y, n = 2 ^ 63 + y := ⟨n - 2 ^ 63, by omega⟩
    have hy : y < 2 ^ 63 := by omega
    have e : (2 ^ 63 + y) ^^^ 2 ^ 63 = y := by rw [← xor63 hy, Nat.xor_assoc, Nat.xor_self, Nat.xor_zero]
    rw [e]
    omega
theorem hd_eq (t : St) {A B C D : Int} (a1 : -9223372036854775808 ≤ A) (a2 : A < 9223372036854775808) (b1 : -9223372036854775808 ≤ B) (b2 : B < 9223372036854775808) (c1 : -9223372036854775808 ≤ C) (c2 : C < 9223372036854775808) (d1 : -9223372036854775808 ≤ D) (d2 : D < 9223372036854775808) : x3_highOfDifference t (zl A) (zl B) (zl C) (zl D) = some (zl ((A * B - C * D) / 18446744073709551616)) := by
  unfold x3_highOfDifference x3_highOfDifference_J25
  rw [hp_eq t a1 a2 b1 b2, hp_eq t c1 c2 d1 d2, zl_mul A B, zl_mul C D, xor_top, xor_top]
  generalize A * B = X
  generalize C * D = Y
  have k := lg_nn (x := zl X + (-9223372036854775808 : Int64)) (y := zl Y + (-9223372036854775808 : Int64))
  rw [low_cmp, low_cmp] at k
  by_cases c : (0 : Int32) ≤ lg_cmp (zl X + (-9223372036854775808 : Int64)) (zl Y + (-9223372036854775808 : Int64))
  · have := k.mp c
    rw [if_pos c, bs, bs, if_pos (Eq.refl (0 : Int32)), show ((0 : Int32)).toInt64 = zl 0 from rfl, zl_sub, zl_sub]
    clear k c
    refine congrArg some (congrArg zl ?_)
    omega
  · have : ¬ (Y % 18446744073709551616 - 9223372036854775808 ≤ X % 18446744073709551616 - 9223372036854775808) := fun z => c (k.mpr z)
    rw [if_neg c, bs, bs, if_neg (show ¬ (1 : Int32) = 0 by decide), show ((1 : Int32)).toInt64 = zl 1 from rfl, zl_sub, zl_sub]
    clear k c
    refine congrArg some (congrArg zl ?_)
    omega
theorem shl_m : ∀ k : Nat, k < 64 → (((jn k).toInt64 &&& 63).toBitVec.smod 64) = BitVec.ofNat 64 k := by decide +kernel
theorem shl_eq {h : Int} {k : Nat} (hk : k < 64) : zl h <<< ((jn k).toInt64 &&& 63) = zl (h * 2 ^ k) := zl_of (by
  show (((zl h).toBitVec <<< (((jn k).toInt64 &&& 63).toBitVec.smod 64)).toNat : Int) = _
  rw [shl_m k hk, BitVec.shiftLeft_eq', BitVec.toNat_shiftLeft, BitVec.toNat_ofNat, Nat.mod_eq_of_lt (by omega : k < 2 ^ 64), Nat.shiftLeft_eq]
  have a := nB_zl h
  unfold nB at a
  rw [Int.natCast_emod, Int.natCast_mul, cast_pow2, a, Int.mul_emod, Int.mul_emod h]
  rw [show ((2 ^ 64 : Nat) : Int) = 18446744073709551616 from rfl, Int.emod_emod])
theorem shifted_eq (t : St) {N : Int} {z : Nat} (hz : z < 63) : x3_shifted t (zl (N / 18446744073709551616)) (zl N) (jn z) = some (zl (N / 2 ^ z)) := by
  unfold x3_shifted
  by_cases c : z = 0
  · subst c
    rw [if_pos (show jn 0 = 0 from rfl), Int.pow_zero, Int.ediv_one]
  · rw [if_neg (jn_nz c (by omega)), show (64 : Int32) = jn 64 from rfl, jn_sub (by omega), shl_eq (by omega)]
    rw [show ((zl N).toUInt64 >>> ((jn z).toInt64.toUInt64 &&& Int64.toUInt64 63)).toInt64 = ush (zl N) z from rfl, ush_zl (by omega)]
    congr 1
    have p2 : (2 : Int) ^ (64 - z) * 2 ^ z = 18446744073709551616 := by
      rw [← Int.pow_add, Nat.sub_add_cancel (by omega)]
      rfl
    have pz : (0 : Int) < 2 ^ z := Int.pow_pos (by decide)
    have pk : (0 : Int) < 2 ^ (64 - z) := Int.pow_pos (by decide)
    -- N by its two halves
    have e : N / 2 ^ z = N / 18446744073709551616 * 2 ^ (64 - z) + N % 18446744073709551616 / 2 ^ z := by
      have eN : N = N % 18446744073709551616 + N / 18446744073709551616 * 2 ^ (64 - z) * 2 ^ z := by
        rw [Int.mul_assoc, p2]
        omega
      rw [show N / 2 ^ z = (N % 18446744073709551616 + N / 18446744073709551616 * 2 ^ (64 - z) * 2 ^ z) / 2 ^ z from by rw [← eN], Int.add_mul_ediv_right _ _ (Int.ne_of_gt pz)]
      omega
    rw [e]
    have lo0 : 0 ≤ N % 18446744073709551616 / 2 ^ z := Int.ediv_nonneg (by omega) (Int.le_of_lt pz)
    have lo1 : N % 18446744073709551616 / 2 ^ z < 2 ^ (64 - z) := by
      rw [Int.ediv_lt_iff_lt_mul pz, p2]
      omega
    generalize N % 18446744073709551616 / 2 ^ z = lo at *
    generalize N / 18446744073709551616 = h at *
    refine zl_of ?_
    -- the or of bits apart is their sum
    obtain ⟨l, rfl⟩ := Int.eq_ofNat_of_zero_le lo0
    have ll : l < 2 ^ (64 - z) := by
      rw [← cast_pow2] at lo1
      exact Int.ofNat_lt.mp lo1
    have b1 : nB (zl (l : Int)) = l := by
      have := nB_zl (l : Int)
      have : 2 ^ (64 - z) ≤ 2 ^ 64 := Nat.pow_le_pow_right (by omega) (by omega)
      have : (2 : Nat) ^ 64 = 18446744073709551616 := by decide
      omega
    have hm : (h * 2 ^ (64 - z)) % 18446744073709551616 = 2 ^ (64 - z) * (h % 2 ^ z) := by
      rw [← p2, Int.mul_comm h, Int.mul_emod_mul_of_pos _ _ pk]
    have hr0 : 0 ≤ h % 2 ^ z := Int.emod_nonneg _ (Int.ne_of_gt pz)
    have hr1 := Int.emod_lt_of_pos h pz
    obtain ⟨g, hg⟩ := Int.eq_ofNat_of_zero_le hr0
    have b2 : nB (zl (h * 2 ^ (64 - z))) = 2 ^ (64 - z) * g := by
      have := nB_zl (h * 2 ^ (64 - z))
      rw [hm, hg, ← cast_pow2, ← Int.natCast_mul] at this
      exact Int.ofNat.inj this
    have eo : nB (zl (l : Int) ||| zl (h * 2 ^ (64 - z))) = 2 ^ (64 - z) * g + l := by
      show ((zl (l : Int)).toBitVec ||| (zl (h * 2 ^ (64 - z))).toBitVec).toNat = _
      rw [BitVec.toNat_or]
      unfold nB at b1 b2
      rw [b1, b2, Nat.or_comm, ← Nat.two_pow_add_eq_or_of_lt ll]
    rw [eo, Int.add_emod, hm, hg, Int.natCast_add, Int.natCast_mul, cast_pow2]
    have tot : (2 : Int) ^ (64 - z) * (g : Int) + (l : Int) < 18446744073709551616 := by
      have : (2 : Int) ^ (64 - z) * ((g : Int) + 1) ≤ 2 ^ (64 - z) * 2 ^ z := Int.mul_le_mul_of_nonneg_left (by rw [hg] at hr1; omega) (Int.le_of_lt pk)
      rw [p2, Int.mul_add, Int.mul_one] at this
      omega
    have nn : 0 ≤ (2 : Int) ^ (64 - z) * (g : Int) := Int.mul_nonneg (Int.le_of_lt pk) (by omega)
    omega
