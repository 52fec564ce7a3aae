/-! Bits of small numbers. -/
theorem jn_or (a b : Nat) : jn a ||| jn b = jn (a ||| b) := Int32.toBitVec.inj (by
  show BitVec.ofNat 32 a ||| BitVec.ofNat 32 b = BitVec.ofNat 32 (a ||| b)
  exact BitVec.ofNat_or.symm)
theorem jn_and (a b : Nat) : jn a &&& jn b = jn (a &&& b) := Int32.toBitVec.inj (by
  show BitVec.ofNat 32 a &&& BitVec.ofNat 32 b = BitVec.ofNat 32 (a &&& b)
  exact BitVec.ofNat_and.symm)
theorem jn_xor (a b : Nat) : jn a ^^^ jn b = jn (a ^^^ b) := Int32.toBitVec.inj (by
  show BitVec.ofNat 32 a ^^^ BitVec.ofNat 32 b = BitVec.ofNat 32 (a ^^^ b)
  exact BitVec.ofNat_xor.symm)
theorem jn_shl1 : ∀ k : Nat, k < 31 → (1 : Int32) <<< (jn k &&& 31) = jn (2 ^ k) := by decide +kernel
theorem jn_smod : ∀ k : Nat, k < 32 → (jn k &&& 31).toBitVec.smod 32 = BitVec.ofNat 32 k := by decide +kernel
theorem jn_shr {a k : Nat} (ha : a < 2147483648) (hk : k < 32) : jn a >>> (jn k &&& 31) = jn (a >>> k) := Int32.toBitVec.inj (by
  show BitVec.sshiftRight' (BitVec.ofNat 32 a) ((jn k &&& 31).toBitVec.smod 32) = BitVec.ofNat 32 (a >>> k)
  rw [jn_smod k hk, BitVec.sshiftRight', BitVec.sshiftRight_eq_of_msb_false]
  · apply BitVec.eq_of_toNat_eq
    rw [BitVec.toNat_ushiftRight, BitVec.toNat_ofNat, BitVec.toNat_ofNat, BitVec.toNat_ofNat]
    have h1 : a % 2 ^ 32 = a := Nat.mod_eq_of_lt (by omega)
    have h2 : k % 2 ^ 32 = k := Nat.mod_eq_of_lt (by omega)
    have h3 : a >>> k ≤ a := by rw [Nat.shiftRight_eq_div_pow]; exact Nat.div_le_self _ _
    rw [h1, h2, Nat.mod_eq_of_lt (by omega)]
  · rw [BitVec.msb_eq_false_iff_two_mul_lt, BitVec.toNat_ofNat]
    have h1 : a % 2 ^ 32 = a := Nat.mod_eq_of_lt (by omega)
    rw [h1]
    omega)
theorem jn_bit {a k : Nat} (ha : a < 2147483648) (hk : k < 32) : (jn a >>> (jn k &&& 31)) &&& 1 = if a.testBit k then jn 1 else jn 0 := by
  rw [jn_shr ha hk, show (1 : Int32) = jn 1 from rfl, jn_and, Nat.testBit_eq_decide_div_mod_eq, Nat.and_one_is_mod, Nat.shiftRight_eq_div_pow]
  rcases Nat.mod_two_eq_zero_or_one (a / 2 ^ k) with h | h
  · rw [h]; rfl
  · rw [h]; rfl
theorem bit_iff {a k : Nat} (ha : a < 2147483648) (hk : k < 32) : ((jn a >>> (jn k &&& 31)) &&& 1 = (1 : Int32)) ↔ a.testBit k = true := by
  rw [jn_bit ha hk]
  cases a.testBit k <;> decide
theorem bit_iff0 {a k : Nat} (ha : a < 2147483648) (hk : k < 32) : ((jn a >>> (jn k &&& 31)) &&& 1 = (0 : Int32)) ↔ a.testBit k = false := by
  rw [jn_bit ha hk]
  cases a.testBit k <;> decide
theorem orr_lt {f : Nat → Nat} {n w : Nat} (h : ∀ i, i < n → f i < 2 ^ w) : orr f n < 2 ^ w := by
  induction n with
  | zero => exact Nat.two_pow_pos w
  | succ n ih => exact Nat.or_lt_two_pow (ih fun i hi => h i (by omega)) (h n (by omega))
theorem orr_cong {f g : Nat → Nat} {n : Nat} (h : ∀ i, i < n → f i = g i) : orr f n = orr g n := by
  induction n with
  | zero => rfl
  | succ n ih => unfold orr; rw [ih fun i hi => h i (by omega), h n (by omega)]
def smm (f : Nat → Nat) : Nat → Nat
  | 0 => 0
  | n + 1 => smm f n + f n
theorem smm_cong {f g : Nat → Nat} {n : Nat} (h : ∀ i, i < n → f i = g i) : smm f n = smm g n := by
  induction n with
  | zero => rfl
  | succ n ih => unfold smm; rw [ih fun i hi => h i (by omega), h n (by omega)]
theorem smm_le {f : Nat → Nat} {n w : Nat} (h : ∀ i, i < n → f i ≤ w) : smm f n ≤ n * w := by
  induction n with
  | zero => exact Nat.zero_le _
  | succ n ih =>
    have h1 := ih fun i hi => h i (by omega)
    have h2 := h n (by omega)
    unfold smm
    rw [Nat.succ_mul]
    omega
