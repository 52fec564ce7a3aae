/-! Long.bitCount; words shifted down. -/
theorem ush_m : ∀ m : Nat, m < 64 → (((jn m).toInt64.toUInt64 &&& Int64.toUInt64 63).toBitVec % 64) = BitVec.ofNat 64 m := by decide +kernel
def ush (x : Int64) (m : Nat) : Int64 := ((x).toUInt64 >>> ((jn m).toInt64.toUInt64 &&& Int64.toUInt64 63)).toInt64
theorem ush_bv {x : Int64} {m : Nat} (hm : m < 64) : (ush x m).toBitVec = x.toBitVec >>> m := by
  show x.toBitVec >>> (((jn m).toInt64.toUInt64 &&& Int64.toUInt64 63).toBitVec % 64) = _
  rw [ush_m m hm]
  show x.toBitVec >>> (BitVec.ofNat 64 m).toNat = _
  rw [BitVec.toNat_ofNat, Nat.mod_eq_of_lt (by omega)]
def nB (x : Int64) : Nat := x.toBitVec.toNat
theorem nB_lt (x : Int64) : nB x < 18446744073709551616 := x.toBitVec.isLt
theorem nB_and (x y : Int64) : nB (x &&& y) = nB x &&& nB y := BitVec.toNat_and _ _
theorem nB_ush {x : Int64} {m : Nat} (hm : m < 64) : nB (ush x m) = nB x >>> m := by
  unfold nB
  rw [ush_bv hm, BitVec.toNat_ushiftRight]
theorem nB_sub {x y : Int64} (h : nB y ≤ nB x) : nB (x - y) = nB x - nB y := by
  show (x.toBitVec - y.toBitVec).toNat = _
  rw [BitVec.toNat_sub]
  have h1 := nB_lt x
  have h2 := nB_lt y
  unfold nB at *
  omega
theorem nB_add {x y : Int64} (h : nB x + nB y < 18446744073709551616) : nB (x + y) = nB x + nB y := by
  show (x.toBitVec + y.toBitVec).toNat = _
  rw [BitVec.toNat_add]
  unfold nB at *
  omega
/-- byte by byte -/
def bm (t : Nat → Nat) : Nat → Nat → Nat
  | 0, _ => 0
  | k + 1, n => 256 * bm t k (n / 256) + t (n % 256)
def mk8 (m : Nat) : Nat → Nat
  | 0 => 0
  | k + 1 => 256 * mk8 m k + m
theorem shm {q b M m s : Nat} (hb : b < 256) (hs : s ≤ 8) (hm : m < 2 ^ (8 - s)) : ((256 * q + b) >>> s) &&& (256 * M + m) = 256 * ((q >>> s) &&& M) + ((b >>> s) &&& m) := by
  have m8 : m < 2 ^ 8 := Nat.lt_of_lt_of_le hm (Nat.pow_le_pow_right (by omega) (by omega))
  have bb : ((b >>> s) &&& m) < 2 ^ 8 := Nat.lt_of_le_of_lt Nat.and_le_right m8
  apply Nat.eq_of_testBit_eq
  intro i
  rw [Nat.testBit_and, Nat.testBit_shiftRight, show 256 = 2 ^ 8 from rfl, Nat.testBit_two_pow_mul_add (i := 8) q (b := b) hb, Nat.testBit_two_pow_mul_add (i := 8) M (b := m) m8, Nat.testBit_two_pow_mul_add (i := 8) _ bb]
  by_cases h : i < 8
  · rw [if_pos h, if_pos h, Nat.testBit_and, Nat.testBit_shiftRight]
    by_cases h2 : s + i < 8
    · rw [if_pos h2]
    · rw [if_neg h2]
      have : m.testBit i = false := Nat.testBit_lt_two_pow (Nat.lt_of_lt_of_le hm (Nat.pow_le_pow_right (by omega) (by omega)))
      rw [this, Bool.and_false, Bool.and_false]
  · rw [if_neg h, if_neg h, if_neg (by omega), Nat.testBit_and, Nat.testBit_shiftRight, show s + i - 8 = s + (i - 8) by omega]
theorem bm_lt {t : Nat → Nat} (ht : ∀ b, b < 256 → t b < 256) : ∀ k n, bm t k n < 256 ^ k := by
  intro k
  induction k with
  | zero => intro n; show 0 < 1; omega
  | succ k ih =>
    intro n
    have h1 := ih (n / 256)
    have h2 := ht (n % 256) (Nat.mod_lt _ (by omega))
    show 256 * bm t k (n / 256) + t (n % 256) < 256 ^ (k + 1)
    rw [Nat.pow_succ]
    omega
theorem bm_bm {t s : Nat → Nat} (hs : ∀ b, b < 256 → s b < 256) : ∀ k n, bm t k (bm s k n) = bm (fun b => t (s b)) k n := by
  intro k
  induction k with
  | zero => intro n; rfl
  | succ k ih =>
    intro n
    have h2 := hs (n % 256) (Nat.mod_lt _ (by omega))
    show 256 * bm t k ((256 * bm s k (n / 256) + s (n % 256)) / 256) + t ((256 * bm s k (n / 256) + s (n % 256)) % 256) = 256 * bm _ k (n / 256) + t (s (n % 256))
    rw [show (256 * bm s k (n / 256) + s (n % 256)) / 256 = bm s k (n / 256) by omega, show (256 * bm s k (n / 256) + s (n % 256)) % 256 = s (n % 256) by omega, ih]
theorem bm_cong {t s : Nat → Nat} (h : ∀ b, b < 256 → t b = s b) : ∀ k n, bm t k n = bm s k n := by
  intro k
  induction k with
  | zero => intro n; rfl
  | succ k ih =>
    intro n
    show 256 * bm t k (n / 256) + _ = 256 * bm s k (n / 256) + _
    rw [ih, h _ (Nat.mod_lt _ (by omega))]
def t1 (b : Nat) : Nat := b - ((b >>> 1) &&& 85)
def t2 (b : Nat) : Nat := (b &&& 51) + ((b >>> 2) &&& 51)
theorem and85 (b : Nat) : ((b >>> 1) &&& 85) ≤ b := Nat.le_trans Nat.and_le_left (by rw [Nat.shiftRight_eq_div_pow]; exact Nat.div_le_self _ _)
theorem f1_eq : ∀ k n, n < 256 ^ k → ((n >>> 1) &&& mk8 85 k) ≤ n ∧ n - ((n >>> 1) &&& mk8 85 k) = bm t1 k n := by
  intro k
  induction k with
  | zero => intro n hn; have : n = 0 := by have : n < 1 := hn; omega
            subst this; exact ⟨by decide, by decide⟩
  | succ k ih =>
    intro n hn
    rw [Nat.pow_succ] at hn
    obtain ⟨h1, h2⟩ := ih (n / 256) (by omega)
    have h3 := and85 (n % 256)
    have e := shm (q := n / 256) (b := n % 256) (M := mk8 85 k) (m := 85) (s := 1) (Nat.mod_lt _ (by omega)) (by omega) (by decide)
    rw [show 256 * (n / 256) + n % 256 = n by omega] at e
    show ((n >>> 1) &&& (256 * mk8 85 k + 85)) ≤ n ∧ n - ((n >>> 1) &&& (256 * mk8 85 k + 85)) = 256 * bm t1 k (n / 256) + t1 (n % 256)
    rw [e, ← h2]
    unfold t1
    omega
theorem f2_eq : ∀ k n, n < 256 ^ k → (n &&& mk8 51 k) + ((n >>> 2) &&& mk8 51 k) = bm t2 k n := by
  intro k
  induction k with
  | zero => intro n hn; have : n = 0 := by have : n < 1 := hn; omega
            subst this; decide
  | succ k ih =>
    intro n hn
    rw [Nat.pow_succ] at hn
    have h2 := ih (n / 256) (by omega)
    have e := shm (q := n / 256) (b := n % 256) (M := mk8 51 k) (m := 51) (s := 2) (Nat.mod_lt _ (by omega)) (by omega) (by decide)
    have e0 := shm (q := n / 256) (b := n % 256) (M := mk8 51 k) (m := 51) (s := 0) (Nat.mod_lt _ (by omega)) (by omega) (by decide)
    rw [show 256 * (n / 256) + n % 256 = n by omega] at e e0
    simp only [Nat.shiftRight_zero] at e0
    show (n &&& (256 * mk8 51 k + 51)) + ((n >>> 2) &&& (256 * mk8 51 k + 51)) = 256 * bm t2 k (n / 256) + t2 (n % 256)
    rw [e, e0, ← h2]
    unfold t2
    omega
/-- no nibble above 4 -/
def lowN (b : Nat) : Prop := b % 16 ≤ 4 ∧ b / 16 ≤ 4
theorem f3_eq {s : Nat → Nat} (hs : ∀ b, b < 256 → lowN (s b)) : ∀ k n, (bm s k n + (bm s k n >>> 4)) &&& mk8 15 k = bm (fun b => s b % 16 + s b / 16) k n := by
  intro k
  induction k with
  | zero => intro n; show (0 + 0 >>> 4) &&& 0 = 0; decide
  | succ k ih =>
    intro n
    have h2 := ih (n / 256)
    obtain ⟨b1, b2⟩ := hs (n % 256) (Nat.mod_lt _ (by omega))
    have q1 : bm s k (n / 256) % 16 ≤ 4 := by
      cases k with
      | zero => show 0 % 16 ≤ 4; omega
      | succ k =>
        obtain ⟨c1, c2⟩ := hs (n / 256 % 256) (Nat.mod_lt _ (by omega))
        show (256 * bm s k (n / 256 / 256) + s (n / 256 % 256)) % 16 ≤ 4
        omega
    show ((256 * bm s k (n / 256) + s (n % 256)) + ((256 * bm s k (n / 256) + s (n % 256)) >>> 4)) &&& (256 * mk8 15 k + 15) = 256 * bm _ k (n / 256) + (s (n % 256) % 16 + s (n % 256) / 16)
    rw [← h2]
    generalize bm s k (n / 256) = Q at q1 ⊢
    generalize s (n % 256) = b at b1 b2 ⊢
    rw [Nat.shiftRight_eq_div_pow, Nat.shiftRight_eq_div_pow, show (2 : Nat) ^ 4 = 16 from rfl]
    have e : 256 * Q + b + (256 * Q + b) / 16 = 256 * (Q + Q / 16) + (b + b / 16 + 16 * (Q % 16)) := by omega
    have e0 := shm (q := Q + Q / 16) (b := b + b / 16 + 16 * (Q % 16)) (M := mk8 15 k) (m := 15) (s := 0) (by omega) (by omega) (by decide)
    simp only [Nat.shiftRight_zero] at e0
    rw [e, e0]
    congr 1
    rw [show (15 : Nat) = 2 ^ 4 - 1 from rfl, Nat.and_two_pow_sub_one_eq_mod]
    show (b + b / 16 + 16 * (Q % 16)) % 16 = _
    omega
theorem t21 : ∀ b : Nat, b < 256 → t1 b < 256 ∧ t2 (t1 b) < 256 ∧ t2 (t1 b) % 16 ≤ 4 ∧ t2 (t1 b) / 16 ≤ 4 ∧ t2 (t1 b) % 16 + t2 (t1 b) / 16 = popc 8 b := by decide +kernel
theorem popc_byte : ∀ f v, popc (8 + f) v = popc 8 (v % 256) + popc f (v / 256) := by
  intro f v
  rw [popc_smm, popc_smm, popc_smm]
  have add : ∀ (g : Nat → Nat) n m, smm g (n + m) = smm g n + smm (fun j => g (n + j)) m := by
    intro g n m
    induction m with
    | zero => rfl
    | succ m ih =>
      show smm g (n + m) + g (n + m) = smm g n + (smm (fun j => g (n + j)) m + g (n + m))
      rw [ih, Nat.add_assoc]
  rw [add]
  congr 1
  · refine smm_cong fun i hi => ?_
    rw [show 256 = 2 ^ 8 from rfl, Nat.testBit_mod_two_pow, decide_eq_true hi, Bool.true_and]
  · refine smm_cong fun i _ => ?_
    rw [show 256 = 2 ^ 8 from rfl, Nat.testBit_div_two_pow, Nat.add_comm]
/-- the bytes' sum -/
def bs8 (t : Nat → Nat) : Nat → Nat → Nat
  | 0, _ => 0
  | k + 1, n => bs8 t k (n / 256) + t (n % 256)
theorem popc_bs : ∀ k n, popc (8 * k) n = bs8 (popc 8) k n := by
  intro k
  induction k with
  | zero => intro n; rfl
  | succ k ih =>
    intro n
    rw [show 8 * (k + 1) = 8 + 8 * k by omega, popc_byte, ih]
    show _ = bs8 (popc 8) k (n / 256) + popc 8 (n % 256)
    omega
theorem wcn_popc (x : Int64) : wcn x = popc 64 (nB x) := by
  rw [popc_smm]
  rfl
theorem div_of {n d q r : Nat} (hd : 0 < d) (h : n = d * q + r) (hr : r < d) : n / d = q := by
  rw [h, Nat.mul_add_div hd, Nat.div_eq_of_lt hr, Nat.add_zero]
theorem mod_of {n q r : Nat} (h : n = 128 * q + r) (hr : r < 128) : n % 128 = r := by
  rw [h, Nat.mul_add_mod, Nat.mod_eq_of_lt hr]
theorem fold_sum {a0 a1 a2 a3 a4 a5 a6 a7 : Nat} (h0 : a0 ≤ 8) (h1 : a1 ≤ 8) (h2 : a2 ≤ 8) (h3 : a3 ≤ 8) (h4 : a4 ≤ 8) (h5 : a5 ≤ 8) (h6 : a6 ≤ 8) (h7 : a7 ≤ 8) {n : Nat} (hn : n = 256 * (256 * (256 * (256 * (256 * (256 * (256 * (256 * 0 + a7) + a6) + a5) + a4) + a3) + a2) + a1) + a0) : n + n / 256 < 18446744073709551616 ∧ (n + n / 256) + (n + n / 256) / 65536 < 18446744073709551616 ∧ ((n + n / 256) + (n + n / 256) / 65536) + ((n + n / 256) + (n + n / 256) / 65536) / 4294967296 < 18446744073709551616 ∧ (((n + n / 256) + (n + n / 256) / 65536) + ((n + n / 256) + (n + n / 256) / 65536) / 4294967296) % 128 = a0 + a1 + a2 + a3 + a4 + a5 + a6 + a7 := by
  have e1 : n / 256 = 256 * (256 * (256 * (256 * (256 * (256 * (256 * 0 + a7) + a6) + a5) + a4) + a3) + a2) + a1 := div_of (by omega) hn (by omega)
  have e2 : n + n / 256 = 65536 * ((a2 + a3) + 256 * (a3 + a4) + 65536 * (a4 + a5) + 16777216 * (a5 + a6) + 4294967296 * (a6 + a7) + 1099511627776 * a7) + ((a0 + a1) + 256 * (a1 + a2)) := by rw [e1, hn]; clear hn e1 h0 h1 h2 h3 h4 h5 h6 h7; omega
  generalize n + n / 256 = n1 at e2 ⊢
  clear hn e1
  have e3 : n1 / 65536 = (a2 + a3) + 256 * (a3 + a4) + 65536 * (a4 + a5) + 16777216 * (a5 + a6) + 4294967296 * (a6 + a7) + 1099511627776 * a7 := div_of (by omega) e2 (by clear e2; omega)
  have l1 : n1 < 18446744073709551616 := by rw [e2]; clear e2 e3; omega
  have e4 : n1 + n1 / 65536 = 4294967296 * ((a4 + a5 + a6 + a7) + 256 * (a5 + a6 + a7) + 65536 * (a6 + a7) + 16777216 * a7) + ((a0 + a1 + a2 + a3) + 256 * (a1 + a2 + a3 + a4) + 65536 * (a2 + a3 + a4 + a5) + 16777216 * (a3 + a4 + a5 + a6)) := by rw [e3, e2]; clear e2 e3 l1 h0 h1 h2 h3 h4 h5 h6 h7; omega
  generalize n1 + n1 / 65536 = n2 at e4 ⊢
  clear e2 e3
  have e5 : n2 / 4294967296 = (a4 + a5 + a6 + a7) + 256 * (a5 + a6 + a7) + 65536 * (a6 + a7) + 16777216 * a7 := div_of (by omega) e4 (by clear e4 l1; omega)
  have l2 : n2 < 18446744073709551616 := by rw [e4]; clear e4 e5 l1; omega
  have e6 : n2 + n2 / 4294967296 = 128 * (33554432 * ((a4 + a5 + a6 + a7) + 256 * (a5 + a6 + a7) + 65536 * (a6 + a7) + 16777216 * a7) + 2 * (a1 + a2 + a3 + a4) + 512 * (a2 + a3 + a4 + a5) + 131072 * (a3 + a4 + a5 + a6) + 2 * (a5 + a6 + a7) + 512 * (a6 + a7) + 131072 * a7) + (a0 + a1 + a2 + a3 + a4 + a5 + a6 + a7) := by rw [e5, e4]; clear e4 e5 l1 l2 h0 h1 h2 h3 h4 h5 h6 h7; omega
  refine ⟨l1, l2, ?_, mod_of e6 (by clear e4 e5 e6 l1 l2; omega)⟩
  rw [e6]; clear e4 e5 e6 l1 l2; omega
theorem low127 (x : Int64) : x.toInt32 &&& 127 = jn (nB x % 128) := by
  apply Int32.toBitVec.inj
  apply BitVec.eq_of_toNat_eq
  show ((x.toBitVec.signExtend 32) &&& 127#32).toNat = (BitVec.ofNat 32 (nB x % 128)).toNat
  rw [BitVec.toNat_and, BitVec.toNat_ofNat, BitVec.signExtend_eq_setWidth_of_le _ (by omega), BitVec.toNat_setWidth, show (127 % 2 ^ 32 : Nat) = 2 ^ 7 - 1 from rfl, Nat.and_two_pow_sub_one_eq_mod]
  rw [BitVec.toNat_ofNat]
  unfold nB
  show x.toBitVec.toNat % 4294967296 % 128 = x.toBitVec.toNat % 128 % 4294967296
  omega
theorem bc64_eq (t : St) (x : Int64) : j13_bitCount_95d88 t x = some (jn (wcn x)) := by
  have hx := nB_lt x
  have m85 : nB 6148914691236517205 = mk8 85 8 := by decide
  have m51 : nB 3689348814741910323 = mk8 51 8 := by decide
  have m15 : nB 1085102592571150095 = mk8 15 8 := by decide
  unfold j13_bitCount_95d88
  simp only [nm]
  -- the pairs
  have a1 : nB (x - (ush x 1 &&& 6148914691236517205)) = bm t1 8 (nB x) := by
    obtain ⟨h1, h2⟩ := f1_eq 8 (nB x) hx
    rw [nB_sub (by rw [nB_and, nB_ush (by omega), m85]; exact h1), nB_and, nB_ush (by omega), m85, h2]
  show some ((_ : Int64).toInt32 &&& 127) = _
  generalize hx1 : x - (ush x 1 &&& 6148914691236517205) = x1 at a1
  rw [show x - (((x).toUInt64 >>> (((1 : Int32)).toInt64.toUInt64 &&& Int64.toUInt64 63)).toInt64 &&& 6148914691236517205) = x1 from hx1]
  have b1 : nB x1 < 256 ^ 8 := by rw [a1]; exact bm_lt (fun b hb => (t21 b hb).1) 8 _
  have a2 : nB ((x1 &&& 3689348814741910323) + (ush x1 2 &&& 3689348814741910323)) = bm (fun b => t2 (t1 b)) 8 (nB x) := by
    have h := f2_eq 8 (nB x1) b1
    have hl := bm_lt (t := t2) (fun b hb => by
      unfold t2
      have h1 : (b &&& 51) ≤ 51 := Nat.and_le_right
      have h2 : ((b >>> 2) &&& 51) ≤ 51 := Nat.and_le_right
      omega) 8 (nB x1)
    have e1 : nB (x1 &&& 3689348814741910323) = nB x1 &&& mk8 51 8 := by rw [nB_and, m51]
    have e2 : nB (ush x1 2 &&& 3689348814741910323) = (nB x1 >>> 2) &&& mk8 51 8 := by rw [nB_and, nB_ush (by omega), m51]
    rw [nB_add (by rw [e1, e2, h]; exact hl), e1, e2, h, a1, bm_bm (fun b hb => (t21 b hb).1)]
  generalize hx2 : (x1 &&& 3689348814741910323) + (ush x1 2 &&& 3689348814741910323) = x2 at a2
  rw [show (x1 &&& 3689348814741910323) + (((x1).toUInt64 >>> (((2 : Int32)).toInt64.toUInt64 &&& Int64.toUInt64 63)).toInt64 &&& 3689348814741910323) = x2 from hx2]
  have a3 : nB ((x2 + ush x2 4) &&& 1085102592571150095) = bm (popc 8) 8 (nB x) := by
    have lo : ∀ b, b < 256 → lowN (t2 (t1 b)) := fun b hb => ⟨(t21 b hb).2.2.1, (t21 b hb).2.2.2.1⟩
    have h := f3_eq lo 8 (nB x)
    have hl : nB x2 < 4919131752989213765 := by
      rw [a2]
      have : ∀ k n, bm (fun b => t2 (t1 b)) k n ≤ mk8 68 k := by
        intro k
        induction k with
        | zero => intro n; exact Nat.le_refl _
        | succ k ih =>
          intro n
          have h1 := ih (n / 256)
          obtain ⟨c1, c2⟩ := lo (n % 256) (Nat.mod_lt _ (by omega))
          show 256 * bm _ k (n / 256) + t2 (t1 (n % 256)) ≤ 256 * mk8 68 k + 68
          omega
      exact Nat.lt_of_le_of_lt (this 8 (nB x)) (by decide)
    rw [nB_and, nB_add (by rw [nB_ush (by omega), Nat.shiftRight_eq_div_pow]; omega), nB_ush (by omega), m15, a2, h]
    exact bm_cong (fun b hb => (t21 b hb).2.2.2.2) 8 _
  generalize hx3 : (x2 + ush x2 4) &&& 1085102592571150095 = x3 at a3
  rw [show (x2 + ((x2).toUInt64 >>> (((4 : Int32)).toInt64.toUInt64 &&& Int64.toUInt64 63)).toInt64) &&& 1085102592571150095 = x3 from hx3]
  have p8 : ∀ b, popc 8 b ≤ 8 := fun b => popc_le 8 b
  obtain ⟨l1, l2, l3, l4⟩ := fold_sum (p8 _) (p8 _) (p8 _) (p8 _) (p8 _) (p8 _) (p8 _) (p8 _) a3
  have s1 : nB (x3 + ush x3 8) = nB x3 + nB x3 / 256 := by
    rw [nB_add (by rw [nB_ush (by omega), Nat.shiftRight_eq_div_pow]; exact l1), nB_ush (by omega), Nat.shiftRight_eq_div_pow]
  generalize hx4 : x3 + ush x3 8 = x4 at s1
  rw [show x3 + ((x3).toUInt64 >>> (((8 : Int32)).toInt64.toUInt64 &&& Int64.toUInt64 63)).toInt64 = x4 from hx4]
  have s2 : nB (x4 + ush x4 16) = nB x4 + nB x4 / 65536 := by
    rw [nB_add (by rw [nB_ush (by omega), Nat.shiftRight_eq_div_pow, s1]; exact l2), nB_ush (by omega), Nat.shiftRight_eq_div_pow]
  generalize hx5 : x4 + ush x4 16 = x5 at s2
  rw [show x4 + ((x4).toUInt64 >>> (((16 : Int32)).toInt64.toUInt64 &&& Int64.toUInt64 63)).toInt64 = x5 from hx5]
  have s3 : nB (x5 + ush x5 32) = nB x5 + nB x5 / 4294967296 := by
    rw [nB_add (by rw [nB_ush (by omega), Nat.shiftRight_eq_div_pow, s2, s1]; exact l3), nB_ush (by omega), Nat.shiftRight_eq_div_pow]
  generalize hx6 : x5 + ush x5 32 = x6 at s3
  rw [show x5 + ((x5).toUInt64 >>> (((32 : Int32)).toInt64.toUInt64 &&& Int64.toUInt64 63)).toInt64 = x6 from hx6]
  rw [low127, s3, s2, s1, l4, wcn_popc, show 64 = 8 * 8 from rfl, popc_bs]
  congr 2
  simp only [bs8]
  omega
