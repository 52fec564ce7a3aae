/-! Integer.bitCount of a number below 65536. -/
def natbc (v : Nat) : Nat :=
  (fun x1 => (fun x2 => (fun x3 => (fun x4 => (x4 + (x4 >>> 16)) &&& 63) (x3 + (x3 >>> 8))) ((x2 + (x2 >>> 4)) &&& 252645135)) ((x1 &&& 858993459) + ((x1 >>> 2) &&& 858993459))) (v - ((v >>> 1) &&& 1431655765))
theorem shr_le (a k : Nat) : a >>> k ≤ a := by rw [Nat.shiftRight_eq_div_pow]; exact Nat.div_le_self _ _
theorem ofNat_shr {a : Nat} (k : Nat) (ha : a < 4294967296) : BitVec.ofNat 32 a >>> k = BitVec.ofNat 32 (a >>> k) := by
  apply BitVec.eq_of_toNat_eq
  have h3 := shr_le a k
  have h1 : a % 2 ^ 32 = a := Nat.mod_eq_of_lt (by omega)
  rw [BitVec.toNat_ushiftRight, BitVec.toNat_ofNat, BitVec.toNat_ofNat, h1, Nat.mod_eq_of_lt (by omega)]
theorem ushr_1 {a : Nat} (ha : a < 4294967296) : (((jn a).toUInt32 >>> (((1 : Int32)).toUInt32 &&& Int32.toUInt32 31)).toInt32) = jn (a >>> 1) := Int32.toBitVec.inj (ofNat_shr 1 ha)
theorem ushr_2 {a : Nat} (ha : a < 4294967296) : (((jn a).toUInt32 >>> (((2 : Int32)).toUInt32 &&& Int32.toUInt32 31)).toInt32) = jn (a >>> 2) := Int32.toBitVec.inj (ofNat_shr 2 ha)
theorem ushr_4 {a : Nat} (ha : a < 4294967296) : (((jn a).toUInt32 >>> (((4 : Int32)).toUInt32 &&& Int32.toUInt32 31)).toInt32) = jn (a >>> 4) := Int32.toBitVec.inj (ofNat_shr 4 ha)
theorem ushr_8 {a : Nat} (ha : a < 4294967296) : (((jn a).toUInt32 >>> (((8 : Int32)).toUInt32 &&& Int32.toUInt32 31)).toInt32) = jn (a >>> 8) := Int32.toBitVec.inj (ofNat_shr 8 ha)
theorem ushr_16 {a : Nat} (ha : a < 4294967296) : (((jn a).toUInt32 >>> (((16 : Int32)).toUInt32 &&& Int32.toUInt32 31)).toInt32) = jn (a >>> 16) := Int32.toBitVec.inj (ofNat_shr 16 ha)
theorem bitCount_nat (t : St) {v : Nat} (h : v < 65536) : j6_bitCount_0f7a4 t (jn v) = some (jn (natbc v)) := by
  unfold j6_bitCount_0f7a4 natbc
  have h1 := shr_le v 1
  have h2 : (v >>> 1) &&& 1431655765 ≤ v >>> 1 := Nat.and_le_left
  rw [ushr_1 (by omega), show (1431655765 : Int32) = jn 1431655765 from rfl, jn_and, jn_sub (by omega)]
  simp only [nm]
  generalize hx1 : v - (v >>> 1 &&& 1431655765) = x1
  have b1 : x1 < 65536 := by omega
  have h3 := shr_le x1 2
  have h4 : x1 &&& 858993459 ≤ x1 := Nat.and_le_left
  have h5 : (x1 >>> 2) &&& 858993459 ≤ x1 >>> 2 := Nat.and_le_left
  rw [ushr_2 (by omega), show (858993459 : Int32) = jn 858993459 from rfl, jn_and, jn_and, jn_add]
  generalize hx2 : (x1 &&& 858993459) + (x1 >>> 2 &&& 858993459) = x2
  have b2 : x2 < 131072 := by omega
  have h6 := shr_le x2 4
  rw [ushr_4 (by omega), show (252645135 : Int32) = jn 252645135 from rfl, jn_add, jn_and]
  have h7 : (x2 + (x2 >>> 4)) &&& 252645135 ≤ x2 + (x2 >>> 4) := Nat.and_le_left
  generalize hx3 : (x2 + (x2 >>> 4)) &&& 252645135 = x3 at h7
  have b3 : x3 < 262144 := by omega
  have h8 := shr_le x3 8
  rw [ushr_8 (by omega), jn_add]
  generalize hx4 : x3 + x3 >>> 8 = x4
  have b4 : x4 < 524288 := by omega
  rw [ushr_16 (by omega), jn_add, show (63 : Int32) = jn 63 from rfl, jn_and]
set_option maxRecDepth 100000 in
set_option maxHeartbeats 4000000 in
theorem bc_dec0 : ∀ a : Nat, a < 16 → ∀ b : Nat, b < 256 → Nat.beq (natbc (0 + (256 * a + b))) (popc 16 (0 + (256 * a + b))) = true := by decide +kernel
set_option maxRecDepth 100000 in
set_option maxHeartbeats 4000000 in
theorem bc_dec1 : ∀ a : Nat, a < 16 → ∀ b : Nat, b < 256 → Nat.beq (natbc (4096 + (256 * a + b))) (popc 16 (4096 + (256 * a + b))) = true := by decide +kernel
set_option maxRecDepth 100000 in
set_option maxHeartbeats 4000000 in
theorem bc_dec2 : ∀ a : Nat, a < 16 → ∀ b : Nat, b < 256 → Nat.beq (natbc (8192 + (256 * a + b))) (popc 16 (8192 + (256 * a + b))) = true := by decide +kernel
set_option maxRecDepth 100000 in
set_option maxHeartbeats 4000000 in
theorem bc_dec3 : ∀ a : Nat, a < 16 → ∀ b : Nat, b < 256 → Nat.beq (natbc (12288 + (256 * a + b))) (popc 16 (12288 + (256 * a + b))) = true := by decide +kernel
set_option maxRecDepth 100000 in
set_option maxHeartbeats 4000000 in
theorem bc_dec4 : ∀ a : Nat, a < 16 → ∀ b : Nat, b < 256 → Nat.beq (natbc (16384 + (256 * a + b))) (popc 16 (16384 + (256 * a + b))) = true := by decide +kernel
set_option maxRecDepth 100000 in
set_option maxHeartbeats 4000000 in
theorem bc_dec5 : ∀ a : Nat, a < 16 → ∀ b : Nat, b < 256 → Nat.beq (natbc (20480 + (256 * a + b))) (popc 16 (20480 + (256 * a + b))) = true := by decide +kernel
set_option maxRecDepth 100000 in
set_option maxHeartbeats 4000000 in
theorem bc_dec6 : ∀ a : Nat, a < 16 → ∀ b : Nat, b < 256 → Nat.beq (natbc (24576 + (256 * a + b))) (popc 16 (24576 + (256 * a + b))) = true := by decide +kernel
set_option maxRecDepth 100000 in
set_option maxHeartbeats 4000000 in
theorem bc_dec7 : ∀ a : Nat, a < 16 → ∀ b : Nat, b < 256 → Nat.beq (natbc (28672 + (256 * a + b))) (popc 16 (28672 + (256 * a + b))) = true := by decide +kernel
set_option maxRecDepth 100000 in
set_option maxHeartbeats 4000000 in
theorem bc_dec8 : ∀ a : Nat, a < 16 → ∀ b : Nat, b < 256 → Nat.beq (natbc (32768 + (256 * a + b))) (popc 16 (32768 + (256 * a + b))) = true := by decide +kernel
set_option maxRecDepth 100000 in
set_option maxHeartbeats 4000000 in
theorem bc_dec9 : ∀ a : Nat, a < 16 → ∀ b : Nat, b < 256 → Nat.beq (natbc (36864 + (256 * a + b))) (popc 16 (36864 + (256 * a + b))) = true := by decide +kernel
set_option maxRecDepth 100000 in
set_option maxHeartbeats 4000000 in
theorem bc_dec10 : ∀ a : Nat, a < 16 → ∀ b : Nat, b < 256 → Nat.beq (natbc (40960 + (256 * a + b))) (popc 16 (40960 + (256 * a + b))) = true := by decide +kernel
set_option maxRecDepth 100000 in
set_option maxHeartbeats 4000000 in
theorem bc_dec11 : ∀ a : Nat, a < 16 → ∀ b : Nat, b < 256 → Nat.beq (natbc (45056 + (256 * a + b))) (popc 16 (45056 + (256 * a + b))) = true := by decide +kernel
set_option maxRecDepth 100000 in
set_option maxHeartbeats 4000000 in
theorem bc_dec12 : ∀ a : Nat, a < 16 → ∀ b : Nat, b < 256 → Nat.beq (natbc (49152 + (256 * a + b))) (popc 16 (49152 + (256 * a + b))) = true := by decide +kernel
set_option maxRecDepth 100000 in
set_option maxHeartbeats 4000000 in
theorem bc_dec13 : ∀ a : Nat, a < 16 → ∀ b : Nat, b < 256 → Nat.beq (natbc (53248 + (256 * a + b))) (popc 16 (53248 + (256 * a + b))) = true := by decide +kernel
set_option maxRecDepth 100000 in
set_option maxHeartbeats 4000000 in
theorem bc_dec14 : ∀ a : Nat, a < 16 → ∀ b : Nat, b < 256 → Nat.beq (natbc (57344 + (256 * a + b))) (popc 16 (57344 + (256 * a + b))) = true := by decide +kernel
set_option maxRecDepth 100000 in
set_option maxHeartbeats 4000000 in
theorem bc_dec15 : ∀ a : Nat, a < 16 → ∀ b : Nat, b < 256 → Nat.beq (natbc (61440 + (256 * a + b))) (popc 16 (61440 + (256 * a + b))) = true := by decide +kernel
theorem bitCount_eq (t : St) {v : Nat} (h : v < 65536) : j6_bitCount_0f7a4 t (jn v) = some (jn (popc 16 v)) := by
  rw [bitCount_nat t h]
  congr 2
  apply Nat.eq_of_beq_eq_true
  have ha : v / 256 % 16 < 16 := Nat.mod_lt _ (by omega)
  have hb : v % 256 < 256 := Nat.mod_lt _ (by omega)
  rcases (show v / 4096 = 0 ∨ v / 4096 = 1 ∨ v / 4096 = 2 ∨ v / 4096 = 3 ∨ v / 4096 = 4 ∨ v / 4096 = 5 ∨ v / 4096 = 6 ∨ v / 4096 = 7 ∨ v / 4096 = 8 ∨ v / 4096 = 9 ∨ v / 4096 = 10 ∨ v / 4096 = 11 ∨ v / 4096 = 12 ∨ v / 4096 = 13 ∨ v / 4096 = 14 ∨ v / 4096 = 15 by omega) with e | e | e | e | e | e | e | e | e | e | e | e | e | e | e | e
  · have e2 : v = 0 + (256 * (v / 256 % 16) + v % 256) := by omega
    rw [e2]
    exact bc_dec0 _ ha _ hb
  · have e2 : v = 4096 + (256 * (v / 256 % 16) + v % 256) := by omega
    rw [e2]
    exact bc_dec1 _ ha _ hb
  · have e2 : v = 8192 + (256 * (v / 256 % 16) + v % 256) := by omega
    rw [e2]
    exact bc_dec2 _ ha _ hb
  · have e2 : v = 12288 + (256 * (v / 256 % 16) + v % 256) := by omega
    rw [e2]
    exact bc_dec3 _ ha _ hb
  · have e2 : v = 16384 + (256 * (v / 256 % 16) + v % 256) := by omega
    rw [e2]
    exact bc_dec4 _ ha _ hb
  · have e2 : v = 20480 + (256 * (v / 256 % 16) + v % 256) := by omega
    rw [e2]
    exact bc_dec5 _ ha _ hb
  · have e2 : v = 24576 + (256 * (v / 256 % 16) + v % 256) := by omega
    rw [e2]
    exact bc_dec6 _ ha _ hb
  · have e2 : v = 28672 + (256 * (v / 256 % 16) + v % 256) := by omega
    rw [e2]
    exact bc_dec7 _ ha _ hb
  · have e2 : v = 32768 + (256 * (v / 256 % 16) + v % 256) := by omega
    rw [e2]
    exact bc_dec8 _ ha _ hb
  · have e2 : v = 36864 + (256 * (v / 256 % 16) + v % 256) := by omega
    rw [e2]
    exact bc_dec9 _ ha _ hb
  · have e2 : v = 40960 + (256 * (v / 256 % 16) + v % 256) := by omega
    rw [e2]
    exact bc_dec10 _ ha _ hb
  · have e2 : v = 45056 + (256 * (v / 256 % 16) + v % 256) := by omega
    rw [e2]
    exact bc_dec11 _ ha _ hb
  · have e2 : v = 49152 + (256 * (v / 256 % 16) + v % 256) := by omega
    rw [e2]
    exact bc_dec12 _ ha _ hb
  · have e2 : v = 53248 + (256 * (v / 256 % 16) + v % 256) := by omega
    rw [e2]
    exact bc_dec13 _ ha _ hb
  · have e2 : v = 57344 + (256 * (v / 256 % 16) + v % 256) := by omega
    rw [e2]
    exact bc_dec14 _ ha _ hb
  · have e2 : v = 61440 + (256 * (v / 256 % 16) + v % 256) := by omega
    rw [e2]
    exact bc_dec15 _ ha _ hb
