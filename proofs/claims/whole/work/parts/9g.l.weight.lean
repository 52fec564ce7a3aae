/-! Weight. -/
theorem fxn {t : St} : fx [] [] t t := fx.rfl
theorem jl_neg {k : Nat} (h : k ≤ 18446744073709551616) : -(jl k) = jl (18446744073709551616 - k) := by
  rw [← jl_sub h, Int64.sub_eq_add_neg, show jl 18446744073709551616 = 0 from rfl, Int64.zero_add]
theorem neg_mask {k : Nat} (h : k ≤ 1073741824) : -(jl k) &&& (1073741823 : Int64) = jl (1073741824 - k) ∨ k = 0 := by
  by_cases c : k = 0
  · exact Or.inr c
  refine Or.inl ?_
  rw [jl_neg (by omega), show (1073741823 : Int64) = jl (2 ^ 30 - 1) from rfl, jl_and, Nat.and_two_pow_sub_one_eq_mod]
  congr 1
  omega
theorem neg_toInt {k : Nat} (h : k ≤ 1073741824) : (-(jl k)).toInt = -(k : Int) := by
  rw [Int64.toInt_neg, Int64.toInt_ofNat_of_lt (by omega), Int.bmod_eq_of_le (by omega) (by omega)]
theorem neg_shr {k : Nat} (h0 : 0 < k) (h : k ≤ 1073741824) : (-(jl k)) >>> ((30 : Int32).toInt64 &&& 63) = -(jl 1) := by
  apply Int64.toBitVec.inj
  show ((-(jl k)).toBitVec).sshiftRight ((((30 : Int32).toInt64 &&& 63).toBitVec.smod 64).toNat) = (-(jl 1)).toBitVec
  rw [show (((30 : Int32).toInt64 &&& 63).toBitVec.smod 64).toNat = 30 by decide]
  apply BitVec.eq_of_toInt_eq
  rw [BitVec.toInt_sshiftRight]
  have e := neg_toInt h
  have e1 := neg_toInt (k := 1) (by omega)
  unfold Int64.toInt at e e1
  rw [e, e1, Int.shiftRight_eq_div_pow]
  have : ((2 ^ 30 : Nat) : Int) = 1073741824 := rfl
  rw [this]
  omega
theorem jl_nsub {v w : Nat} (hv : v < 1073741824) (hw : w < 1073741824) : (jn v - jn w).toInt64 = jl v - jl w := by
  apply Int64.toInt.inj
  rw [Int32.toInt_toInt64, Int32.toInt_sub, Int64.toInt_sub, Int32.toInt_ofNat_of_lt (by omega), Int32.toInt_ofNat_of_lt (by omega), Int64.toInt_ofNat_of_lt (by omega), Int64.toInt_ofNat_of_lt (by omega), Int.bmod_eq_of_le (by omega) (by omega), Int.bmod_eq_of_le (by omega) (by omega)]
/-- one limb of a difference -/
theorem sub_limb {v w b : Nat} (hv : v < 1073741824) (hw : w < 1073741824) (hb : b ≤ 1) : ∃ x, -(jl b) + (jn v - jn w).toInt64 = x ∧ (x &&& (1073741823 : Int64)).toInt32 = jn (if v < w + b then v + 1073741824 - w - b else v - w - b) ∧ x >>> ((30 : Int32).toInt64 &&& 63) = -(jl (if v < w + b then 1 else 0)) := by
  have e : -(jl b) + (jl v - jl w) = jl v - (jl w + jl b) := by
    simp only [Int64.sub_eq_add_neg, Int64.neg_add]
    rw [← Int64.add_assoc, Int64.add_comm (-(jl b)), Int64.add_assoc, Int64.add_comm (-(jl b))]
  refine ⟨_, rfl, ?_⟩
  rw [jl_nsub hv hw, e, jl_add]
  by_cases c : v < w + b
  · rw [if_pos c, if_pos c]
    have e2 : jl v - jl (w + b) = -(jl (w + b - v)) := by
      rw [← jl_sub (show v ≤ w + b by omega)]
      simp only [Int64.sub_eq_add_neg, Int64.neg_add, Int64.neg_neg]
      rw [Int64.add_comm]
    rw [e2, neg_shr (by omega) (by omega)]
    refine ⟨?_, rfl⟩
    rcases neg_mask (k := w + b - v) (by omega) with h | h
    · rw [h, jl_to]
      congr 1
      omega
    · omega
  · rw [if_neg c, if_neg c, jl_sub (by omega), jl_mask, jl_shr (by omega), jl_to]
    constructor
    · congr 1
      omega
    · rw [Nat.div_eq_of_lt (by omega)]
      rfl
theorem subtract1312_eq {t : St} {a n V W : Nat} (h13 : n ≤ gN t 13) (h13b : gN t 13 ≤ 1000000) (ha : a + n ≤ gN t 12) (hB : gN t 12 ≤ 1000000) (hV : Bg (gA t 13) 0 n V) (hW : Bg (gA t 12) a n W) (hs : W ≤ V) : ∃ t', x2_subtract_13_12 t (jn a) (jn n) = some t' ∧ fx [13] [] t t' ∧ Bg (gA t' 13) 0 n (V - W) := by
  have L := lp_cnt (b := fun z : Int64 × Int32 × St => x2_subtract_13_12_B6 (jn a) (jn n) z.1 z.2.1 z.2.2) (fun i s => (-(jl (brw V W i)), jn i, s)) n
    (fun i s => Wr 13 0 (V - W) i t s) (fun s => Wr 13 0 (V - W) n t s) (by
      rintro i s hi hw
      have d1 := dgt_lt V i
      have d2 := dgt_lt W i
      have P := hw.put (v := jn (dgt (V - W) i)) (by omega) rfl
      rw [Nat.zero_add] at P
      obtain ⟨x, e1, e2, e3⟩ := sub_limb d1 d2 (brw_le V W i)
      have e2' : ((x &&& (1073741823 : Int64))).toInt32 = jn (dgt (V - W) i) := by
        rw [e2, brw_dgt hs]
      rw [← brw_s] at e3
      have v2 := hV.2 i hi
      have w2 := hW.2 i hi
      have o2 := hw.2.2 (0 + i) (by omega)
      rw [v2, Nat.zero_add] at o2
      dsimp only
      unfold x2_subtract_13_12_B6
      rw [if_neg (nle hi (by omega)), hw.1.2 13 rfl, hw.1.2 12 rfl, gd_jn (by omega) (by omega), gd_at hi ha hB, at_cl hi ha hB, jn_cl (by omega), o2, (hw.1.1 12 rfl).2.2.1, w2, e1]
      simp only [nm]
      rw [gd_jn (by omega) (by omega), e2', e3, jn_s]
      exact ⟨_, rfl, P⟩) (by
      rintro s hs
      exact ⟨s, by dsimp only; unfold x2_subtract_13_12_B6; rw [if_pos (lee (by omega))], hs⟩) 0 t (Nat.zero_le _) Wr.nil
  obtain ⟨s, k, k1⟩ := L
  obtain ⟨o1, o2⟩ := k1.fin (Nat.lt_of_le_of_lt (Nat.sub_le V W) hV.1)
  refine ⟨s, ?_, o1.1, o2⟩
  have k' : lp (fun z : Int64 × Int32 × St => x2_subtract_13_12_B6 (jn a) (jn n) z.1 z.2.1 z.2.2) ((0 : Int64), (0 : Int32), t) = some s := by
    have := k
    rw [brw_0] at this
    exact this
  unfold x2_subtract_13_12
  rw [k', bs]
theorem Gw.trans {k W : Nat} {t u v : St} (h : Gw k W t u) (g : Gw k W u v) : Gw k W t v := by
  obtain ⟨h1, h2, h3, h4⟩ := h
  obtain ⟨g1, ⟨-, g2⟩, g3, g4⟩ := g
  have c : ¬ gN u k < W := by omega
  rw [if_neg c] at g3 g4
  have e := g2 c
  refine ⟨g1, ⟨fun z => e.trans (h2.1 z), fun z => e.trans (h2.2 z)⟩, by rw [g3, h3]; rfl, by rw [g4, h4]; rfl⟩
theorem gw_fx0 {k W : Nat} {t u v : St} {S : List Nat} (hx : fx S [] t u) (h : Gw k W u v) : Gw k W t v := by
  unfold Gw at *
  rw [hx.2 k rfl, hx.2 9000 rfl, hx.2 9001 rfl] at h
  exact h
theorem nv_cong {N : List (Nat × Nat × Nat)} {p q : Nat → Nat} {m : Nat} (hm : ∀ i, i < N.length → (N.getD i (0, 0, 0)).1 < m) (h : ∀ r, r < m → p r = q r) : ∀ k, k ≤ N.length → ∀ x, nv N p m k x = nv N q m k x := by
  intro k
  induction k with
  | zero => intro _ x; rfl
  | succ k ih =>
    intro hk x
    rw [nv_s, nv_s, h _ (hm k (by omega)), ih (by omega), ih (by omega), ih (by omega)]
/-- with a step's chance put for another -/
def uS (u : Nat → Nat) (s v : Nat) : Nat → Nat := fun j => if j = s then v else u j
theorem uS_le {u : Nat → Nat} {s v : Nat} (hu : ∀ j, j < 16 → u j ≤ 1000) (hv : v ≤ 1000) : ∀ j, j < 16 → uS u s v j ≤ 1000 := fun j hj => by
  unfold uS
  by_cases c : j = s
  · rw [if_pos c]; exact hv
  · rw [if_neg c]; exact hu j hj
theorem odr_bit {H r : Nat} (h : r < mN H) : H.testBit (odr H r) = true := (odr_ok h).2.1
theorem th13_of {t : St} {n V m : Nat} (h13 : gN t 13 = 6) (hn : n ≤ 6) (h0 : gN t 200 = 6) (h1 : gN t 201 = 6) (hV : Bg (gA t 13) 0 n V) (hm : m ≤ 16) (h6 : gI t 6 = jn n) (h8 : gI t 803 = jn m) : ∃ t' A B, x11_weight_J56 t = some (if A = 0 then 0 else 1, t') ∧ fx [200, 201] [] t t' ∧ Bg (gA t' 200) 0 6 A ∧ Bg (gA t' 201) 0 6 B ∧ A * 1000 ^ m = V * B ∧ Nat.Coprime A B ∧ 0 < B := by
  obtain ⟨t', A, B, d1, d2, d3, d4, d5, d6, d7⟩ := th13_eq (t := t) (a := 0) (n := n) (V := V) (m := m) (by omega) (by omega) hn h0 h1 hV hm
  refine ⟨t', A, B, ?_, d2, d3, d4, d5, d6, d7⟩
  unfold x11_weight_J56
  rw [h6, h8, show (0 : Int32) = jn 0 from rfl, d1, bs, zer200_eq ((d2.2 200 rfl).trans h0) d3, bs]
  by_cases c : A = 0
  · rw [if_pos c, if_pos c, if_neg (by decide)]
  · rw [if_neg c, if_neg c, if_pos (show (0 : Int32) = jn 0 from rfl)]
/-- the reference's part -/
theorem weightM_of {tx tm : St} {H top s : Nat} {N : List (Nat × Nat × Nat)} {u : Nat → Nat} (hB : DgB tx tm H N top) (hl : N.length ≤ 400) (hu : ∀ j, j < 16 → u j ≤ 1000 ∧ gA tm 43 j = jn (u j)) (hs : s < 16) (hle : nv N (fun r => uS u s 0 (odr H r)) (mN H) N.length top ≤ nv N (fun r => uS u s 1000 (odr H r)) (mN H) N.length top) : ∃ t1 t2 t3 t4 t5 T A B, m_chances (sA tm 43 (jn s) 0) (jn 402) = some t1 ∧ m_chances (sA t1 43 (jn s) 1000) (jn 4507) = some t2 ∧ m_lessens t2 (jn 4507) (jn 402) = some t3 ∧ m_wholes t3 (jn 4505) (jn 16) = some t4 ∧ m_tells t4 (jn 4507) (jn 4505) = some t5 ∧ m_isNothing t5 (jn 4500) = some (if A = 0 then 1 else 0) ∧ fx [34, 43] [] tm t5 ∧ BM t5 4500 A ∧ BM t5 4501 B ∧ T * 1000 ^ mN H = (nv N (fun r => uS u s 1000 (odr H r)) (mN H) N.length top - nv N (fun r => uS u s 0 (odr H r)) (mN H) N.length top) * 1000 ^ 16 ∧ A = T / Nat.gcd T (1000 ^ 16) ∧ B = 1000 ^ 16 / Nat.gcd T (1000 ^ 16) := by
  have f0 : fx [34, 43] [] tm (sA tm 43 (jn s) 0) := fx_sA rfl
  have r43 : ∀ (t : St) (v : Nat) (g : Nat → Nat), (∀ j, j < 16 → j ≠ s → gA t 43 j = jn (g j)) → ∀ j, j < 16 → gA (sA t 43 (jn s) (jn v)) 43 j = jn (uS g s v j) := fun t v g h j hj => by
    rw [gA_sA, jn_cl (by omega)]
    unfold uS
    by_cases c : j = s
    · subst c; rw [upd_at, if_pos rfl]
    · rw [upd_ne c, if_neg c]; exact h j hj c
  have hB1 := hB.frm f0
  obtain ⟨-, ⟨e1, e2, e3⟩, -, f2, f3, f4, f5, -, -⟩ := hB1
  have u0 := uS_le (s := s) (v := 0) (fun j hj => (hu j hj).1) (by omega)
  have u1 := uS_le (s := s) (v := 1000) (fun j hj => (hu j hj).1) (by omega)
  obtain ⟨t1, T0, a1, a2, a3, a4, a5⟩ := chances_eq (u := uS u s 0) (to := 402) e1 e2 e3 hl f2 f3 f4 f5 (fun j hj => ⟨u0 j hj, r43 tm 0 u (fun j hj _ => (hu j hj).2) j hj⟩) (by omega) (by omega) (by omega)
  have f1 : fx [34, 43] [] tm t1 := f0.trans (a2.1.wk rfl rfl)
  have fA : fx [34, 43] [] tm (sA t1 43 (jn s) 1000) := f1.trans (fx_sA rfl)
  have hB2 := hB.frm fA
  obtain ⟨-, ⟨g1, g2, g3⟩, -⟩ := hB2
  have k43 : ∀ j, j < 16 → j ≠ s → gA t1 43 j = jn (u j) := fun j hj hne => by
    rw [(a2.1.1 43 rfl).2.2.1, show gA (sA tm 43 (jn s) 0) 43 j = _ from r43 tm 0 u (fun j hj _ => (hu j hj).2) j hj]
    unfold uS
    rw [if_neg hne]
  obtain ⟨t2, T1, b1, b2, b3, b4, b5⟩ := chances_eq (u := uS u s 1000) (to := 4507) g1 g2 g3 hl f2 f3 f4 f5 (fun j hj => ⟨u1 j hj, r43 t1 1000 u k43 j hj⟩) (by omega) (by omega) (by omega)
  have c3 : BM (sA t1 43 (jn s) 1000) 402 T0 := a3
  have c4 := c3.sl b2 (rng_no (by omega) (by omega) (by omega))
  have pm : 0 < 1000 ^ mN H := Nat.pow_pos (by omega)
  have le : T0 ≤ T1 := by
    refine Nat.le_of_mul_le_mul_right (c := 1000 ^ mN H) ?_ pm
    rw [a4, b4]
    exact Nat.mul_le_mul_right _ hle
  obtain ⟨t3, d1, d2, d3⟩ := lessens_eq (x := 4507) (y := 402) (by omega) (by omega) (by omega) b3 c4 le
  obtain ⟨t4, h1, h2, h3⟩ := wholes_eq (t := t3) (x := 4505) (n := 16) (by omega) (by omega)
  have p16' := p16
  have Bp7 : 2 * 1000 ^ 16 ≤ Bp 7 := Nat.le_trans (by rw [Nat.mul_comm]; exact Nat.mul_le_mul_left _ (by omega)) (Nat.le_of_lt p16')
  obtain ⟨t5, i1, i2, i3, i4⟩ := tells_eq (x := 4507) (y := 4505) (by omega) (by omega) (by omega) (by omega) (d3.sl1 h2 (by omega)) h3 (Nat.pow_pos (by omega)) Bp7
  refine ⟨t1, t2, t3, t4, t5, T1 - T0, _, _, a1, b1, d1, h1, i1, isNothing_eq (by omega) i3, ?_, i3, i4, ?_, rfl, rfl⟩
  · exact fA.trans ((b2.1.wk rfl rfl : fx [34, 43] [] _ t2).trans ((d2.1.wk rfl rfl : fx [34, 43] [] t2 t3).trans ((h2.1.wk rfl rfl : fx [34, 43] [] t3 t4).trans (i2.1.wk rfl rfl))))
  · rw [Nat.sub_mul, a4, b4, Nat.sub_mul]
/-- the class's part -/
theorem weightX_of {tx tm : St} {H top s : Nat} {N : List (Nat × Nat × Nat)} {tm0 : St} (hB : DgB tx tm H N top) (hl : N.length ≤ 400) (hH : RH tx tm0) (h12 : R12 tx) (h9 : gN tx 9 ≤ 1000000) (hs : s < 16) (hb : H.testBit s = true) (hle : nv N (fun r => uS (usU tm0 0) s 0 (odr H r)) (mN H) N.length top ≤ nv N (fun r => uS (usU tm0 0) s 1000 (odr H r)) (mN H) N.length top) : ∃ t', x0_workWeight tx (jn s) = some t' ∧ fx [12, 13, 14] [12, 9000, 9001] tx t' ∧ Gw 12 ((N.length + 2) * ((mN H + 2) / 3)) tx t' ∧ Bg (gA t' 13) 0 ((mN H + 2) / 3) (nv N (fun r => uS (usU tm0 0) s 1000 (odr H r)) (mN H) N.length top - nv N (fun r => uS (usU tm0 0) s 0 (odr H r)) (mN H) N.length top) := by
  have hm := mN_le H
  have uok := usU_ok hH 0
  have u0 := uS_le (s := s) (v := 0) (fun j hj => (uok j hj).1) (by omega)
  have u1 := uS_le (s := s) (v := 1000) (fun j hj => (uok j hj).1) (by omega)
  obtain ⟨t1, a1, a2, a3⟩ := fill13_eq h12.2.1
  have hB1 := hB.frx a2
  have T1 := hB1.2.2.2.2.2.2.2.1
  have s16 : 2 ^ s < 65536 := by
    have := Nat.pow_lt_pow_right (a := 2) (by omega) hs
    have e16 : (2 : Nat) ^ 16 = 65536 := rfl
    omega
  have nrw := narrowed_eq T1 (set := 2 ^ s) (by omega)
  have rm := rk_lt hs hb
  have nz : nw H (2 ^ s) ≠ 0 := fun e => by
    have := congrArg (fun z => z.testBit (rkN H s)) e
    simp only [Nat.zero_testBit] at this
    rw [nw_bit, odr_rk hs hb, Nat.testBit_two_pow] at this
    simp [rm] at this
  have nl : nw H (2 ^ s) < 2147483648 := by
    have := nw_lt H (2 ^ s)
    have := Nat.pow_le_pow_right (n := 2) (by omega) hm
    have e16 : (2 : Nat) ^ 16 = 65536 := rfl
    omega
  obtain ⟨t2, b1, b2, b3⟩ := takeOdds_eq (never := 0) T1 ((a2.2 14 rfl).trans h12.2.2) (hH.fr a2 fxn : RH t1 tm0) (by omega)
  have n14 : gN t2 14 = 16 := (b2.2 14 rfl).trans ((a2.2 14 rfl).trans h12.2.2)
  have rr : ∀ r, r < mN H → (odr H r = s ↔ r = rkN H s) := fun r hr => by
    constructor
    · intro e; rw [← e]; exact (odr_ok hr).2.2.symm
    · intro e; rw [e]; exact odr_rk hs hb
  have put : ∀ (t : St) (v : Nat), (∀ r, r < mN H → r ≠ rkN H s → gA t 14 r = jn (usU tm0 0 (odr H r))) → ∀ r, r < mN H → gA (sA t 14 (jn (rkN H s)) (jn v)) 14 r = jn (uS (usU tm0 0) s v (odr H r)) := fun t v h r hr => by
    rw [gA_sA, jn_cl (by omega)]
    unfold uS
    by_cases c : r = rkN H s
    · rw [if_pos ((rr r hr).mpr c), c, upd_at]
    · rw [upd_ne c, if_neg (fun e => c ((rr r hr).mp e))]; exact h r hr c
  generalize ht3 : sA t2 14 (jn (rkN H s)) 1000 = t3
  have f3 : fx [13, 14] [] tx t3 := by
    rw [← ht3]
    exact (a2.wk rfl rfl : fx [13, 14] [] tx t1).trans ((b2.wk rfl rfl : fx [13, 14] [] t1 t2).trans (fx_sA rfl))
  have r3 : R12 t3 := h12.fr f3
  obtain ⟨t4, at1, c1, c2, c3, c4, c5, c6⟩ := work_of (u := uS (usU tm0 0) s 1000) (hB.frx f3) hl r3 (by rw [f3.2 9 rfl]; exact h9) (fun r hr => u1 _ (odr_ok hr).1) (fun r hr => by rw [← ht3]; exact put t2 1000 (fun r hr _ => b3 r hr) r hr)
  have n6 : (mN H + 2) / 3 ≤ 6 := by omega
  have d6 := hB.1.2.2.1
  generalize hC1 : nv N (fun r => uS (usU tm0 0) s 1000 (odr H r)) (mN H) N.length top = C1 at *
  generalize hn : (mN H + 2) / 3 = n at *
  generalize ht5 : sAr t4 13 (va_cpy (gA t4 12) (gA t4 13) (jn at1).toNatClampNeg (0 : Int32).toNatClampNeg (jn n).toNatClampNeg) = t5
  have f5 : fx [13] [] t4 t5 := by rw [← ht5]; exact fx_sAr rfl
  have l12 := c4.1.le
  have V5 : Bg (gA t5 13) 0 n C1 := by
    refine ⟨c6.1, fun i hi => ?_⟩
    rw [← ht5]
    show va_cpy (gA t4 12) (gA t4 13) (jn at1).toNatClampNeg (0 : Int32).toNatClampNeg (jn n).toNatClampNeg (0 + i) = _
    unfold va_cpy
    rw [jn_cl (by omega), jn_cl (by omega), show (0 : Int32).toNatClampNeg = 0 from rfl, Nat.zero_add, Nat.zero_add, Nat.sub_zero, if_pos ⟨Nat.zero_le _, hi⟩]
    exact c6.2 i hi
  generalize ht6 : sA t5 14 (jn (rkN H s)) 0 = t6
  have f6 : fx [13, 14] [] t4 t6 := by
    rw [← ht6]
    exact (f5.wk rfl rfl : fx [13, 14] [] t4 t5).trans (fx_sA rfl)
  have F6 : fx [12, 13, 14] [12, 9000, 9001] tx t6 := (f3.wk rfl rfl : fx [12, 13, 14] [12, 9000, 9001] tx t3).trans ((c2.wk rfl rfl : fx [12, 13, 14] [12, 9000, 9001] t3 t4).trans (f6.wk rfl rfl))
  obtain ⟨t7, at2, g1, g2, g3, g4, g5, g6⟩ := work_of (u := uS (usU tm0 0) s 0) (hB.frx F6) hl (c4.fr f6) (by rw [F6.2 9 rfl]; exact h9) (fun r hr => u0 _ (odr_ok hr).1) (fun r hr => by
    rw [← ht6]
    refine put t5 0 (fun r hr hne => ?_) r hr
    rw [(f5.1 14 rfl).2.2.1, (c2.1 14 rfl).2.2.1, ← ht3]
    have := put t2 1000 (fun r hr _ => b3 r hr) r hr
    rw [show jn 1000 = (1000 : Int32) from rfl] at this
    rw [this]
    unfold uS
    rw [if_neg (fun e => hne ((rr r hr).mp e))])
  generalize hC0 : nv N (fun r => uS (usU tm0 0) s 0 (odr H r)) (mN H) N.length top = C0 at *
  have V7 : Bg (gA t7 13) 0 n C1 := by
    rw [(g2.1 13 rfl).2.2.1, ← ht6]
    exact V5
  have l7 := g4.1.le
  obtain ⟨t8, h1, h2, h3⟩ := subtract1312_eq (t := t7) (a := at2) (n := n) (by rw [g4.2.1]; omega) (by rw [g4.2.1]; omega) (by rw [← hn]; exact g5) (by omega) V7 (by rw [← hn]; exact g6) hle
  have F7 : fx [12, 13, 14] [12, 9000, 9001] tx t7 := F6.trans (g2.wk rfl rfl)
  refine ⟨t8, ?_, F7.trans (h2.wk rfl rfl), ?_, h3⟩
  · unfold x0_workWeight
    rw [a1, bs, jn_shl1 s (by omega)]
    rw [nrw, bs, if_neg (jn_nz nz nl), show (0 : Int32) = jn 0 from rfl, b1, bs]
    have T2 := T1.fr b2
    rw [T2.1.2, gd_jn hs (by omega), jn_cl (by omega), T2.2.2.2.1 s hs hb]
    simp only [nm]
    rw [n14, gd_jn (by omega) (by omega), ht3, c1, bs]
    dsimp only
    unfold x0_workWeight_J50
    have e4 : gI t4 6 = jn n := by rw [(c2.1 6 rfl).1, (f3.1 6 rfl).1]; exact d6
    rw [e4]
    unfold cpk
    rw [if_neg]
    · simp only [nm]
      rw [ht5, f5.2 14 rfl, c4.2.2, gd_jn (by omega) (by omega), ht6, g1, bs]
      dsimp only
      unfold x0_workWeight_J79
      rw [(F7.1 6 rfl).1, d6, h1, bs]
    · rw [jn_cl (by omega), jn_cl (by omega), show (0 : Int32).toNatClampNeg = 0 from rfl, c4.2.1]
      rintro (e | e | e | e | e)
      · exact jn_neg (by omega) e
      · exact absurd e (by decide)
      · exact jn_neg (by omega) e
      · omega
      · omega
  · have q1 : Gw 12 ((N.length + 2) * n) tx t6 := (gw_fx0 f3 c3).fx f6
    have g3' : Gw 12 ((N.length + 2) * n) t6 t7 := by rw [← hn]; exact g3
    exact (q1.trans g3').fx h2
