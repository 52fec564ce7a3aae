/-! The least guards that hold a net. -/
theorem narrowed_eq {t : St} {H : Nat} (hT : TbR t H) {set : Nat} (hs : set < 65536) : x8_narrowed t (jn set) = some (jn (nw H set)) := by
  have hm := mN_le H
  have l := lp_cnt (b := fun y : Int32 × Int32 => x8_narrowed_B4 t (jn set) y.1 y.2) (fun i z => (z, jn i)) (mN H)
    (fun i z => z = jn (orr (fun r => if set.testBit (odr H r) then 2 ^ r else 0) i))
    (fun z => z = jn (nw H set)) (by
      rintro i z hi rfl
      obtain ⟨o1, o2, o3⟩ := odr_ok hi
      refine ⟨_, ?_, rfl⟩
      dsimp only
      unfold x8_narrowed_B4
      rw [hT.2.1, if_neg (nle hi (by omega)), hT.1.1, gd_jn (by omega) (by omega), jn_cl (by omega), hT.2.2.1 i hi, jn_bit (by omega) (by omega)]
      simp only [nm, jn_s]
      have : (if set.testBit (odr H i) = true then jn 1 else jn 0) <<< (jn i &&& 31) = jn (if set.testBit (odr H i) then 2 ^ i else 0) := by
        cases set.testBit (odr H i) with
        | true => exact jn_shl1 _ (by omega)
        | false =>
          show jn 0 <<< (jn i &&& 31) = jn 0
          have z : ∀ s : Nat, s < 16 → jn 0 <<< (jn s &&& 31) = jn 0 := by decide
          exact z _ (by omega)
      rw [this, jn_or]
      rfl) (by
      rintro z rfl
      exact ⟨_, by dsimp only; unfold x8_narrowed_B4; rw [hT.2.1, if_pos (lee (by omega))]; unfold nw; rfl, rfl⟩) 0 (jn 0) (by omega) rfl
  obtain ⟨z, k1, rfl⟩ := l
  unfold x8_narrowed
  rw [show ((0 : Int32), (0 : Int32)) = (jn 0, jn 0) from rfl, k1, bs]
theorem ush_and1 {x : Int64} {m : Nat} (hm : m < 64) : (ush x m &&& 1) = if wb x m then 1 else 0 := by
  cases hb : wb x m with
  | true => exact lcmp_iff.mp ((bit1_iff hm).mpr hb)
  | false =>
    have e : nB (ush x m &&& 1) = 0 := by
      rw [nB_and, nB_ush hm, show nB 1 = 1 from rfl, Nat.and_one_is_mod]
      rw [wb_nat, Nat.testBit_eq_decide_div_mod_eq] at hb
      have := of_decide_eq_false hb
      rw [Nat.shiftRight_eq_div_pow]
      unfold nB
      have := Nat.mod_two_eq_zero_or_one (x.toBitVec.toNat / 2 ^ m)
      omega
    exact Int64.toBitVec.inj (BitVec.eq_of_toNat_eq e)
theorem bit_eq {tm t : St} {K : Nat} (hT : TbK tm K t) (hB : gN t 808 ≤ 57344) {q : Nat} (hq : q < 2 ^ mN (kH tm K)) : x8_bit t (jn q) = some (b01 (rwF tm (kH tm K) K q)) := by
  obtain ⟨T, n8, ⟨base, b1, b2, b3⟩, -⟩ := hT
  have hm := mN_le (kH tm K)
  have hW := wdsN_le hm
  have q16 : 2 ^ mN (kH tm K) ≤ 2 ^ 16 := Nat.pow_le_pow_right (by omega) hm
  have e16 : (2 : Nat) ^ 16 = 65536 := rfl
  have hw : q / 64 < wdsN (mN (kH tm K)) := by
    by_cases c : 6 ≤ mN (kH tm K)
    · have := wdsN_64 c
      omega
    · have : 2 ^ mN (kH tm K) ≤ 2 ^ 5 := Nat.pow_le_pow_right (by omega) (by omega)
      have e5 : (2 : Nat) ^ 5 = 32 := rfl
      omega
  have e1 : jn q >>> ((6 : Int32) &&& 31) = jn (q / 64) := by
    have := jn_shr (a := q) (k := 6) (by omega) (by omega)
    rw [Nat.shiftRight_eq_div_pow] at this
    exact this
  have e2 : jn q &&& 63 = jn (q % 64) := by
    rw [show (63 : Int32) = jn 63 from rfl, jn_and]
    congr 1
    exact Nat.and_two_pow_sub_one_eq_mod q 6
  unfold x8_bit
  rw [b1, e1, e2, jn_add, gd_jn (by omega) (by omega), jn_cl (by omega), show ((gB t 808 (base + q / 64)).toUInt64 >>> ((jn (q % 64)).toInt64.toUInt64 &&& Int64.toUInt64 63)).toInt64 = ush (gB t 808 (base + q / 64)) (q % 64) from rfl, ush_and1 (Nat.mod_lt _ (by omega)), b3 (q / 64) hw (q % 64) (Nat.mod_lt _ (by omega)), show 64 * (q / 64) + q % 64 = q by omega]
  cases rwF tm (kH tm K) K q <;> rfl
theorem rwF_nw {tx tm : St} (hK : RK tx tm) {K : Nat} (hk : K < nK tm) (set : Nat) : rwF tm (kH tm K) K (nw (kH tm K) set) = rch tm K set := by
  unfold rwF
  refine rch_agree hK hk fun s hs => ?_
  have h16 := bit_16 (kH_lt hK hk) hs
  rw [wd_bit h16, hs, nw_bit, decide_eq_true (rk_lt h16 hs), odr_rk h16 hs]
  rfl
theorem m_wages_eq {tx tm : St} (h : RG tx tm) {set : Nat} (hs : set < 2147483648) : m_wages tm (jn set) = some (jn (wagesOf tm set (nG tm))) := by
  have h0 := h
  obtain ⟨⟨g1, g2, g3⟩, hg, -⟩ := h
  have l := lp_cnt (b := fun y : Int32 × Int32 => m_wages_B4 tm (jn set) y.1 y.2) (fun i z => (z, jn i)) (nG tm)
    (fun i z => z = jn (wagesOf tm set i))
    (fun z => z = jn (wagesOf tm set (nG tm))) (by
      rintro i z hi rfl
      have st : wagesOf tm set (i + 1) = wagesOf tm set i + (if set.testBit i then gWa tm i else 0) := rfl
      refine ⟨_, ?_, rfl⟩
      dsimp only
      unfold m_wages_B4
      rw [g1, if_neg (nle hi (by omega)), st]
      cases hb : set.testBit i with
      | true =>
        rw [if_pos ((bit_iff hs (by omega)).mpr hb), if_pos rfl, gd_jn (by omega) (by omega), jn_cl (by omega), (hg i hi).2.2.1]
        simp only [nm, jn_s, jn_add]
      | false =>
        rw [if_neg (fun e => by rw [(bit_iff hs (by omega)).mp e] at hb; cases hb)]
        simp only [nm, jn_s]
        rw [show (0 : Int32) = jn 0 from rfl, jn_add]
        rfl) (by
      rintro z rfl
      exact ⟨_, by dsimp only; unfold m_wages_B4; rw [g1, if_pos (lee (by omega))], rfl⟩) 0 (jn 0) (by omega) rfl
  obtain ⟨z, k1, rfl⟩ := l
  unfold m_wages
  rw [show ((0 : Int32), (0 : Int32)) = (jn 0, jn 0) from rfl, k1, bs]
def heldB (tm : St) (K set : Nat) : Bool := !rch tm K (65535 ^^^ stopsOf tm set (nG tm))
def chp (tm : St) (a b : Nat) : Bool := decide (wagesOf tm a (nG tm) < wagesOf tm b (nG tm)) || (decide (wagesOf tm a (nG tm) = wagesOf tm b (nG tm)) && decide (popc 16 a < popc 16 b))
def lgF (tm : St) (K : Nat) : Nat → Option Nat
  | 0 => none
  | n + 1 => match lgF tm K n with
    | none => if heldB tm K n then some n else none
    | some b => if heldB tm K n && chp tm n b then some n else some b
theorem lgF_s (tm : St) (K n : Nat) : lgF tm K (n + 1) = match lgF tm K n with
    | none => if heldB tm K n then some n else none
    | some b => if heldB tm K n && chp tm n b then some n else some b := rfl
theorem lgF_lt {tm : St} {K : Nat} : ∀ n b, lgF tm K n = some b → b < n := by
  intro n
  induction n with
  | zero => intro b h; cases h
  | succ n ih =>
    intro b h
    unfold lgF at h
    cases ho : lgF tm K n with
    | none =>
      rw [ho] at h
      dsimp only at h
      split at h
      · cases h; omega
      · cases h
    | some b0 =>
      have := ih b0 ho
      rw [ho] at h
      dsimp only at h
      split at h
      · cases h; omega
      · cases h; omega
theorem m_isHeld_eq {tx tm : St} (hK : RK tx tm) (hR : RR tx tm) (hG : RG tx tm) {K : Nat} (hk : K < nK tm) {set : Nat} (hs : set < 2147483648) : m_isHeld tm (jn K) (jn set) = some (b01 (heldB tm K set)) := by
  have hsl := stops_lt hG set
  unfold m_isHeld heldB
  rw [m_stopped_eq hG hs, bs, jn_neg16 hsl, m_isReached_eq hK hR hk (neg16_lt hsl), bs]
  cases rch tm K (65535 ^^^ stopsOf tm set (nG tm)) with
  | true => rw [if_neg (show ¬ b01 true = 0 by decide)]; rfl
  | false => rw [if_pos (show b01 false = 0 from rfl)]; rfl
theorem m_leastG_lp {tx tm : St} (hK : RK tx tm) (hR : RR tx tm) (hG : RG tx tm) {n K : Nat} (hn : n ≤ 9) (hk : K < nK tm) (e16 : gA tm 16 n = jn K) : lp (fun x : Int32 × Int32 => m_leastGuards_B19 tm (jn n) x.1 x.2) ((-1 : Int32), (0 : Int32)) = some (enO (lgF tm K (2 ^ nG tm))) := by
  have hg := hG.1
  have hp := pow_le10 hg.2.1
  have lo := lp_cnt (b := fun x : Int32 × Int32 => m_leastGuards_B19 tm (jn n) x.1 x.2) (fun i z => (z, jn i)) (2 ^ nG tm)
    (fun i z => z = enO (lgF tm K i))
    (fun z => z = enO (lgF tm K (2 ^ nG tm))) (by
      rintro i z hi rfl
      have g1 := wages_le hG i
      have pl := popc_le 16 i
      refine ⟨_, ?_, rfl⟩
      dsimp only
      unfold m_leastGuards_B19
      rw [hg.1, jn_shl1 _ (by omega), if_neg (nle hi (by omega)), gd_jn (by omega) (by omega), jn_cl (by omega), e16, m_isHeld_eq hK hR hG hk (by omega), bs]
      rw [lgF_s]
      cases hh : heldB tm K i with
      | false =>
        rw [if_pos (show b01 false = 0 from rfl)]
        simp only [nm, jn_s]
        cases lgF tm K i <;> rfl
      | true =>
        rw [if_neg (show ¬ b01 true = 0 by decide)]
        cases ho : lgF tm K i with
        | none =>
          rw [if_pos (show enO none = -1 from rfl)]
          simp only [nm, jn_s]
          rfl
        | some b =>
          have bl := lgF_lt i b ho
          have g2 := wages_le hG b
          have pb := popc_le 16 b
          rw [if_neg (show ¬ enO (some b) = -1 from jn_ne1 (by omega)), show enO (some b) = jn b from rfl, m_wages_eq hG (by omega), m_wages_eq hG (show b < 2147483648 by omega), bs, bs, bs, bs, m_sizeOf_pc tm (show i < 65536 by omega), m_sizeOf_pc tm (show b < 65536 by omega), bs, bs]
          dsimp only
          rw [Bool.true_and]
          unfold chp
          by_cases c1 : wagesOf tm i (nG tm) < wagesOf tm b (nG tm)
          · rw [if_pos ((jn_lt (by omega) (by omega)).mpr c1), decide_eq_true c1, Bool.true_or, if_pos rfl]
            simp only [nm, jn_s]
            rfl
          · rw [if_neg (fun e => c1 ((jn_lt (by omega) (by omega)).mp e)), decide_eq_false c1, Bool.false_or]
            by_cases c2 : wagesOf tm i (nG tm) = wagesOf tm b (nG tm)
            · rw [if_pos (by rw [c2]), decide_eq_true c2, Bool.true_and]
              by_cases c3 : popc 16 i < popc 16 b
              · rw [if_neg (nle c3 (by omega)), decide_eq_true c3, if_pos rfl]
                simp only [nm, jn_s]
                rfl
              · rw [if_pos ((jn_le (by omega) (by omega)).mpr (by omega)), decide_eq_false c3, if_neg (by decide)]
                simp only [nm, jn_s]
                rfl
            · rw [if_neg (fun e => c2 ((jn_inj (by omega) (by omega)).mp e)), decide_eq_false c2, Bool.false_and, if_neg (by decide)]
              simp only [nm, jn_s]
              rfl) (by
      rintro z rfl
      exact ⟨_, by dsimp only; unfold m_leastGuards_B19; rw [hg.1, jn_shl1 _ (by omega), if_pos (lee (by omega))], rfl⟩) 0 (-1) (Nat.zero_le _) rfl
  obtain ⟨z, k1, rfl⟩ := lo
  exact k1
theorem x_leastG_lp {tx tm t : St} (hK : RK tx tm) (hG : RG tx tm) {K : Nat} (hk : K < nK tm) (hT : TbK tm K t) (hB : gN t 808 ≤ 57344) (e402 : gI t 402 = gI tx 402) (e403 : gA t 403 = gA tx 403) (e404 : gA t 404 = gA tx 404) (n403 : gN t 403 = gN tx 403) (n404 : gN t 404 = gN tx 404) : lp (fun x : Int32 × Int32 => x4_leastHolding_B12 t x.1 x.2) ((-1 : Int32), (0 : Int32)) = some (enO (lgF tm K (2 ^ nG tm))) := by
  have hG0 := hG
  obtain ⟨⟨g1, g2, g3⟩, hg, l3, l4, hst⟩ := hG
  have hp := pow_le10 g2
  have lo := lp_cnt (b := fun x : Int32 × Int32 => x4_leastHolding_B12 t x.1 x.2) (fun i z => (z, jn i)) (2 ^ nG tm)
    (fun i z => z = enO (lgF tm K i))
    (fun z => z = enO (lgF tm K (2 ^ nG tm))) (by
      rintro i z hi rfl
      have w1 := wages_le hG0 i
      have pl := popc_le 16 i
      have hsl := stops_lt hG0 i
      have e4 : ∀ x, x < 2 ^ nG tm → gA t 404 x = jn (wagesOf tm x (nG tm)) := fun x hx => by rw [e404]; exact (hst x hx).2
      -- is it held
      have J : ∀ v2 : Int32, x4_leastHolding_J38 t v2 (jn i) = some (.inl (if heldB tm K i then jn i else v2, jn (i + 1))) := by
        intro v2
        unfold x4_leastHolding_J38 heldB
        rw [n403, l3, gd_jn (by omega) (by omega), jn_cl (by omega), e403, (hst i hi).1, jn_neg16 hsl, narrowed_eq hT.1 (neg16_lt hsl), bs, bit_eq hT hB (nw_lt _ _), bs, rwF_nw hK hk]
        cases rch tm K (65535 ^^^ stopsOf tm i (nG tm)) with
        | true =>
          rw [if_neg (show ¬ b01 true = 0 by decide)]
          simp only [nm, jn_s]
          rfl
        | false =>
          rw [if_pos (show b01 false = 0 from rfl)]
          simp only [nm, jn_s]
          rfl
      refine ⟨_, ?_, rfl⟩
      dsimp only
      unfold x4_leastHolding_B12
      rw [e402, g3, g1, jn_shl1 _ (by omega), if_neg (nle hi (by omega))]
      rw [lgF_s]
      cases ho : lgF tm K i with
      | none =>
        rw [if_pos (show enO none < 0 by decide), J]
        dsimp only
        cases heldB tm K i <;> rfl
      | some b =>
        have bl := lgF_lt i b ho
        have w2 := wages_le hG0 b
        have pb := popc_le 16 b
        have hch : x4_isCheaper t (jn i) (jn b) = some (if chp tm i b then 1 else 0) := by
          unfold x4_isCheaper chp
          rw [n404, l4, gd_jn (show i < 2 ^ nG tm by omega) (by omega), gd_jn (show b < 2 ^ nG tm by omega) (by omega), jn_cl (by omega), jn_cl (by omega), e4 i hi, e4 b (by omega)]
          by_cases c2 : wagesOf tm i (nG tm) = wagesOf tm b (nG tm)
          · rw [if_pos (by rw [c2]), bitCount_eq t (show i < 65536 by omega), bs, bitCount_eq t (show b < 65536 by omega), bs, decide_eq_true c2, decide_eq_false (show ¬ wagesOf tm i (nG tm) < wagesOf tm b (nG tm) by omega), Bool.false_or, Bool.true_and]
            by_cases c3 : popc 16 i < popc 16 b
            · rw [if_neg (nle c3 (by omega)), decide_eq_true c3]; rfl
            · rw [if_pos ((jn_le (by omega) (by omega)).mpr (by omega)), decide_eq_false c3]; rfl
          · rw [if_neg (fun e => c2 ((jn_inj (by omega) (by omega)).mp e)), decide_eq_false c2, Bool.false_and, Bool.or_false, gd_jn (show i < 2 ^ nG tm by omega) (by omega), gd_jn (show b < 2 ^ nG tm by omega) (by omega)]
            by_cases c1 : wagesOf tm i (nG tm) < wagesOf tm b (nG tm)
            · rw [if_neg (nle c1 (by omega)), decide_eq_true c1]; rfl
            · rw [if_pos ((jn_le (by omega) (by omega)).mpr (by omega)), decide_eq_false c1]; rfl
        rw [show enO (some b) = jn b from rfl, if_neg (jn_neg (by omega)), hch, bs]
        dsimp only
        cases chp tm i b with
        | true =>
          rw [if_neg (show ¬ (if true = true then (1 : Int32) else 0) = 0 by decide), J, Bool.and_true]
          cases heldB tm K i <;> rfl
        | false =>
          rw [if_pos (show (if false = true then (1 : Int32) else 0) = 0 from rfl), Bool.and_false]
          simp only [nm, jn_s]
          rfl) (by
      rintro z rfl
      exact ⟨_, by dsimp only; unfold x4_leastHolding_B12; rw [e402, g3, g1, jn_shl1 _ (by omega), if_pos (lee (by omega))], rfl⟩) 0 (-1) (Nat.zero_le _) rfl
  obtain ⟨z, k1, rfl⟩ := lo
  exact k1
/-- tables alone are changed -/
def KpT (tx tm tx' : St) : Prop := fx [801, 802, 803, 804, 805, 806, 807, 808, 809, 810, 811, 812, 813, 814] [808, 9000, 9001] tx tx' ∧ RTb tx' tm ∧ gN tx' 9001 + 2 * gN tx 808 ≤ gN tx 9001 + 2 * gN tx' 808 ∧ gN tx' 9000 + gN tx 808 ≤ gN tx 9000 + gN tx' 808
theorem op_leastGuards {tx tm : St} (hK : RK tx tm) (hN : RN tx tm) (hR : RR tx tm) (hG : RG tx tm) (hQ : RQ tm) (hT : RTb tx tm) (a1 : Int32) : ∃ r tx', x11_leastGuards tx a1 = some (r, tx') ∧ m_leastGuards tm a1 = some r ∧ KpT tx tm tx' := by
  have h250 := nK_lt hK
  rcases pre_leastGuards hK hN a1 with ⟨r, k1, k2⟩ | ⟨n, K, hn, hk, e16, e602, rfl⟩
  · exact ⟨r, tx, k1, k2, fx.rfl, hT, Nat.le_refl _, Nat.le_refl _⟩
  obtain ⟨t1, k1, f1, hT1, e5, TK, me1, me2⟩ := fillFor_eq hK hQ hk hT
  refine ⟨enO (lgF tm K (2 ^ nG tm)), t1, ?_, ?_, f1, hT1, me1, me2⟩
  · unfold x11_leastGuards x11_leastGuards_J37 x4_leastHolding x4_leastHolding_J8
    rw [noNet_T hn, bs, if_pos rfl, hN.1, gd_jn (by omega) (by omega), jn_cl (by omega), e602]
    simp only [nm]
    rw [if_pos (jn_nn (by omega)), k1, bs, x_leastG_lp hK hG hk TK (Tb_808 hT1.1) (f1.1 402 rfl).1 (f1.1 403 rfl).2.2.1 (f1.1 404 rfl).2.2.1 (f1.2 403 rfl) (f1.2 404 rfl), bs, bs]
  · unfold m_leastGuards
    rw [why_ok hn e16 (by omega), bs, if_pos rfl, m_leastG_lp hK hR hG hn hk e16, bs]
