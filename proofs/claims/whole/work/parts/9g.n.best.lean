/-! Best: the values of all sets. -/
theorem compare12_eq {t : St} {a b n V W : Nat} (ha : a + n ≤ gN t 12) (hb : b + n ≤ gN t 12) (hB : gN t 12 ≤ 1000000) (hV : Bg (gA t 12) a n V) (hW : Bg (gA t 12) b n W) : x2_compareRows_12 t (jn a) (jn b) (jn n) = some (cmpV V W) := by
  have B : ∀ i, i < n → x2_compareRows_12_B5 t (jn a) (jn b) (dn (n - i)) = if dgt V (n - 1 - i) = dgt W (n - 1 - i) then some (.inl (dn (n - (i + 1)))) else some (.inr (.inl (jn (n - 1 - i)))) := fun i hi => by
    have d1 := dgt_lt V (n - 1 - i)
    have d2 := dgt_lt W (n - 1 - i)
    obtain ⟨j, hj⟩ : ∃ j, j = n - 1 - i := ⟨_, rfl⟩
    have e1 : n - i = j + 1 := by omega
    have e2 : n - (i + 1) = j := by omega
    have jl' : j < n := by omega
    rw [← hj] at d1 d2 ⊢
    unfold x2_compareRows_12_B5
    rw [e1, e2, dn_s, if_neg (jn_neg (by omega)), gd_at jl' ha hB, gd_at jl' hb hB, at_cl jl' ha hB, at_cl jl' hb hB, hV.2 j jl', hW.2 j jl', dn_pred]
    simp only [nm]
    by_cases c : dgt V j = dgt W j
    · rw [if_pos c, if_pos (by rw [c])]
    · rw [if_neg c, if_neg (fun z => c ((jn_inj (by omega) (by omega)).mp z))]
  unfold x2_compareRows_12
  simp only [nm]
  rw [show jn n - 1 = dn n from by
    rw [Int32.sub_eq_add_neg]; exact dn_pred n]
  by_cases z : V = W
  · subst z
    have l := lp_cnt (b := fun y' : Int32 => x2_compareRows_12_B5 t (jn a) (jn b) y') (fun i (_ : Unit) => dn (n - i)) n (fun _ _ => True) (fun u => u = .inr ()) (by
      rintro i ⟨⟩ hi -
      exact ⟨(), by rw [B i hi, if_pos rfl], trivial⟩) (by
      rintro ⟨⟩ -
      exact ⟨_, by unfold x2_compareRows_12_B5; rw [Nat.sub_self, if_pos (show dn 0 < 0 by decide)], rfl⟩) 0 () (Nat.zero_le _) trivial
    obtain ⟨u, k, rfl⟩ := l
    rw [Nat.sub_zero] at k
    rw [show lp (fun y' : Int32 => x2_compareRows_12_B5 t (jn a) (jn b) y') (dn n) = some (.inr ()) from k, bs]
    unfold cmpV
    rw [if_pos rfl]
    rfl
  · have ex : ∃ i, i < n ∧ dgt V (n - 1 - i) ≠ dgt W (n - 1 - i) := by
      by_cases e : ∃ i, i < n ∧ dgt V (n - 1 - i) ≠ dgt W (n - 1 - i)
      · exact e
      · refine absurd (dgt_ext n hV.1 hW.1 fun i hi => ?_) z
        by_cases q : dgt V i = dgt W i
        · exact q
        · exact absurd ⟨n - 1 - i, by omega, by rw [show n - 1 - (n - 1 - i) = i by omega]; exact q⟩ e
    obtain ⟨k0, hk0⟩ := ex
    obtain ⟨k, -, ⟨k1, k2⟩, k3⟩ := least_k (P := fun i => i < n ∧ dgt V (n - 1 - i) ≠ dgt W (n - 1 - i)) hk0
    have hq : ∀ i, i < k → dgt V (n - 1 - i) = dgt W (n - 1 - i) := fun i hi => by
      by_cases q : dgt V (n - 1 - i) = dgt W (n - 1 - i)
      · exact q
      · exact absurd ⟨by omega, q⟩ (k3 i hi)
    have l := lp_cnt (b := fun y' : Int32 => x2_compareRows_12_B5 t (jn a) (jn b) y') (fun i (_ : Unit) => dn (n - i)) k (fun _ _ => True) (fun u => u = .inl (jn (n - 1 - k))) (by
      rintro i ⟨⟩ hi -
      exact ⟨(), by rw [B i (by omega), if_pos (hq i hi)], trivial⟩) (by
      rintro ⟨⟩ -
      exact ⟨_, by rw [B k k1, if_neg k2], rfl⟩) 0 () (Nat.zero_le _) trivial
    obtain ⟨u, kk, rfl⟩ := l
    rw [Nat.sub_zero] at kk
    obtain ⟨j, hj⟩ : ∃ j, j = n - 1 - k := ⟨_, rfl⟩
    have jl' : j < n := by omega
    have he : ∀ i, j < i → i < n → dgt V i = dgt W i := fun i h1 h2 => by
      have := hq (n - 1 - i) (by omega)
      rw [show n - 1 - (n - 1 - i) = i by omega] at this
      exact this
    rw [← hj] at k2 kk
    have d1 := dgt_lt V j
    have d2 := dgt_lt W j
    rw [show lp (fun y' : Int32 => x2_compareRows_12_B5 t (jn a) (jn b) y') (dn n) = some (.inl (jn j)) from kk, bs]
    unfold cmpV
    rw [if_neg z]
    dsimp only [Sum.elim]
    rw [gd_at jl' ha hB, gd_at jl' hb hB, at_cl jl' ha hB, at_cl jl' hb hB, hV.2 j jl', hW.2 j jl']
    by_cases c : dgt V j < dgt W j
    · rw [if_neg (nle c (by omega)), if_pos (cmp_top hV.1 hW.1 jl' he c)]
    · have c' : dgt W j < dgt V j := by omega
      have := cmp_top hW.1 hV.1 jl' (fun i h1 h2 => (he i h1 h2).symm) c'
      rw [if_pos ((jn_le (by omega) (by omega)).mpr (by omega)), if_neg (by omega)]
theorem compare405_eq {t : St} {a b n V W : Nat} (ha : a + n ≤ gN t 405) (hb : b + n ≤ gN t 405) (hB : gN t 405 ≤ 1000000) (hV : Bg (gA t 405) a n V) (hW : Bg (gA t 405) b n W) : x2_compareRows_405 t (jn a) (jn b) (jn n) = some (cmpV V W) := by
  have B : ∀ i, i < n → x2_compareRows_405_B5 t (jn a) (jn b) (dn (n - i)) = if dgt V (n - 1 - i) = dgt W (n - 1 - i) then some (.inl (dn (n - (i + 1)))) else some (.inr (.inl (jn (n - 1 - i)))) := fun i hi => by
    have d1 := dgt_lt V (n - 1 - i)
    have d2 := dgt_lt W (n - 1 - i)
    obtain ⟨j, hj⟩ : ∃ j, j = n - 1 - i := ⟨_, rfl⟩
    have e1 : n - i = j + 1 := by omega
    have e2 : n - (i + 1) = j := by omega
    have jl' : j < n := by omega
    rw [← hj] at d1 d2 ⊢
    unfold x2_compareRows_405_B5
    rw [e1, e2, dn_s, if_neg (jn_neg (by omega)), gd_at jl' ha hB, gd_at jl' hb hB, at_cl jl' ha hB, at_cl jl' hb hB, hV.2 j jl', hW.2 j jl', dn_pred]
    simp only [nm]
    by_cases c : dgt V j = dgt W j
    · rw [if_pos c, if_pos (by rw [c])]
    · rw [if_neg c, if_neg (fun z => c ((jn_inj (by omega) (by omega)).mp z))]
  unfold x2_compareRows_405
  simp only [nm]
  rw [show jn n - 1 = dn n from by
    rw [Int32.sub_eq_add_neg]; exact dn_pred n]
  by_cases z : V = W
  · subst z
    have l := lp_cnt (b := fun y' : Int32 => x2_compareRows_405_B5 t (jn a) (jn b) y') (fun i (_ : Unit) => dn (n - i)) n (fun _ _ => True) (fun u => u = .inr ()) (by
      rintro i ⟨⟩ hi -
      exact ⟨(), by rw [B i hi, if_pos rfl], trivial⟩) (by
      rintro ⟨⟩ -
      exact ⟨_, by unfold x2_compareRows_405_B5; rw [Nat.sub_self, if_pos (show dn 0 < 0 by decide)], rfl⟩) 0 () (Nat.zero_le _) trivial
    obtain ⟨u, k, rfl⟩ := l
    rw [Nat.sub_zero] at k
    rw [show lp (fun y' : Int32 => x2_compareRows_405_B5 t (jn a) (jn b) y') (dn n) = some (.inr ()) from k, bs]
    unfold cmpV
    rw [if_pos rfl]
    rfl
  · have ex : ∃ i, i < n ∧ dgt V (n - 1 - i) ≠ dgt W (n - 1 - i) := by
      by_cases e : ∃ i, i < n ∧ dgt V (n - 1 - i) ≠ dgt W (n - 1 - i)
      · exact e
      · refine absurd (dgt_ext n hV.1 hW.1 fun i hi => ?_) z
        by_cases q : dgt V i = dgt W i
        · exact q
        · exact absurd ⟨n - 1 - i, by omega, by rw [show n - 1 - (n - 1 - i) = i by omega]; exact q⟩ e
    obtain ⟨k0, hk0⟩ := ex
    obtain ⟨k, -, ⟨k1, k2⟩, k3⟩ := least_k (P := fun i => i < n ∧ dgt V (n - 1 - i) ≠ dgt W (n - 1 - i)) hk0
    have hq : ∀ i, i < k → dgt V (n - 1 - i) = dgt W (n - 1 - i) := fun i hi => by
      by_cases q : dgt V (n - 1 - i) = dgt W (n - 1 - i)
      · exact q
      · exact absurd ⟨by omega, q⟩ (k3 i hi)
    have l := lp_cnt (b := fun y' : Int32 => x2_compareRows_405_B5 t (jn a) (jn b) y') (fun i (_ : Unit) => dn (n - i)) k (fun _ _ => True) (fun u => u = .inl (jn (n - 1 - k))) (by
      rintro i ⟨⟩ hi -
      exact ⟨(), by rw [B i (by omega), if_pos (hq i hi)], trivial⟩) (by
      rintro ⟨⟩ -
      exact ⟨_, by rw [B k k1, if_neg k2], rfl⟩) 0 () (Nat.zero_le _) trivial
    obtain ⟨u, kk, rfl⟩ := l
    rw [Nat.sub_zero] at kk
    obtain ⟨j, hj⟩ : ∃ j, j = n - 1 - k := ⟨_, rfl⟩
    have jl' : j < n := by omega
    have he : ∀ i, j < i → i < n → dgt V i = dgt W i := fun i h1 h2 => by
      have := hq (n - 1 - i) (by omega)
      rw [show n - 1 - (n - 1 - i) = i by omega] at this
      exact this
    rw [← hj] at k2 kk
    have d1 := dgt_lt V j
    have d2 := dgt_lt W j
    rw [show lp (fun y' : Int32 => x2_compareRows_405_B5 t (jn a) (jn b) y') (dn n) = some (.inl (jn j)) from kk, bs]
    unfold cmpV
    rw [if_neg z]
    dsimp only [Sum.elim]
    rw [gd_at jl' ha hB, gd_at jl' hb hB, at_cl jl' ha hB, at_cl jl' hb hB, hV.2 j jl', hW.2 j jl']
    by_cases c : dgt V j < dgt W j
    · rw [if_neg (nle c (by omega)), if_pos (cmp_top hV.1 hW.1 jl' he c)]
    · have c' : dgt W j < dgt V j := by omega
      have := cmp_top hW.1 hV.1 jl' (fun i h1 h2 => (he i h1 h2).symm) c'
      rw [if_pos ((jn_le (by omega) (by omega)).mpr (by omega)), if_neg (by omega)]
/-- a set's value after so many steps -/
def rs (f : Nat → Bool) (c : Nat → Nat) : Nat → Nat → Nat
  | 0, x => if f x then 1 else 0
  | i + 1, x => if x.testBit i then c i * rs f c i x + (1000 - c i) * rs f c i (x ^^^ 2 ^ i) else 1000 * rs f c i x
theorem rs_s (f : Nat → Bool) (c : Nat → Nat) (i x : Nat) : rs f c (i + 1) x = if x.testBit i then c i * rs f c i x + (1000 - c i) * rs f c i (x ^^^ 2 ^ i) else 1000 * rs f c i x := rfl
theorem rs_le {f : Nat → Bool} {c : Nat → Nat} {m : Nat} (hc : ∀ i, i < m → c i ≤ 1000) : ∀ i, i ≤ m → ∀ x, rs f c i x ≤ 1000 ^ i := by
  intro i
  induction i with
  | zero =>
    intro _ x
    show (if f x then 1 else 0) ≤ 1
    cases f x <;> decide
  | succ i ih =>
    intro hi x
    have h1 := ih (by omega) x
    have h2 := ih (by omega) (x ^^^ 2 ^ i)
    have hc := hc i (by omega)
    rw [rs_s, Nat.pow_succ]
    generalize 1000 ^ i = P at *
    by_cases b : x.testBit i = true
    · rw [if_pos b]
      have m1 : c i * rs f c i x ≤ c i * P := Nat.mul_le_mul_left _ h1
      have m2 : (1000 - c i) * rs f c i (x ^^^ 2 ^ i) ≤ (1000 - c i) * P := Nat.mul_le_mul_left _ h2
      have m3 : c i * P + (1000 - c i) * P = 1000 * P := by
        rw [← Nat.add_mul]; congr 1; omega
      omega
    · rw [if_neg b]
      omega
theorem xor_off {x i : Nat} (h : x.testBit i = true) : (x ^^^ 2 ^ i).testBit i = false := by
  rw [Nat.testBit_xor, h, Nat.testBit_two_pow_self]
  rfl
theorem xor_ne {x i : Nat} (h : x.testBit i = true) : x ^^^ 2 ^ i ≠ x := fun e => by
  have := xor_off h
  rw [e, h] at this
  exact absurd this (by decide)
theorem jn_off {x i : Nat} (hx : x < 65536) (hi : i < 16) (h : x.testBit i = true) : jn x &&& (((1 : Int32) <<< (jn i &&& 31)) ^^^ (-1 : Int32)) = jn (x ^^^ 2 ^ i) := by
  rw [jn_shl1 i (by omega)]
  apply Int32.toBitVec.inj
  show BitVec.ofNat 32 x &&& (BitVec.ofNat 32 (2 ^ i) ^^^ (-1 : Int32).toBitVec) = BitVec.ofNat 32 (x ^^^ 2 ^ i)
  rw [bv_m1]
  apply BitVec.eq_of_getLsbD_eq
  intro j hj
  simp only [BitVec.getLsbD_and, BitVec.getLsbD_xor, BitVec.getLsbD_ofNat, BitVec.getLsbD_allOnes, hj, decide_true, Bool.true_and, Nat.testBit_xor, Bool.xor_true, Nat.testBit_two_pow]
  by_cases e : i = j
  · subst e
    simp [h]
  · simp [e]
/-! The reference's rows of sets. -/
theorem letters_eq {t : St} {H K n : Nat} (hn : n ≤ 9) (hK : K < 400) (hH : H < 65536) (h16 : gA t 16 n = jn K) (h15 : gA t 15 K = jn H) (a2 : Int32) : ∃ t', lp (fun x : Int32 × Int32 × St => m_best_B78 (jn n) a2 x.1 x.2.1 x.2.2) ((0 : Int32), (0 : Int32), t) = some (jn (mN H), t') ∧ fx [44] [] t t' ∧ ∀ r, r < mN H → gA t' 44 r = jn (odr H r) := by
  have hm := mN_le H
  have L := lp_cnt (b := fun x : Int32 × Int32 × St => m_best_B78 (jn n) a2 x.1 x.2.1 x.2.2) (fun i s => (jn (rkN H i), jn i, s)) 16
    (fun i s => fx [44] [] t s ∧ ∀ r, r < rkN H i → gA s 44 r = jn (odr H r)) (fun y => y.1 = jn (mN H) ∧ fx [44] [] t y.2 ∧ ∀ r, r < mN H → gA y.2 44 r = jn (odr H r)) (by
      rintro i s hi ⟨w1, w2⟩
      have er : rkN H (i + 1) = if H.testBit i then rkN H i + 1 else rkN H i := by
        unfold rkN
        rw [csL_s]
        by_cases q : H.testBit i
        · rw [if_pos q, if_pos q, List.length_append]; rfl
        · rw [if_neg q, if_neg q]
      dsimp only
      unfold m_best_B78
      rw [show (16 : Int32) = jn 16 from rfl, if_neg (nle hi (by omega)), gd_jn (by omega) (by omega), jn_cl (by omega), (w1.1 16 rfl).2.2.1, h16, gd_jn (by omega) (by omega), jn_cl (by omega), (w1.1 15 rfl).2.2.1, h15, jn_bit (by omega) (by omega)]
      cases hb : H.testBit i with
      | true =>
        have rl := rk_lt hi hb
        rw [hb, if_pos rfl] at er
        rw [if_pos rfl, if_pos (show jn 1 = 1 from rfl), gd_jn (by omega) (by omega)]
        simp only [nm, jn_s]
        rw [← er]
        refine ⟨_, rfl, w1.trans (fx_sA rfl), fun r hr => ?_⟩
        rw [gA_sA, jn_cl (by omega)]
        by_cases e : r = rkN H i
        · subst e; rw [upd_at, odr_rk hi hb]
        · rw [upd_ne e]; exact w2 r (by omega)
      | false =>
        rw [hb, if_neg (by decide)] at er
        rw [if_neg (show ¬ (false = true) by decide), if_neg (show ¬ jn 0 = 1 by decide)]
        simp only [nm, jn_s]
        refine ⟨s, by rw [er], w1, fun r hr => w2 r (by omega)⟩) (by
      rintro s ⟨w1, w2⟩
      exact ⟨(jn (mN H), s), by dsimp only; unfold m_best_B78; rw [if_pos (show (16 : Int32) ≤ jn 16 by decide)]; rfl, rfl, w1, w2⟩) 0 t (Nat.zero_le _) ⟨fx.rfl, fun r hr => absurd hr (Nat.not_lt_zero r)⟩
  obtain ⟨⟨y, t'⟩, k, rfl, k1, k2⟩ := L
  exact ⟨t', k, k1, k2⟩
theorem spread_eq {t : St} {H q : Nat} (h44 : ∀ r, r < mN H → gA t 44 r = jn (odr H r)) (hq : q < 65536) : m_spread t (jn q) (jn (mN H)) = some (jn (wd H q)) := by
  have hm := mN_le H
  have l := lp_cnt (b := fun y : Int32 × Int32 => m_spread_B5 t (jn q) (jn (mN H)) y.1 y.2) (fun i z => (z, jn i)) (mN H)
    (fun i z => z = jn (orr (fun r => if q.testBit r then 2 ^ odr H r else 0) i))
    (fun z => z = jn (wd H q)) (by
      rintro i z hi rfl
      obtain ⟨o1, o2, o3⟩ := odr_ok hi
      refine ⟨_, ?_, rfl⟩
      dsimp only
      unfold m_spread_B5
      rw [if_neg (nle hi (by omega)), jn_bit (by omega) (by omega)]
      show _ = some (Sum.inl (jn (orr (fun r => if q.testBit r then 2 ^ odr H r else 0) i ||| (if q.testBit i then 2 ^ odr H i else 0)), jn (i + 1)))
      cases q.testBit i with
      | true =>
        rw [if_pos rfl, if_pos (show jn 1 = 1 from rfl), gd_jn (by omega) (by omega), jn_cl (by omega), h44 i hi, jn_shl1 _ (by omega), jn_or]
        simp only [nm, jn_s]
        rfl
      | false =>
        rw [if_neg (show ¬ (false = true) by decide), if_neg (show ¬ jn 0 = 1 by decide), show (0 : Int32) = jn 0 from rfl, jn_or]
        simp only [nm, jn_s]
        rfl) (by
      rintro z rfl
      exact ⟨_, by dsimp only; unfold m_spread_B5; rw [if_pos (lee (by omega))]; unfold wd; rfl, rfl⟩) 0 (jn 0) (by omega) rfl
  obtain ⟨z, k1, rfl⟩ := l
  unfold m_spread
  rw [show ((0 : Int32), (0 : Int32)) = (jn 0, jn 0) from rfl, k1, bs]
theorem reached_fx {S T : List Nat} {t u : St} (hx : fx S T t u) (h : S.elem 17 = false := by rfl) (a b : Int32) : m_isReached u a b = m_isReached t a b := by
  unfold m_isReached
  rw [(hx.1 17 h).2.2.2]
/-- slots of the sets -/
def Sv (t : St) (M : Nat) (V : Nat → Nat) : Prop := ∀ x, x < M → BM t (402 + x) (V x)
theorem j402 (x : Nat) : (402 : Int32) + jn x = jn (402 + x) := by
  rw [show (402 : Int32) = jn 402 from rfl, jn_add]
theorem fill_eq {tx tm t : St} (hK : RK tx tm) (hR : RR tx tm) {K n : Nat} (hk : K < nK tm) (hn : n ≤ 9) (hx : ∀ a b, m_isReached t a b = m_isReached tm a b) (h16 : gA t 16 n = jn K) (h44 : ∀ r, r < mN (kH tm K) → gA t 44 r = jn (odr (kH tm K) r)) (hm : mN (kH tm K) ≤ 12) (a2 : Int32) : ∃ t', lp (fun x : Int32 × St => m_best_B132 (jn n) a2 (jn (mN (kH tm K))) (jn (2 ^ mN (kH tm K))) x.1 x.2) ((0 : Int32), t) = some t' ∧ fx [34] [] t t' ∧ Sv t' (2 ^ mN (kH tm K)) (rs (rwF tm (kH tm K) K) (fun _ => 0) 0) := by
  have p12 : 2 ^ mN (kH tm K) ≤ 2 ^ 12 := Nat.pow_le_pow_right (by omega) hm
  have e12 : (2 : Nat) ^ 12 = 4096 := rfl
  have L := lp_cnt (b := fun x : Int32 × St => m_best_B132 (jn n) a2 (jn (mN (kH tm K))) (jn (2 ^ mN (kH tm K))) x.1 x.2) (fun i s => (jn i, s)) (2 ^ mN (kH tm K))
    (fun i s => fx [34] [] t s ∧ Sv s i (rs (rwF tm (kH tm K) K) (fun _ => 0) 0)) (fun s => fx [34] [] t s ∧ Sv s (2 ^ mN (kH tm K)) (rs (rwF tm (kH tm K) K) (fun _ => 0) 0)) (by
      rintro i s hi ⟨w1, w2⟩
      have J : ∀ v : Nat, v < 1073741824 → ∃ s', m_best_J172 s (jn n) a2 (jn (mN (kH tm K))) (jn (2 ^ mN (kH tm K))) (jn i) (jn (402 + i)) (jn v) = some (.inl (jn (i + 1), s')) ∧ Sl [402 + i] s s' ∧ BM s' (402 + i) v := fun v hv => by
        obtain ⟨s', a1, a2, a3⟩ := puts_eq (t := s) (x := 402 + i) (v := v) (by omega) hv
        refine ⟨s', ?_, a2, a3⟩
        unfold m_best_J172
        rw [a1, bs]
        simp only [nm, jn_s]
      obtain ⟨s', b1, b2, b3⟩ := J (if rwF tm (kH tm K) K i then 1 else 0) (by split <;> omega)
      refine ⟨s', ?_, w1.trans b2.1, fun x hx => ?_⟩
      · dsimp only
        unfold m_best_B132
        rw [if_neg (nle hi (by omega)), gd_jn (by omega) (by omega), spread_eq (fun r hr => by rw [(w1.1 44 rfl).2.2.1]; exact h44 r hr) (by omega), bs, reached_fx w1, hx, jn_cl (by omega), (w1.1 16 rfl).2.2.1, h16, m_isReached_eq hK hR hk (wd_lt _ _), bs, j402]
        rw [← b1]
        show (if b01 (rwF tm (kH tm K) K i) = 0 then _ else _) = _
        cases rwF tm (kH tm K) K i with
        | true => rw [if_neg (by decide)]; rfl
        | false => rw [if_pos (by decide)]; rfl
      · by_cases c : x = i
        · subst c; exact b3
        · exact (w2 x (by omega)).sl1 b2 (by omega)) (by
      rintro s hs
      exact ⟨s, by dsimp only; unfold m_best_B132; rw [if_pos (lee (by omega))], hs⟩) 0 t (Nat.zero_le _) ⟨fx.rfl, fun x hx => absurd hx (Nat.not_lt_zero x)⟩
  exact L
theorem pass1_eq {t : St} {m i : Nat} {f : Nat → Bool} {c : Nat → Nat} (hm : m ≤ 12) (hi : i < m) (hc : ∀ j, j < m → c j ≤ 1000) (hS : Sv t (2 ^ m) (rs f c i)) (a2 a5 a6 : Int32) : ∃ t', lp (fun x : Int32 × St => m_best_B211 a2 a5 a6 (jn i) (jn (c i)) x.1 x.2) (dn (2 ^ m), t) = some t' ∧ fx [34] [] t t' ∧ Sv t' (2 ^ m) (fun x => if x.testBit i then rs f c (i + 1) x else rs f c i x) := by
  have p12 : 2 ^ m ≤ 2 ^ 12 := Nat.pow_le_pow_right (by omega) hm
  have e12 : (2 : Nat) ^ 12 = 4096 := rfl
  have b16 := p16
  have le := rs_le (f := f) hc
  have u16 : ∀ j, j ≤ 16 → 1000 ^ j ≤ 1000 ^ 16 := fun j hj => Nat.pow_le_pow_right (by omega) hj
  have L := lp_cnt (b := fun x : Int32 × St => m_best_B211 a2 a5 a6 (jn i) (jn (c i)) x.1 x.2) (fun k s => (dn (2 ^ m - k), s)) (2 ^ m)
    (fun k s => fx [34] [] t s ∧ Sv s (2 ^ m) (fun x => if x.testBit i = true ∧ 2 ^ m - k ≤ x then rs f c (i + 1) x else rs f c i x)) (fun s => fx [34] [] t s ∧ Sv s (2 ^ m) (fun x => if x.testBit i = true ∧ 0 ≤ x then rs f c (i + 1) x else rs f c i x)) (by
      rintro k s hk ⟨w1, w2⟩
      obtain ⟨x, hx⟩ : ∃ x, x = 2 ^ m - (k + 1) := ⟨_, rfl⟩
      have e1 : 2 ^ m - k = x + 1 := by omega
      have xl : x < 2 ^ m := by omega
      rw [e1] at w2
      rw [← hx, e1, dn_s]
      have c1 := hc i hi
      by_cases b : x.testBit i = true
      · have xo : x ^^^ 2 ^ i < 2 ^ m := Nat.xor_lt_two_pow xl (Nat.pow_lt_pow_right (by omega) hi)
        have v1 := w2 x xl
        dsimp only at v1
        rw [if_neg (by omega)] at v1
        have v2 := w2 (x ^^^ 2 ^ i) xo
        dsimp only at v2
        rw [if_neg (fun e => by rw [xor_off b] at e; exact absurd e.1 (by decide))] at v2
        have l1 := le i (by omega) x
        have l2 := le i (by omega) (x ^^^ 2 ^ i)
        have l3 := le (i + 1) hi x
        rw [rs_s, if_pos b] at l3
        have u1 := u16 (i + 1) (by omega)
        obtain ⟨s1, d1, d2, d3⟩ := takes_eq (x := 4502) (y := 402 + (x ^^^ 2 ^ i)) (by omega) (by omega) (by omega) v2
        have m2 : rs f c i (x ^^^ 2 ^ i) * (1000 - c i) < Bp 7 := by rw [Nat.mul_comm]; omega
        obtain ⟨s2, e1, e2, e3⟩ := times_eq (x := 4502) (v := 1000 - c i) (by omega) (by omega) d3 m2
        have v1' := (v1.sl1 d2 (by omega)).sl1 e2 (by omega)
        have m1 : rs f c i x * c i < Bp 7 := by rw [Nat.mul_comm]; omega
        obtain ⟨s3, g1, g2, g3⟩ := times_eq (x := 402 + x) (v := c i) (by omega) c1 v1' m1
        have e4 := e3.sl1 g2 (by omega)
        obtain ⟨s4, h1, h2, h3⟩ := adds_eq (x := 402 + x) (y := 4502) (by omega) (by omega) (by omega) g3 e4 (by rw [Nat.mul_comm, Nat.mul_comm _ (1000 - c i)]; omega)
        refine ⟨s4, ?_, w1.trans (d2.1.trans (e2.1.trans (g2.1.trans h2.1))), fun y hy => ?_⟩
        · dsimp only
          unfold m_best_B211
          rw [if_neg (jn_neg (by omega)), jn_bit (by omega) (by omega), if_pos b, if_pos (show jn 1 = 1 from rfl), jn_off (by omega) (by omega) b, j402, j402, show (4502 : Int32) = jn 4502 from rfl, d1, bs, show (1000 : Int32) = jn 1000 from rfl, jn_sub c1, e1, bs, g1, bs, h1, bs, dn_pred]
          rfl
        · by_cases q : y = x
          · subst q
            dsimp only
            rw [if_pos ⟨b, by omega⟩, rs_s, if_pos b, Nat.mul_comm (c i), Nat.mul_comm (1000 - c i)]
            exact h3
          · have v := w2 y hy
            dsimp only at v ⊢
            have : (y.testBit i = true ∧ x ≤ y) ↔ (y.testBit i = true ∧ x + 1 ≤ y) := by
              constructor
              · rintro ⟨z1, z2⟩; exact ⟨z1, by omega⟩
              · rintro ⟨z1, z2⟩; exact ⟨z1, by omega⟩
            simp only [this]
            exact (((v.sl1 d2 (by omega)).sl1 e2 (by omega)).sl1 g2 (by omega)).sl1 h2 (by omega)
      · refine ⟨s, ?_, w1, fun y hy => ?_⟩
        · dsimp only
          unfold m_best_B211
          rw [if_neg (jn_neg (by omega)), jn_bit (by omega) (by omega), if_neg b, if_neg (show ¬ jn 0 = 1 by decide), dn_pred]
          rfl
        · have v := w2 y hy
          dsimp only at v ⊢
          have : (y.testBit i = true ∧ x ≤ y) ↔ (y.testBit i = true ∧ x + 1 ≤ y) := by
            constructor
            · rintro ⟨z1, z2⟩
              refine ⟨z1, ?_⟩
              by_cases q : y = x
              · rw [q] at z1; exact absurd z1 b
              · omega
            · rintro ⟨z1, z2⟩; exact ⟨z1, by omega⟩
          simp only [this]
          exact v) (by
      rintro s ⟨w1, w2⟩
      rw [Nat.sub_self] at w2 ⊢
      exact ⟨s, by dsimp only; unfold m_best_B211; rw [if_pos (show dn 0 < 0 by decide)], w1, w2⟩) 0 t (Nat.zero_le _) ⟨fx.rfl, fun x hx => by
        dsimp only
        rw [if_neg (by omega)]
        exact hS x hx⟩
  obtain ⟨s, k, k1, k2⟩ := L
  rw [Nat.sub_zero] at k
  refine ⟨s, k, k1, fun x hx => ?_⟩
  have v := k2 x hx
  dsimp only at v ⊢
  by_cases b : x.testBit i = true
  · rw [if_pos ⟨b, Nat.zero_le _⟩] at v
    rw [if_pos b]; exact v
  · rw [if_neg (fun e => b e.1)] at v
    rw [if_neg b]; exact v
theorem pass2_eq {t : St} {m i : Nat} {f : Nat → Bool} {c : Nat → Nat} (hm : m ≤ 12) (hi : i < m) (hc : ∀ j, j < m → c j ≤ 1000) (hS : Sv t (2 ^ m) (fun x => if x.testBit i then rs f c (i + 1) x else rs f c i x)) (a2 a5 : Int32) : ∃ t', lp (fun x : Int32 × St => m_best_B294 a2 a5 (jn (2 ^ m)) (jn i) x.1 x.2) ((0 : Int32), t) = some t' ∧ fx [34] [] t t' ∧ Sv t' (2 ^ m) (rs f c (i + 1)) := by
  have p12 : 2 ^ m ≤ 2 ^ 12 := Nat.pow_le_pow_right (by omega) hm
  have e12 : (2 : Nat) ^ 12 = 4096 := rfl
  have b16 := p16
  have le := rs_le (f := f) hc
  have u16 : ∀ j, j ≤ 16 → 1000 ^ j ≤ 1000 ^ 16 := fun j hj => Nat.pow_le_pow_right (by omega) hj
  have L := lp_cnt (b := fun x : Int32 × St => m_best_B294 a2 a5 (jn (2 ^ m)) (jn i) x.1 x.2) (fun k s => (jn k, s)) (2 ^ m)
    (fun k s => fx [34] [] t s ∧ ∀ x, x < 2 ^ m → BM s (402 + x) (if x.testBit i = true ∨ x < k then rs f c (i + 1) x else rs f c i x)) (fun s => fx [34] [] t s ∧ ∀ x, x < 2 ^ m → BM s (402 + x) (if x.testBit i = true ∨ x < 2 ^ m then rs f c (i + 1) x else rs f c i x)) (by
      rintro k s hk ⟨w1, w2⟩
      have v := w2 k hk
      have l3 := le (i + 1) hi k
      have u1 := u16 (i + 1) (by omega)
      by_cases b : k.testBit i = true
      · refine ⟨s, ?_, w1, fun y hy => ?_⟩
        · dsimp only
          unfold m_best_B294
          rw [if_neg (nle hk (by omega)), jn_bit (by omega) (by omega), if_pos b, if_neg (show ¬ jn 1 = 0 by decide)]
          simp only [nm, jn_s]
        · have w := w2 y hy
          have : (y.testBit i = true ∨ y < k + 1) ↔ (y.testBit i = true ∨ y < k) := by
            by_cases q : y = k
            · rw [q]; exact ⟨fun _ => Or.inl b, fun _ => Or.inl b⟩
            · constructor
              · rintro (z | z); exact Or.inl z; exact Or.inr (by omega)
              · rintro (z | z); exact Or.inl z; exact Or.inr (by omega)
          simp only [this]
          exact w
      · rw [if_neg (by rintro (z | z); exact b z; omega)] at v
        rw [rs_s, if_neg b] at l3
        have b16' : 1000 ^ 16 < Bp 7 := Nat.lt_of_le_of_lt (Nat.le_mul_of_pos_right _ (by omega)) b16
        obtain ⟨s', d1, d2, d3⟩ := times_eq (x := 402 + k) (v := 1000) (by omega) (by omega) v (by rw [Nat.mul_comm]; exact Nat.lt_of_le_of_lt (Nat.le_trans l3 u1) b16')
        refine ⟨s', ?_, w1.trans d2.1, fun y hy => ?_⟩
        · dsimp only
          unfold m_best_B294
          rw [if_neg (nle hk (by omega)), jn_bit (by omega) (by omega), if_neg b, if_pos (show jn 0 = 0 from rfl), j402, show (1000 : Int32) = jn 1000 from rfl, d1, bs]
          simp only [nm, jn_s]
        · by_cases q : y = k
          · subst q
            rw [if_pos (Or.inr (by omega)), rs_s, if_neg b, Nat.mul_comm]
            exact d3
          · have w := w2 y hy
            have : (y.testBit i = true ∨ y < k + 1) ↔ (y.testBit i = true ∨ y < k) := by
              constructor
              · rintro (z | z); exact Or.inl z; exact Or.inr (by omega)
              · rintro (z | z); exact Or.inl z; exact Or.inr (by omega)
            simp only [this]
            exact w.sl1 d2 (by omega)) (by
      rintro s hs
      exact ⟨s, by dsimp only; unfold m_best_B294; rw [if_pos (lee (by omega))], hs⟩) 0 t (Nat.zero_le _) ⟨fx.rfl, fun x hx => by
        have v := hS x hx
        dsimp only at v
        by_cases b : x.testBit i = true
        · rw [if_pos (Or.inl b)]; rw [if_pos b] at v; exact v
        · rw [if_neg (by rintro (z | z); exact b z; omega)]; rw [if_neg b] at v; exact v⟩
  obtain ⟨s, k, k1, k2⟩ := L
  refine ⟨s, k, k1, fun x hx => ?_⟩
  have v := k2 x hx
  rw [if_pos (Or.inr hx)] at v
  exact v
theorem sets_eq {tx t : St} {m H : Nat} {f : Nat → Bool} {c : Nat → Nat} (hmH : mN H = m) (hm : m ≤ 12) (hc : ∀ j, j < m → c j ≤ 1000 ∧ gA t 2 (odr H j) = jn (c j)) (h44 : ∀ r, r < m → gA t 44 r = jn (odr H r)) (hS : Sv t (2 ^ m) (rs f c 0)) (a2 : Int32) : ∃ t', lp (fun x : Int32 × St => m_best_B184 a2 (jn m) (jn (2 ^ m)) x.1 x.2) ((0 : Int32), t) = some t' ∧ fx [34] [] t t' ∧ Sv t' (2 ^ m) (rs f c m) := by
  have p12 : 2 ^ m ≤ 2 ^ 12 := Nat.pow_le_pow_right (by omega) hm
  have e12 : (2 : Nat) ^ 12 = 4096 := rfl
  have L := lp_cnt (b := fun x : Int32 × St => m_best_B184 a2 (jn m) (jn (2 ^ m)) x.1 x.2) (fun k s => (jn k, s)) m
    (fun k s => fx [34] [] t s ∧ Sv s (2 ^ m) (rs f c k)) (fun s => fx [34] [] t s ∧ Sv s (2 ^ m) (rs f c m)) (by
      rintro i s hi ⟨w1, w2⟩
      obtain ⟨o1, -, -⟩ := odr_ok (show i < mN H by omega)
      obtain ⟨s1, a1, b1, d1⟩ := pass1_eq hm hi (fun j hj => (hc j hj).1) w2 a2 (jn m) (jn (2 ^ m))
      obtain ⟨s2, a3, b3, d3⟩ := pass2_eq hm hi (fun j hj => (hc j hj).1) d1 a2 (jn m)
      refine ⟨s2, ?_, w1.trans (b1.trans b3), d3⟩
      dsimp only
      unfold m_best_B184
      rw [if_neg (nle hi (by omega)), gd_jn (by omega) (by omega), jn_cl (by omega), (w1.1 44 rfl).2.2.1, h44 i hi, gd_jn (by omega) (by omega), jn_cl (by omega), (w1.1 2 rfl).2.2.1, (hc i hi).2]
      simp only [nm]
      rw [show jn (2 ^ m) - 1 = dn (2 ^ m) from by
        rw [Int32.sub_eq_add_neg]; exact dn_pred _, a1, bs, show lp (fun x : Int32 × St => m_best_B294 a2 (jn m) (jn (2 ^ m)) (jn i) x.1 x.2) ((0 : Int32), s1) = some s2 from a3, bs, jn_s]) (by
      rintro s hs
      exact ⟨s, by dsimp only; unfold m_best_B184; rw [if_pos (lee (by omega))], hs⟩) 0 t (Nat.zero_le _) ⟨fx.rfl, hS⟩
  exact L
