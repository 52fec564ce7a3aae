/-! What a set of steps reaches. -/
def cntB (f : Nat → Bool) (n : Nat) : Nat := smm (fun i => if f i then 1 else 0) n
def kE (tm : St) (k : Nat) : Nat := if kS tm k = 1 then 1 else if kS tm k = 4 then kD tm k else kN tm k
def rchF (tm : St) : Nat → Nat → Nat → Bool
  | 0, _, _ => false
  | f + 1, k, set => if kS tm k = 0 then set.testBit (kT tm k) else decide (kE tm k ≤ cntB (fun i => rchF tm f (kP tm k i) set) (kN tm k))
def rch (tm : St) (k set : Nat) : Bool := rchF tm (k + 1) k set
theorem cntB_cong {f g : Nat → Bool} {n : Nat} (h : ∀ i, i < n → f i = g i) : cntB f n = cntB g n := smm_cong fun i hi => by rw [h i hi]
theorem cntB_le (f : Nat → Bool) (n : Nat) : cntB f n ≤ n := by
  have := smm_le (f := fun i => if f i then 1 else 0) (n := n) (w := 1) (fun i _ => by split <;> omega)
  unfold cntB
  omega
theorem kP_lt {tx tm : St} (h : RK tx tm) {k i : Nat} (hk : k < nK tm) (hs : kS tm k ≠ 0) (hi : i < kN tm k) : kP tm k i < k := by
  obtain ⟨s1, s2, s3, d1, d2, d3, h1, h2, h3, m1, m2, q1, q2⟩ := h.2.2.2 k hk
  exact ((q2 hs).2.2.2.2.2.2.2.1 i hi).2.2
theorem rchF_eq {tx tm : St} (h : RK tx tm) : ∀ f k set, k < f → k < nK tm → rchF tm f k set = rch tm k set := by
  have key : ∀ k, ∀ f set, k < f → k < nK tm → rchF tm f k set = rchF tm (k + 1) k set := by
    intro k
    induction k using Nat.strongRecOn with
    | _ k ih =>
      intro f set hf hk
      cases f with
      | zero => omega
      | succ f =>
        show (if kS tm k = 0 then set.testBit (kT tm k) else decide (kE tm k ≤ cntB (fun i => rchF tm f (kP tm k i) set) (kN tm k))) = (if kS tm k = 0 then set.testBit (kT tm k) else decide (kE tm k ≤ cntB (fun i => rchF tm k (kP tm k i) set) (kN tm k)))
        by_cases q : kS tm k = 0
        · rw [if_pos q, if_pos q]
        · rw [if_neg q, if_neg q, cntB_cong (g := fun i => rchF tm k (kP tm k i) set) (fun i hi => by
            have hp := kP_lt h hk q hi
            rw [ih _ hp f set (by omega) (by omega), ih _ hp k set hp (by omega)])]
  exact fun f k set h1 h2 => key k f set h1 h2
theorem rch_eq {tx tm : St} (h : RK tx tm) {k : Nat} (hk : k < nK tm) (set : Nat) : rch tm k set = if kS tm k = 0 then set.testBit (kT tm k) else decide (kE tm k ≤ cntB (fun i => rch tm (kP tm k i) set) (kN tm k)) := by
  show (if kS tm k = 0 then set.testBit (kT tm k) else decide (kE tm k ≤ cntB (fun i => rchF tm k (kP tm k i) set) (kN tm k))) = _
  by_cases q : kS tm k = 0
  · rw [if_pos q, if_pos q]
  · rw [if_neg q, if_neg q, cntB_cong (g := fun i => rch tm (kP tm k i) set) (fun i hi => by
      have hp := kP_lt h hk q hi
      exact rchF_eq h k _ set hp (by omega))]
def b01 (b : Bool) : Int32 := if b then 1 else 0
def wb (x : Int64) (j : Nat) : Bool := x.toBitVec.getLsbD j
theorem smod64 : ∀ m : Nat, m < 64 → ((jn m).toInt64 &&& 63).toBitVec.smod 64 = BitVec.ofNat 64 m := by decide +kernel
theorem bit64 {x : Int64} {m : Nat} (hm : m < 64) : (x >>> ((jn m).toInt64 &&& 63)) &&& (1 : Int64) = if wb x m then 1 else 0 := by
  apply Int64.toBitVec.inj
  show BitVec.sshiftRight' x.toBitVec (((jn m).toInt64 &&& 63).toBitVec.smod 64) &&& 1#64 = _
  rw [smod64 m hm, BitVec.sshiftRight', BitVec.toNat_ofNat, Nat.mod_eq_of_lt (by omega)]
  apply BitVec.eq_of_getLsbD_eq
  intro i hi
  rw [BitVec.getLsbD_and, BitVec.getLsbD_sshiftRight]
  unfold wb
  by_cases e : i = 0
  · subst e
    have h1 : ¬ 64 ≤ 0 := by omega
    have h2 : m + 0 < 64 := by omega
    simp only [h1, decide_false, Bool.not_false, Bool.true_and, h2, if_true, Nat.add_zero]
    have h4 : ¬ 64 ≤ m := by omega
    cases x.toBitVec.getLsbD m <;> simp [hm, h4]
  · have h3 : (1#64).getLsbD i = false := by
      rw [BitVec.getLsbD_one]
      simp [e]
    rw [h3, Bool.and_false]
    cases x.toBitVec.getLsbD m
    · show false = (0#64).getLsbD i
      simp
    · show false = (1#64).getLsbD i
      exact h3.symm
theorem lcmp_iff {x y : Int64} : lg_cmp x y = 0 ↔ x = y := by
  unfold lg_cmp
  constructor
  · intro h
    split at h
    · exact absurd h (by decide)
    · split at h
      · next q => exact by simpa using q
      · exact absurd h (by decide)
  · rintro rfl
    simp
def RR (_ tm : St) : Prop := ∀ k w j, k < nK tm → w < 1024 → j < 64 → wb (gB tm 17 (1024 * k + w)) j = rch tm k (64 * w + j)
theorem m_isReached_eq {tx tm : St} (hK : RK tx tm) (h : RR tx tm) {k set : Nat} (hk : k < nK tm) (hs : set < 65536) : m_isReached tm (jn k) (jn set) = some (b01 (rch tm k set)) := by
  have h250 := nK_lt hK
  unfold m_isReached
  have e1 : jn set >>> ((6 : Int32) &&& 31) = jn (set / 64) := by
    have := jn_shr (a := set) (k := 6) (by omega) (by omega)
    rw [Nat.shiftRight_eq_div_pow] at this
    exact this
  have e2 : jn set &&& 63 = jn (set % 64) := by
    rw [show (63 : Int32) = jn 63 from rfl, jn_and]
    congr 1
    exact Nat.and_two_pow_sub_one_eq_mod set 6
  rw [e1, e2, show (1024 : Int32) = jn 1024 from rfl, jn_mul, jn_add, gd_jn (by omega) (by omega), jn_cl (by omega), bit64 (Nat.mod_lt _ (by omega)), h k (set / 64) (set % 64) hk (by omega) (Nat.mod_lt _ (by omega)), show 64 * (set / 64) + set % 64 = set by omega]
  unfold b01
  cases rch tm k set
  · rw [if_neg (by rw [lcmp_iff]; decide)]
    rfl
  · rw [if_pos (by rw [lcmp_iff]; rfl)]
    rfl
/-! the class: knot by knot -/
theorem x_enough {tx tm : St} (hK : RK tx tm) {k : Nat} (hk : k < nK tm) (hs : kS tm k ≠ 0) : x6_enough tx (jn k) = some (jn (kE tm k)) := by
  have h250 := nK_lt hK
  obtain ⟨⟨z3, z4, z5, z6, z7⟩, -, -, hall⟩ := hK
  obtain ⟨s1, s2, s3, d1, d2, d3, h1, h2, h3, m1, m2, q1, q2⟩ := hall k hk
  have g3 : ∀ {α : Type} (x : Option α), gd (jn k) 330 x = x := fun x => gd_jn (by omega) (by omega)
  unfold x6_enough kE
  rw [z3, z4, z5]
  simp only [g3]
  rw [jn_cl (by omega), s3, s1, d3, d1, (q2 hs).1, m1]
  by_cases a : kS tm k = 1
  · rw [a, if_pos (by decide), if_pos rfl]
    rfl
  · have a' : ¬ jn (kS tm k) = (1 : Int32) := fun e => a ((jn_inj (b := 1) (by omega) (by omega)).mp e)
    rw [if_neg a', if_neg a]
    by_cases b : kS tm k = 4
    · rw [b, if_pos (by decide), if_pos rfl]
    · have b' : ¬ jn (kS tm k) = (4 : Int32) := fun e => b ((jn_inj (b := 4) (by omega) (by omega)).mp e)
      rw [if_neg b', if_neg b]
theorem x_isOn {tx tm : St} (hK : RK tx tm) (hO : gN tx 611 = 330) {k set : Nat} (hk : k < nK tm) (hset : set < 65536) (hon : ∀ p, p < k → gA tx 611 p = b01 (rch tm p set)) : x6_knotIsOn tx (jn k) (jn set) = some (b01 (rch tm k set)) := by
  have hK0 := hK
  have h250 := nK_lt hK
  obtain ⟨⟨z3, z4, z5, z6, z7⟩, -, ⟨p1, p2, p3, p4, p5, p6⟩, hall⟩ := hK
  obtain ⟨s1, s2, s3, d1, d2, d3, h1, h2, h3, m1, m2, q1, q2⟩ := hall k hk
  have g3 : ∀ {α : Type} (x : Option α), gd (jn k) 330 x = x := fun x => gd_jn (by omega) (by omega)
  have ck : (jn k).toNatClampNeg = k := jn_cl (by omega)
  rw [rch_eq hK0 hk]
  unfold x6_knotIsOn
  rw [z3, z4, g3, g3, ck, s3, s1]
  by_cases q : kS tm k = 0
  · obtain ⟨t1, t2, t3, -⟩ := q1 q
    rw [q, if_pos (by decide), if_pos rfl, t3, t1]
    cases hb : set.testBit (kT tm k) with
    | true => rw [if_pos ((bit_iff (by omega) (by omega)).mpr hb)]; rfl
    | false => rw [if_neg (fun e => by rw [(bit_iff (by omega) (by omega)).mp e] at hb; cases hb)]; rfl
  · rw [if_neg (jn_nz q (by omega)), if_neg q]
    obtain ⟨e1, e2, e3, e4, e5, -, -, e6, -⟩ := q2 q
    have loop : ∀ m i, i + m = kN tm k → lp (fun x : Int32 × Int32 => x6_knotIsOn_B34 tx (jn k) x.1 x.2) (jn (cntB (fun i => rch tm (kP tm k i) set) i), jn i) = some (jn (cntB (fun i => rch tm (kP tm k i) set) (kN tm k))) := by
      intro m
      induction m with
      | zero =>
        intro i hi
        have : i = kN tm k := by omega
        subst this
        exact lp_r (by dsimp only; unfold x6_knotIsOn_B34; rw [z4, g3, ck, e1, m1, if_pos (lee (by omega))])
      | succ m ih =>
        intro i hi
        have hi2 : i < kN tm k := by omega
        obtain ⟨v1, v2, v3⟩ := e6 i hi2
        have cl := cntB_le (fun i => rch tm (kP tm k i) set) i
        have b : (fun x : Int32 × Int32 => x6_knotIsOn_B34 tx (jn k) x.1 x.2) (jn (cntB (fun i => rch tm (kP tm k i) set) i), jn i) = some (.inl (jn (cntB (fun i => rch tm (kP tm k i) set) (i + 1)), jn (i + 1))) := by
          dsimp only
          unfold x6_knotIsOn_B34 x6_partOf
          rw [z4, z6, g3, g3, ck, e1, m1, if_neg (nle hi2 (by omega)), e4, e3, jn_add, gd_jn (by omega) (by omega), jn_cl (by omega), v1, v2, bs, hO, gd_jn (by omega) (by omega), jn_cl (by omega), hon _ v3]
          have ec : cntB (fun i => rch tm (kP tm k i) set) (i + 1) = cntB (fun i => rch tm (kP tm k i) set) i + (if rch tm (kP tm k i) set then 1 else 0) := rfl
          rw [ec]
          cases rch tm (kP tm k i) set with
          | false =>
            rw [if_pos (show b01 false = 0 from rfl)]
            simp only [nm, jn_s]
            rfl
          | true =>
            rw [if_neg (show ¬ b01 true = 0 by decide)]
            simp only [nm, jn_s]
            rfl
        rw [lp_l b]
        exact ih (i + 1) (by omega)
    rw [show ((0 : Int32), (0 : Int32)) = (jn (cntB (fun i => rch tm (kP tm k i) set) 0), jn 0) from rfl, loop (kN tm k) 0 (by omega), bs, x_enough hK0 hk q, bs]
    have cl := cntB_le (fun i => rch tm (kP tm k i) set) (kN tm k)
    have kEl : kE tm k ≤ 40 := by
      unfold kE
      split
      · omega
      · split <;> omega
    by_cases c : kE tm k ≤ cntB (fun i => rch tm (kP tm k i) set) (kN tm k)
    · rw [if_neg (fun e => by have := (jn_lt (by omega) (by omega)).mp e; omega), decide_eq_true c]
      rfl
    · rw [if_pos ((jn_lt (by omega) (by omega)).mpr (by omega)), decide_eq_false c]
      rfl
theorem x_reached {tx tm : St} (hK : RK tx tm) (hO : gN tx 611 = 330) {k set : Nat} (hk : k < nK tm) (hset : set < 65536) : ∃ tx', x6_isReachedBy tx (jn k) (jn set) = some (b01 (rch tm k set), tx') ∧ fx [611] [] tx tx' := by
  have h250 := nK_lt hK
  have h := lp_cnt (b := fun x : Int32 × St => x6_isReachedBy_B2 (jn k) (jn set) x.1 x.2) (fun i s => (jn i, s)) (k + 1)
    (fun i s => fx [611] [] tx s ∧ ∀ p, p < i → gA s 611 p = b01 (rch tm p set))
    (fun s => fx [611] [] tx s ∧ ∀ p, p < k + 1 → gA s 611 p = b01 (rch tm p set)) (by
      rintro i s hi ⟨hf, h1⟩
      dsimp only
      unfold x6_isReachedBy_B2
      rw [if_neg (fun e => by have := (jn_lt (by omega) (by omega)).mp e; omega), x_isOn (hK.fr (S := [611]) (T := []) hf (fx.rfl (S := []) (T := []))) ((hf.2 611 rfl).trans hO) (show i < nK tm by omega) hset h1, bs, (hf.2 611 rfl).trans hO, gd_jn (by omega) (by omega)]
      simp only [nm, jn_s]
      refine ⟨_, rfl, hf.trans (fx_sA rfl), ?_⟩
      intro p hp
      rw [gA_sA, jn_cl (by omega)]
      by_cases e : p = i
      · subst e
        rw [upd_at]
        unfold b01
        cases rch tm p set <;> rfl
      · rw [upd_ne e]
        exact h1 p (by omega)) (by
      rintro s hs
      exact ⟨s, by dsimp only; unfold x6_isReachedBy_B2; rw [if_pos ((jn_lt (by omega) (by omega)).mpr (by omega))], hs⟩) 0 tx (by omega) ⟨fx.rfl, fun p hp => absurd hp (by omega)⟩
  obtain ⟨s, j, jf, j1⟩ := h
  refine ⟨s, ?_, jf⟩
  unfold x6_isReachedBy
  rw [show (0 : Int32) = jn 0 from rfl, j, bs, (jf.2 611 rfl).trans hO, gd_jn (by omega) (by omega), jn_cl (by omega), j1 k (by omega)]
  unfold bz b01
  cases rch tm k set <;> rfl
theorem op_reaches {tx tm : St} (hK : RK tx tm) (hN : RN tx tm) (hR : RR tx tm) (hO : gN tx 611 = 330) (a1 a2 : Int32) : ∃ r tx', x11_reaches tx a1 a2 = some (r, tx') ∧ m_reaches tm a1 a2 = some r := by
  have h250 := nK_lt hK
  unfold x11_reaches m_reaches m_isSet
  rcases io a1 0 9 with ⟨n, l1, u1, rfl⟩ | n1
  · simp only [noNet_T u1, bs, if_true]
    rcases io a2 0 65535 with ⟨set, l2, u2, rfl⟩ | n2
    · have e2 : ∀ t, x11_outside t (jn set) 0 65535 = some 0 := oT l2 u2 (by decide)
      have f2 : ∀ t, m_in t (jn set) 0 65535 = some 1 := iT l2 u2 (by decide)
      simp only [e2, f2, bs, if_true]
      obtain ⟨i1, i2⟩ := hN.2 n (by omega)
      have g10 : ∀ {α : Type} (x : Option α), gd (jn n) 10 x = x := fun x => gd_jn (by omega) (by omega)
      rw [hN.1, g10, g10, jn_cl (by omega), i1]
      simp only [nm]
      rcases i2 with i2 | ⟨k, hk, i2⟩
      · rw [why_no u1 i2, i2, bs, if_neg (by decide), if_neg (by decide)]
        exact ⟨-3, tx, rfl, rfl⟩
      · obtain ⟨tx', k1, k2⟩ := x_reached hK hO hk (show set < 65536 by omega)
        rw [why_ok u1 i2 (by omega), i2, bs, if_pos rfl, if_pos (jn_nn (by omega)), k1, bs, m_isReached_eq hK hR hk (by omega), bs]
        cases rch tm k set with
        | true => exact ⟨1, tx', by rw [if_neg (show ¬ b01 true = 0 by decide)], by rw [if_neg (show ¬ b01 true = 0 by decide)]⟩
        | false => exact ⟨0, tx', by rw [if_pos (show b01 false = 0 from rfl)], by rw [if_pos (show b01 false = 0 from rfl)]⟩
    · have e2 : ∀ t, x11_outside t a2 0 65535 = some 1 := oF n2
      have f2 : ∀ t, m_in t a2 0 65535 = some 0 := iF n2
      exact ⟨-2, tx, by simp only [e2, bs, o0, if_true], by simp only [f2, bs, why_wrong u1]; rw [if_neg (by decide)]⟩
  · refine ⟨-2, tx, by simp only [noNet_F n1, bs, o0], ?_⟩
    rw [m_in_eq, bs, bs, why_bad n1, bs, if_neg (by decide)]
