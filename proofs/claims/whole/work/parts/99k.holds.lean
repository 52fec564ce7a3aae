/-! Guards that hold a net; the texts' end: all is cleared. -/
theorem jn_neg16 {s : Nat} (hs : s < 65536) : (65535 : Int32) &&& (jn s ^^^ (-1)) = jn (65535 ^^^ s) := by
  apply Int32.toBitVec.inj
  show BitVec.ofNat 32 65535 &&& (BitVec.ofNat 32 s ^^^ (-1 : Int32).toBitVec) = BitVec.ofNat 32 (65535 ^^^ s)
  rw [bv_m1]
  apply BitVec.eq_of_getLsbD_eq
  intro i hi
  simp only [BitVec.getLsbD_and, BitVec.getLsbD_xor, BitVec.getLsbD_ofNat, BitVec.getLsbD_allOnes, hi, decide_true, Bool.true_and, Nat.testBit_xor, Bool.xor_true]
  rw [show (65535 : Nat) = 2 ^ 16 - 1 from rfl, Nat.testBit_two_pow_sub_one]
  by_cases q : i < 16
  · simp [q]
  · have : s.testBit i = false := Nat.testBit_lt_two_pow (Nat.lt_of_lt_of_le hs (by rw [show 65536 = 2 ^ 16 from rfl]; exact Nat.pow_le_pow_right (by omega) (by omega)))
    simp [q, this]
theorem neg16_lt {s : Nat} (hs : s < 65536) : 65535 ^^^ s < 65536 := Nat.xor_lt_two_pow (n := 16) (by decide) hs
theorem m_stopped_eq {tx tm : St} (h : RG tx tm) {set : Nat} (hs : set < 2147483648) : m_stopped tm (jn set) = some (jn (stopsOf tm set (nG tm))) := by
  obtain ⟨⟨g1, g2, g3⟩, hg, -⟩ := h
  have loop : ∀ m i, i + m = nG tm → lp (fun x : Int32 × Int32 => m_stopped_B4 tm (jn set) x.1 x.2) (jn (stopsOf tm set i), jn i) = some (jn (stopsOf tm set (nG tm))) := by
    intro m
    induction m with
    | zero =>
      intro i hi
      have : i = nG tm := by omega
      subst this
      exact lp_r (by dsimp only; unfold m_stopped_B4; rw [g1, if_pos (lee (by omega))])
    | succ m ih =>
      intro i hi
      have hi2 : i < nG tm := by omega
      have es : stopsOf tm set (i + 1) = stopsOf tm set i ||| (if set.testBit i then gSt tm i else 0) := rfl
      have b : (fun x : Int32 × Int32 => m_stopped_B4 tm (jn set) x.1 x.2) (jn (stopsOf tm set i), jn i) = some (.inl (jn (stopsOf tm set (i + 1)), jn (i + 1))) := by
        dsimp only
        unfold m_stopped_B4
        rw [g1, if_neg (nle hi2 (by omega)), es]
        cases hb : set.testBit i with
        | true =>
          rw [if_pos ((bit_iff hs (by omega)).mpr hb), gd_jn (by omega) (by omega), jn_cl (by omega), (hg i hi2).1, jn_or]
          simp only [nm, jn_s, if_true]
        | false =>
          rw [if_neg (fun e => by rw [(bit_iff hs (by omega)).mp e] at hb; cases hb), show (0 : Int32) = jn 0 from rfl, jn_or]
          simp only [nm, jn_s]
          rfl
      rw [lp_l b]
      exact ih (i + 1) (by omega)
  unfold m_stopped
  rw [show ((0 : Int32), (0 : Int32)) = (jn (stopsOf tm set 0), jn 0) from rfl, loop (nG tm) 0 (by omega), bs]
theorem full10 {n : Nat} (h : n ≤ 10) : (1 : Int32) <<< (jn n &&& 31) - 1 = jn (2 ^ n - 1) := by
  rw [jn_shl1 n (by omega)]
  exact jn_sub (a := 2 ^ n) (b := 1) (Nat.two_pow_pos n)
theorem op_holds {tx tm : St} (hK : RK tx tm) (hN : RN tx tm) (hR : RR tx tm) (hO : gN tx 611 = 330) (hG : RG tx tm) (a1 a2 : Int32) : ∃ r tx', x11_holds tx a1 a2 = some (r, tx') ∧ m_holds tm a1 a2 = some r := by
  have h250 := nK_lt hK
  have hG0 := hG
  obtain ⟨⟨g1, g2, g3⟩, hg, l3, l4, hst⟩ := hG
  have hp := pow_le10 g2
  have hpp := Nat.two_pow_pos (nG tm)
  unfold x11_holds m_holds
  rw [g3, g1, full10 g2]
  rcases io a1 0 9 with ⟨n, l1, u1, rfl⟩ | n1
  · simp only [noNet_T u1, bs, if_true]
    rcases io a2 0 (2 ^ nG tm - 1) (by decide) (by omega) with ⟨set, l2, u2, rfl⟩ | n2
    · have e2 : ∀ t, x11_outside t (jn set) 0 (jn (2 ^ nG tm - 1)) = some 0 := oT l2 u2 (by omega)
      have f2 : ∀ t, m_in t (jn set) 0 (jn (2 ^ nG tm - 1)) = some 1 := iT l2 u2 (by omega)
      simp only [e2, f2, bs, if_true]
      obtain ⟨i1, i2⟩ := hN.2 n (by omega)
      have g10 : ∀ {α : Type} (x : Option α), gd (jn n) 10 x = x := fun x => gd_jn (by omega) (by omega)
      rw [hN.1, g10, g10, jn_cl (by omega), i1]
      simp only [nm]
      rcases i2 with i2 | ⟨k, hk, i2⟩
      · rw [why_no u1 i2, i2, bs, if_neg (by decide), if_neg (by decide)]
        exact ⟨-3, tx, rfl, rfl⟩
      · have hsl := stops_lt hG0 set
        have hnl := neg16_lt hsl
        obtain ⟨tx', k1, k2⟩ := x_reached hK hO hk hnl
        rw [why_ok u1 i2 (by omega), i2, bs, if_pos rfl, if_pos (jn_nn (by omega)), l3, gd_jn (by omega) (by omega), jn_cl (by omega), (hst set (by omega)).1, jn_neg16 hsl, k1, bs]
        unfold m_isHeld
        rw [m_stopped_eq hG0 (by omega), bs, jn_neg16 hsl, m_isReached_eq hK hR hk hnl, bs]
        cases rch tm k (65535 ^^^ stopsOf tm set (nG tm)) with
        | true => exact ⟨0, tx', by rw [if_neg (show ¬ b01 true = 0 by decide)], by rw [if_neg (show ¬ b01 true = 0 by decide), bs, if_pos rfl]⟩
        | false => exact ⟨1, tx', by rw [if_pos (show b01 false = 0 from rfl)], by rw [if_pos (show b01 false = 0 from rfl), bs, if_neg (by decide)]⟩
    · have e2 : ∀ t, x11_outside t a2 0 (jn (2 ^ nG tm - 1)) = some 1 := oF n2
      have f2 : ∀ t, m_in t a2 0 (jn (2 ^ nG tm - 1)) = some 0 := iF n2
      exact ⟨-2, tx, by simp only [e2, bs, o0, if_true], by simp only [f2, bs, why_wrong u1]; rw [if_neg (by decide)]⟩
  · refine ⟨-2, tx, by simp only [noNet_F n1, bs, o0], ?_⟩
    rw [m_in_eq, bs, why_bad n1, bs, if_neg (by decide)]
