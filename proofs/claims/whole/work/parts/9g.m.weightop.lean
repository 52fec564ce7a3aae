/-! Weight on both sides. -/
theorem gw_nil {k : Nat} {t u : St} {S : List Nat} (h : fx S [] t u) : Gw k 0 t u := by
  unfold Gw
  rw [h.2 k rfl, h.2 9000 rfl, h.2 9001 rfl, if_neg (Nat.not_lt_zero _), if_neg (Nat.not_lt_zero _)]
  exact ⟨Nat.zero_le _, ⟨fun e => absurd e (Nat.not_lt_zero _), fun _ => rfl⟩, rfl, rfl⟩
theorem nw_out {H s : Nat} (hb : H.testBit s = false) : nw H (2 ^ s) = 0 := by
  refine Nat.eq_of_testBit_eq fun r => ?_
  rw [nw_bit, Nat.zero_testBit, Nat.testBit_two_pow]
  by_cases c : r < mN H
  · have o := odr_bit c
    rw [decide_eq_false (show ¬ s = odr H r from fun e => by rw [← e, hb] at o; exact absurd o (by decide)), Bool.and_false]
  · rw [decide_eq_false c, Bool.false_and]
theorem weightX_all {tx tm : St} {H top s : Nat} {N : List (Nat × Nat × Nat)} {tm0 : St} (hB : DgB tx tm H N top) (hl : N.length ≤ 400) (hH : RH tx tm0) (h12 : R12 tx) (h9 : gN tx 9 ≤ 1000000) (hs : s < 16) (hle : nv N (fun r => uS (usU tm0 0) s 0 (odr H r)) (mN H) N.length top ≤ nv N (fun r => uS (usU tm0 0) s 1000 (odr H r)) (mN H) N.length top) : ∃ t' W, x0_workWeight tx (jn s) = some t' ∧ fx [12, 13, 14] [12, 9000, 9001] tx t' ∧ W ≤ 16384 ∧ Gw 12 W tx t' ∧ Bg (gA t' 13) 0 ((mN H + 2) / 3) (nv N (fun r => uS (usU tm0 0) s 1000 (odr H r)) (mN H) N.length top - nv N (fun r => uS (usU tm0 0) s 0 (odr H r)) (mN H) N.length top) := by
  have hm := mN_le H
  cases hb : H.testBit s with
  | true =>
    obtain ⟨t', k1, k2, k3, k4⟩ := weightX_of hB hl hH h12 h9 hs hb hle
    exact ⟨t', _, k1, k2, Nat.le_trans (Nat.mul_le_mul (show N.length + 2 ≤ 402 by omega) (show (mN H + 2) / 3 ≤ 6 by omega)) (by omega), k3, k4⟩
  | false =>
    obtain ⟨t1, a1, a2, a3⟩ := fill13_eq h12.2.1
    have hB1 := hB.frx a2
    have T1 := hB1.2.2.2.2.2.2.2.1
    have s16 : 2 ^ s < 65536 := by
      have := Nat.pow_lt_pow_right (a := 2) (by omega) hs
      have e16 : (2 : Nat) ^ 16 = 65536 := rfl
      omega
    have nrw := narrowed_eq T1 (set := 2 ^ s) (by omega)
    rw [nw_out hb] at nrw
    have same := nv_cong (p := fun r => uS (usU tm0 0) s 1000 (odr H r)) (q := fun r => uS (usU tm0 0) s 0 (odr H r)) hB.2.2.2.2.2.1 (fun r hr => by
      have o := odr_bit hr
      have hne : ¬ odr H r = s := fun e => by rw [e, hb] at o; exact absurd o (by decide)
      skip
      unfold uS
      rw [if_neg hne, if_neg hne]) N.length (Nat.le_refl _) top
    refine ⟨t1, 0, ?_, a2.wk rfl rfl, by omega, gw_nil a2, ?_⟩
    · unfold x0_workWeight
      rw [a1, bs, jn_shl1 s (by omega), nrw, bs, if_pos (show jn 0 = 0 from rfl)]
    · rw [same, Nat.sub_self]
      refine ⟨Bp_pos _, fun i hi => ?_⟩
      rw [Nat.zero_add, a3 i (by omega), dgt_of_lt (Bp_pos i)]
      rfl
theorem op_weight {tx tm : St} (hK : RK tx tm) (hN : RN tx tm) (hR : RR tx tm) (hQ : RQ tm) (hH : RH tx tm) (hT : RTb tx tm) (hD : RD tx tm) (hM : RDm tm) (hF : RF tx tm) (h12 : R12 tx) (a1 a2 : Int32) : ∃ r tx' tm', x11_weight tx a1 a2 = some (r, tx') ∧ m_weight tm a1 a2 = some (r, tm') ∧ KpC tx tm tx' tm' := by
  have h250 := nK_lt hK
  rcases pre_weight hK hN a1 a2 with ⟨r, k1, k2⟩ | ⟨n, K, hn, hk, e16, e602, rfl, s, -, hs15, rfl⟩
  · exact ⟨r, tx, tm, k1, k2, KpC.id hT hD hM hF h12⟩
  have hs : s < 16 := by omega
  obtain ⟨tx1, tm1, x1, m1, kp, hB, -, -⟩ := both_draw2 hK hR hQ hk hT hD hM
  have hx1 := kp.1
  have hm1 := kp.2.1
  have hmon := rwF_mono hK hk
  have hm := mN_le (kH tm K)
  have hH1 := hH.fr hx1 hm1
  have uok := usU_ok hH1 0
  have hle := top_le (p := fun r => uS (usU tm1 0) s 0 (odr (kH tm K) r)) (q := fun r => uS (usU tm1 0) s 1000 (odr (kH tm K) r)) hmon (fun r hr => by
    have o := (uok _ (odr_ok hr).1).1
    skip
    unfold uS
    by_cases c : odr (kH tm K) r = s
    · rw [if_pos c, if_pos c]; omega
    · rw [if_neg c, if_neg c]; omega)
  generalize dgN (rwF tm (kH tm K) K) (mN (kH tm K)) = N at *
  generalize dgTop (rwF tm (kH tm K) K) (mN (kH tm K)) = top at *
  have ex : x11_weight tx (jn n) (jn s) = x11_weight_J42 tx1 (jn s) (if N.length ≤ 400 then 1 else 0) := by
    unfold x11_weight x0_mayWork x0_mayWork_J5 x0_drawnSize x11_noStep
    rw [noNet_T hn, bs, if_pos rfl, show x11_outside tx (jn s) 0 15 = some 0 from oT (Nat.zero_le s) hs15 (by decide) tx, bs, bs, if_pos rfl, hN.1, gd_jn (by omega) (by omega), jn_cl (by omega), e602]
    simp only [nm]
    rw [if_pos (jn_nn (by omega)), x1, bs, bs, hB.1.1.1, show (2 : Int32) = jn 2 from rfl, jn_sub (by omega), Nat.add_sub_cancel]
    have b3 := hB.2.2.1
    by_cases c : N.length ≤ 400
    · rw [if_neg (nd400 c), bs, if_pos c]
    · rw [if_pos (pd400 c (by omega)), bs, if_neg c]
  have em : (m_isStep tm (jn s)).bind (fun q1 => m_whyChance tm (jn n) q1) = some (if N.length ≤ 400 then 1 else -5, tm1) := by
    unfold m_isStep m_whyChance
    rw [show m_in tm (jn s) 0 15 = some 1 from iT (Nat.zero_le s) hs15 (by decide) tm, bs, bs, why_ok hn e16 (by omega), bs, if_pos rfl, gd_jn (by omega) (by omega), jn_cl (by omega), e16, m1, bs, hB.2.1.1.1, List.length_map, show (2 : Int32) = jn 2 from rfl, jn_sub (by omega), Nat.add_sub_cancel]
    have b3 := hB.2.2.1
    by_cases c : N.length ≤ 400
    · rw [if_pos (pc400 c), if_pos c]
    · rw [if_neg (nc400 c (by omega)), if_neg c]
  have eM : ∀ g : Int32 × St → Option (Int32 × St), (m_isStep tm (jn s)).bind (fun q1 => (m_whyChance tm (jn n) q1).bind g) = g (if N.length ≤ 400 then 1 else -5, tm1) := fun g => by
    rw [← Option.bind_assoc, em, bs]
  by_cases c : N.length ≤ 400
  · rw [if_pos c] at ex
    have r12 := h12.fr hx1
    obtain ⟨tm2, u1, u2, u3⟩ := uses_eq (t := tm1) (never := 0) (by omega)
    have hu : ∀ j, j < 16 → usU tm1 0 j ≤ 1000 ∧ gA tm2 43 j = jn (usU tm1 0 j) := fun j hj => ⟨(uok j hj).1, (u3 j hj).trans (uok j hj).2⟩
    obtain ⟨t1, t2, t3, t4, t5, T, A', B', m2, m3, m4, m5, m6, m7, m8, m9, m10, m11, m12, m13⟩ := weightM_of (hB.frm u2) c hu hs hle
    obtain ⟨tx2, W, w1, w2, w3, w4, w5⟩ := weightX_all hB c hH1 r12 (ud_9 kp.2.2.1.2.1) hs hle
    have z0 : gN tx2 200 = 6 := (w2.2 200 rfl).trans ((hx1.2 200 rfl).trans hF.1)
    have z1 : gN tx2 201 = 6 := (w2.2 201 rfl).trans ((hx1.2 201 rfl).trans hF.2.1)
    obtain ⟨tx3, A, B, d1, d2, d3, d4, d5, d6, d7⟩ := th13_of (by rw [w2.2 13 rfl]; exact r12.2.1) (by omega) z0 z1 w5 hm (by rw [(w2.1 6 rfl).1]; exact hB.1.2.2.1) (by rw [(w2.1 803 rfl).1]; exact hB.2.2.2.2.2.2.2.1.2.1)
    obtain ⟨s1, s2⟩ := fr_same d5 d6 d7 m11 (Nat.pow_pos (by omega))
    rw [← m12] at s1
    rw [← m13] at s2
    subst s1
    subst s2
    have fm : fx [34, 43] [] tm1 t5 := (u2.wk rfl rfl : fx [34, 43] [] tm1 tm2).trans m8
    have f14 : fx [12, 13, 14, 200, 201] [12, 9000, 9001] tx1 tx3 := (w2.wk rfl rfl : fx [12, 13, 14, 200, 201] [12, 9000, 9001] tx1 tx2).trans (d2.wk rfl rfl)
    refine ⟨if A' = 0 then 0 else 1, tx3, t5, ?_, ?_, KpC.mk2 kp h12 f14 (fm.wk rfl rfl) (rf_of ((d2.2 200 rfl).trans z0) ((d2.2 201 rfl).trans z1) d3 d4 m9 m10) w3 (w4.fx d2)⟩
    · rw [ex]
      unfold x11_weight_J42
      rw [if_neg (by decide), w1, bs, d1]
    · unfold m_weight
      rw [eM]
      dsimp only
      rw [if_pos c, if_pos rfl, show (0 : Int32) = jn 0 from rfl, u1, bs, gd_jn hs (by omega)]
      simp only [nm]
      rw [show jn 0 = (0 : Int32) from rfl, show (402 : Int32) = jn 402 from rfl, m2, bs, gd_jn hs (by omega), show (4507 : Int32) = jn 4507 from rfl, m3, bs, m4, bs, show (4505 : Int32) = jn 4505 from rfl, show (16 : Int32) = jn 16 from rfl, m5, bs, m6, bs, show (4500 : Int32) = jn 4500 from rfl, m7, bs]
      by_cases z : A' = 0
      · rw [if_pos z, if_pos z, if_neg (by decide)]
      · rw [if_neg z, if_neg z, if_pos rfl]
  · rw [if_neg c] at ex
    refine ⟨-5, tx1, tm1, ?_, ?_, KpC.ofD kp hF h12⟩
    · rw [ex]
      unfold x11_weight_J42
      rw [if_pos rfl]
    · unfold m_weight
      rw [eM]
      dsimp only
      rw [if_neg c, if_neg (by decide)]
