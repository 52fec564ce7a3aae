/-! Best on both sides. -/
theorem pc_mN (H : Nat) : popc 16 H = mN H := (pc_len H).symm
theorem V12_sets {m : Nat} (h : m ≤ 12) : 2 ^ m * ((m + 2) / 3) ≤ 16384 := by
  have k : ∀ m : Nat, m < 13 → 2 ^ m * ((m + 2) / 3) ≤ 16384 := by decide
  exact k m (by omega)
theorem op_best {tx tm : St} (hK : RK tx tm) (hN : RN tx tm) (hR : RR tx tm) (hQ : RQ tm) (hH : RH tx tm) (hT : RTb tx tm) (hD : RD tx tm) (hM : RDm tm) (hF : RF tx tm) (h12 : R12 tx) (a1 a2 : Int32) : ∃ r tx' tm', x11_best tx a1 a2 = some (r, tx') ∧ m_best tm a1 a2 = some (r, tm') ∧ KpC tx tm tx' tm' := by
  have h250 := nK_lt hK
  rcases pre_best hK hN a1 a2 with ⟨r, k1, k2⟩ | ⟨n, K, hn, hk, e16, e602, rfl, w, -, hw, rfl⟩
  · exact ⟨r, tx, tm, k1, k2, KpC.id hT hD hM hF h12⟩
  have hHl := kH_lt hK hk
  obtain ⟨-, -, -, -, -, -, e15, -, e607, -⟩ := hK.2.2.2 K hk
  have n607 : gN tx 607 = 330 := hK.1.2.2.2.2
  have hm := mN_le (kH tm K)
  have X1 : x11_best tx (jn n) (jn w) = if mN (kH tm K) ≤ 12 then (x0_mayWork tx (jn K)).bind (fun q23 => x11_best_J63 q23.2 (jn w) q23.1) else some (-3, tx) := by
    unfold x11_best
    rw [noNet_T hn, bs, if_pos rfl, show x11_outside tx (jn w) 0 16000 = some 0 from oT (Nat.zero_le w) hw (by decide) tx, bs, if_pos rfl, hN.1, gd_jn (by omega) (by omega), jn_cl (by omega), e602]
    simp only [nm]
    rw [if_neg (jn_neg (a := K) (by omega)), n607, gd_jn (by omega) (by omega), jn_cl (by omega), e607, e15, bitCount_eq tx hHl, bs, pc_mN]
    by_cases c : mN (kH tm K) ≤ 12
    · rw [if_pos (pc12 c), if_pos c]
    · rw [if_neg (nc12 c (by omega)), if_neg c]
  have M0 : (m_in tm (jn w) 0 16000).bind (fun q71 => m_why tm (jn n) q71) = some 1 := by
    rw [show m_in tm (jn w) 0 16000 = some 1 from iT (Nat.zero_le w) hw (by decide) tm, bs, why_ok hn e16 (by omega)]
  by_cases c12 : mN (kH tm K) ≤ 12
  · rw [if_pos c12] at X1
    obtain ⟨tx1, tm1, x1, m1, kp, hB, -, hTK⟩ := both_draw2 hK hR hQ hk hT hD hM
    have hx1 := kp.1
    have hm1 := kp.2.1
    have hH1 := hH.fr hx1 hm1
    have uok := usU_ok hH1 0
    have b3 := hB.2.2.1
    have ex : (x0_mayWork tx (jn K)).bind (fun q23 => x11_best_J63 q23.2 (jn w) q23.1) = x11_best_J63 tx1 (jn w) (if (dgN (rwF tm (kH tm K) K) (mN (kH tm K))).length ≤ 400 then 1 else 0) := by
      unfold x0_mayWork x0_mayWork_J5 x0_drawnSize
      rw [x1, bs, bs, hB.1.1.1, show (2 : Int32) = jn 2 from rfl, jn_sub (by omega), Nat.add_sub_cancel]
      by_cases c : (dgN (rwF tm (kH tm K) K) (mN (kH tm K))).length ≤ 400
      · rw [if_neg (nd400 c), bs, if_pos c]
      · rw [if_pos (pd400 c (by omega)), bs, if_neg c]
    rw [ex] at X1
    by_cases c : (dgN (rwF tm (kH tm K) K) (mN (kH tm K))).length ≤ 400
    · rw [if_pos c] at X1
      have r12 := h12.fr hx1
      have hm1' := hB.2.2.2.2.2.2.2.2
      have h8 := Tb_808 kp.2.2.1.1.1
      obtain ⟨tx2, w1, w2, w3, w4, w5⟩ := workSets_eq (f := rwF tm (kH tm K) K) hTK.1 hm1' c12 rfl hB.1.2.2.1 r12.2.2 hH1 (Nat.le_trans r12.1.le (by omega)) (fun q hq => bit_eq hTK h8 hq)
      have hT2 := hTK.1.fr w2
      obtain ⟨g1, -, -⟩ := gw_12 r12.1 (V12_sets c12) w3
      have h500 : gN tx1 500 = 80 := hH1.1
      have pX := pickX_eq (tx := tx1) (t := tx2) (n := (mN (kH tm K) + 2) / 3) (bud := w) hT2 hm1' c12 ((w2.1 6 rfl).1.trans hB.1.2.2.1) hH1 ((w2.2 500 rfl).trans h500) (w2.1 500 rfl).2.2.1 w4 w3.1 w5 (by omega)
      -- the reference
      have hK1 := hK.fr hx1 hm1
      have e16' : gA tm1 16 n = jn K := by rw [(hm1.1 16 rfl).2.2.1]; exact e16
      have e15' : gA tm1 15 K = jn (kH tm K) := by rw [(hm1.1 15 rfl).2.2.1]; exact e15
      obtain ⟨tm2, l1, l2, l3⟩ := letters_eq (t := tm1) (H := kH tm K) (K := K) hn (by omega) hHl e16' e15' (jn w)
      obtain ⟨tm3, f1, f2, f3⟩ := fill_eq (t := tm2) hK hR hk hn (fun a b => by rw [reached_fx l2, reached_fx hm1]) (by rw [(l2.1 16 rfl).2.2.1]; exact e16') l3 c12 (jn w)
      obtain ⟨tm4, s1, s2, s3⟩ := sets_eq (tx := tx1) (t := tm3) (H := kH tm K) (f := rwF tm (kH tm K) K) (c := fun r => usU tm1 0 (odr (kH tm K) r)) rfl c12 (fun j hj => by
        have o := odr_ok hj
        have u := uok _ o.1
        refine ⟨u.1, ?_⟩
        rw [(f2.1 2 rfl).2.2.1, (l2.1 2 rfl).2.2.1, ← u.2, if_neg (by rw [Nat.zero_testBit]; decide)]) (fun r hr => by rw [(f2.1 44 rfl).2.2.1]; exact l3 r hr) f3 (jn w)
      have F24 : fx [34] [] tm2 tm4 := f2.trans s2
      have l4 : ∀ r, r < mN (kH tm K) → gA tm4 44 r = jn (odr (kH tm K) r) := fun r hr => by rw [(F24.1 44 rfl).2.2.1]; exact l3 r hr
      have pM := pickM_eq (tx := tx1) (tm := tm1) (t := tm4) (bud := w) hm1' c12 l4 hH1 (by rw [(F24.1 0 rfl).2.2.1, (l2.1 0 rfl).2.2.1]) (by rw [(F24.1 1 rfl).2.2.1, (l2.1 1 rfl).2.2.1]) s3 (by omega)
      have p12 : 2 ^ mN (kH tm K) ≤ 2 ^ 12 := Nat.pow_le_pow_right (by omega) c12
      have e12 : (2 : Nat) ^ 12 = 4096 := rfl
      have p1 : 1 ≤ 2 ^ mN (kH tm K) := Nat.two_pow_pos _
      have hb := (pick_le (V := rs (rwF tm (kH tm K) K) (fun r => usU tm1 0 (odr (kH tm K) r)) (mN (kH tm K))) (pr := fun x => smN tm1 0 0 (wd (kH tm K) x)) (bud := w) (c := 16000) (fun x => smN_16 hH1 0 0 _) (2 ^ mN (kH tm K) - 1)).1
      generalize hbe : (pk (rs (rwF tm (kH tm K) K) (fun r => usU tm1 0 (odr (kH tm K) r)) (mN (kH tm K))) (fun x => smN tm1 0 0 (wd (kH tm K) x)) w (2 ^ mN (kH tm K) - 1)).1 = be at *
      have hbe2 : be < 2 ^ mN (kH tm K) := by omega
      have vX := w5 be hbe2
      have vM := s3 be hbe2
      generalize rs (rwF tm (kH tm K) K) (fun r => usU tm1 0 (odr (kH tm K) r)) (mN (kH tm K)) be = V at *
      have z0 : gN tx2 200 = 6 := (w2.2 200 rfl).trans ((hx1.2 200 rfl).trans hF.1)
      have z1 : gN tx2 201 = 6 := (w2.2 201 rfl).trans ((hx1.2 201 rfl).trans hF.2.1)
      obtain ⟨tx3, A, B, d1, d2, d3, d4, d5, d6, d7⟩ := th12_eq (rowin hbe2 w3.1) w4 (show (mN (kH tm K) + 2) / 3 ≤ 6 by omega) z0 z1 vX hm
      obtain ⟨tm5, t1, t2, t3⟩ := wholes_eq (t := tm4) (x := 4505) (n := mN (kH tm K)) (by omega) hm
      obtain ⟨tm6, t4, t5, t6⟩ := takes_eq (t := tm5) (x := 4507) (y := 402 + be) (by omega) (by omega) (by omega) (vM.sl1 t2 (by omega))
      have p16' := p16
      have pl : 1000 ^ mN (kH tm K) ≤ 1000 ^ 16 := Nat.pow_le_pow_right (by omega) hm
      have Bp7 : 2 * 1000 ^ mN (kH tm K) ≤ Bp 7 := Nat.le_trans (by rw [Nat.mul_comm]; exact Nat.mul_le_mul pl (show 2 ≤ 1000 by omega)) (Nat.le_of_lt p16')
      obtain ⟨tm7, i1, i2, i3, i4⟩ := tells_eq (x := 4507) (y := 4505) (by omega) (by omega) (by omega) (by omega) t6 (t3.sl1 t5 (by omega)) (Nat.pow_pos (by omega)) Bp7
      obtain ⟨r1, r2⟩ := fr_same d5 d6 d7 (Eq.refl (V * 1000 ^ mN (kH tm K))) (Nat.pow_pos (by omega))
      rw [r1] at i3
      rw [r2] at i4
      have F47 : fx [34] [] tm4 tm7 := t2.1.trans (t5.1.trans i2.1)
      have fm : fx [34, 43, 44] [] tm1 tm7 := (l2.wk rfl rfl : fx [34, 43, 44] [] tm1 tm2).trans ((F24.trans F47).wk rfl rfl)
      have f14 : fx [12, 13, 14, 200, 201] [12, 9000, 9001] tx1 tx3 := (w2.wk rfl rfl : fx [12, 13, 14, 200, 201] [12, 9000, 9001] tx1 tx2).trans (d2.wk rfl rfl)
      refine ⟨jn (wd (kH tm K) be), tx3, tm7, ?_, ?_, KpC.mk2 kp h12 f14 fm (rf_of ((d2.2 200 rfl).trans z0) ((d2.2 201 rfl).trans z1) d3 d4 i3 i4) (V12_sets c12) (w3.fx d2)⟩
      · rw [X1]
        unfold x11_best_J63 x0_bestSet x11_best_J77
        rw [if_neg (by decide), w1, bs, pX, bs]
        dsimp only
        rw [(w2.1 6 rfl).1, hB.1.2.2.1, hT2.2.1, jn_mul, d1, bs, widened_eq (hT2.fr d2) (by omega), bs]
      · unfold m_best
        rw [show (m_in tm (jn w) 0 16000) = some 1 from iT (Nat.zero_le w) hw (by decide) tm, bs, why_ok hn e16 (by omega), bs, if_pos rfl, gd_jn (by omega) (by omega), jn_cl (by omega), e16, gd_jn (by omega) (by omega), jn_cl (by omega), e15, m_sizeOf_pc tm hHl, bs, pc_mN, if_pos (pc12 c12), gd_jn (by omega) (by omega), m1, bs, hB.2.1.1.1, List.length_map, show (2 : Int32) = jn 2 from rfl, jn_sub (by omega), Nat.add_sub_cancel, if_pos (pc400 c), l1, bs]
        dsimp only
        rw [jn_shl1 _ (by omega)]
        simp only [nm]
        rw [show lp (fun x : Int32 × St => m_best_B132 (jn n) (jn w) (jn (mN (kH tm K))) (jn (2 ^ mN (kH tm K))) x.1 x.2) ((0 : Int32), tm2) = some tm3 from f1, bs, show lp (fun x : Int32 × St => m_best_B184 (jn w) (jn (mN (kH tm K))) (jn (2 ^ mN (kH tm K))) x.1 x.2) ((0 : Int32), tm3) = some tm4 from s1, bs, pM, bs, show (4505 : Int32) = jn 4505 from rfl, t1, bs, show (4507 : Int32) = jn 4507 from rfl, j402, t4, bs, i1, bs, spread_eq (fun r hr => by rw [(F47.1 44 rfl).2.2.1]; exact l4 r hr) (by omega), bs]
    · rw [if_neg c] at X1
      refine ⟨-5, tx1, tm1, ?_, ?_, KpC.ofD kp hF h12⟩
      · rw [X1]
        unfold x11_best_J63
        rw [if_pos rfl]
      · unfold m_best
        rw [show (m_in tm (jn w) 0 16000) = some 1 from iT (Nat.zero_le w) hw (by decide) tm, bs, why_ok hn e16 (by omega), bs, if_pos rfl, gd_jn (by omega) (by omega), jn_cl (by omega), e16, gd_jn (by omega) (by omega), jn_cl (by omega), e15, m_sizeOf_pc tm hHl, bs, pc_mN, if_pos (pc12 c12), gd_jn (by omega) (by omega), m1, bs, hB.2.1.1.1, List.length_map, show (2 : Int32) = jn 2 from rfl, jn_sub (by omega), Nat.add_sub_cancel, if_neg (nc400 c (by omega))]
  · rw [if_neg c12] at X1
    refine ⟨-3, tx, tm, X1, ?_, KpC.id hT hD hM hF h12⟩
    unfold m_best
    rw [show (m_in tm (jn w) 0 16000) = some 1 from iT (Nat.zero_le w) hw (by decide) tm, bs, why_ok hn e16 (by omega), bs, if_pos rfl, gd_jn (by omega) (by omega), jn_cl (by omega), e16, gd_jn (by omega) (by omega), jn_cl (by omega), e15, m_sizeOf_pc tm hHl, bs, pc_mN, if_neg (nc12 c12 (by omega))]
