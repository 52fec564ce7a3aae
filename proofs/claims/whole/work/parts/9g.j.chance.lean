/-! Chance on both sides. -/
theorem pc400 {n : Nat} (h : n ≤ 400) : jn n ≤ (400 : Int32) := (jn_le (b := 400) (by omega) (by omega)).mpr h
theorem nc400 {n : Nat} (h : ¬ n ≤ 400) (hb : n ≤ 5000) : ¬ jn n ≤ (400 : Int32) := fun e => h ((jn_le (b := 400) (by omega) (by omega)).mp e)
theorem nd400 {n : Nat} (h : n ≤ 400) : ¬ (400 : Int32) < jn n := fun e => by
  have := (jn_lt (a := 400) (by omega) (by omega)).mp e
  omega
theorem pd400 {n : Nat} (h : ¬ n ≤ 400) (hb : n ≤ 5000) : (400 : Int32) < jn n := (jn_lt (a := 400) (by omega) (by omega)).mpr (by omega)
theorem pc12 {n : Nat} (h : n ≤ 12) : jn n ≤ (12 : Int32) := (jn_le (b := 12) (by omega) (by omega)).mpr h
theorem nc12 {n : Nat} (h : ¬ n ≤ 12) (hb : n ≤ 5000) : ¬ jn n ≤ (12 : Int32) := fun e => h ((jn_le (b := 12) (by omega) (by omega)).mp e)
/-- how long the row for the work may be -/
def V12 (n : Nat) : Prop := n ≤ 32768
def R12 (t : St) : Prop := V12 (gN t 12) ∧ gN t 13 = 6 ∧ gN t 14 = 16
def P12 (n : Nat) : Nat := 2 * n
theorem V12.le {n : Nat} (h : V12 n) : n ≤ 32768 := h
theorem R12.fr {S T : List Nat} {t t' : St} (h : R12 t) (hx : fx S T t t') (h1 : (T.elem 12 || T.elem 13 || T.elem 14) = false := by rfl) : R12 t' := by
  simp only [Bool.or_eq_false_iff] at h1
  unfold R12
  rw [hx.2 12 h1.1.1, hx.2 13 h1.1.2, hx.2 14 h1.2]
  exact h
theorem gw_12 {t t' : St} {W : Nat} (h : V12 (gN t 12)) (hW : W ≤ 16384) (g : Gw 12 W t t') : V12 (gN t' 12) ∧ gN t' 9001 + P12 (gN t 12) ≤ gN t 9001 + P12 (gN t' 12) + 2412 ∧ gN t' 9000 ≤ gN t 9000 + 1 := by
  obtain ⟨-, ⟨g2, g3⟩, g4, g5⟩ := g
  unfold V12 P12 at *
  by_cases c : gN t 12 < W
  · rw [if_pos c] at g4 g5
    have := g2 c
    refine ⟨by omega, by omega, by omega⟩
  · rw [if_neg c] at g4 g5
    have := g3 c
    refine ⟨by omega, by omega, by omega⟩
theorem DgB.frx {S T : List Nat} {tx tm tx' : St} {H : Nat} {N : List (Nat × Nat × Nat)} {top : Nat} (h : DgB tx tm H N top) (hx : fx S T tx tx') (h1 : (S.elem 3 || S.elem 4 || S.elem 6 || S.elem 9 || S.elem 10 || S.elem 11) = false := by rfl) (h2 : (S.elem 801 || S.elem 802 || S.elem 803 || S.elem 804) = false := by rfl) (h3 : (T.elem 9 || T.elem 10 || T.elem 11) = false := by rfl) (h4 : (T.elem 801 || T.elem 802) = false := by rfl) : DgB tx' tm H N top := by
  simp only [Bool.or_eq_false_iff] at h1 h3
  obtain ⟨⟨⟨⟨⟨a3, a4⟩, a6⟩, a9⟩, a10⟩, a11⟩ := h1
  obtain ⟨⟨⟨d1, d1'⟩, d2, d3, d4, d5, d6⟩, e, f1, f2, f3, f4, f5, f6, f7⟩ := h
  refine ⟨⟨⟨(hx.1 3 a3).1.trans d1, fun i hi => ?_⟩, (hx.1 4 a4).1.trans d2, (hx.1 6 a6).1.trans d3, by rw [hx.2 9 h3.1.1]; exact d4, by rw [hx.2 9 h3.1.1, hx.2 10 h3.1.2]; exact d5, by rw [hx.2 9 h3.1.1, hx.2 11 h3.2]; exact d6⟩, e, f1, f2, f3, f4, f5, f6.fr hx h2 h4, f7⟩
  rw [(hx.1 9 a9).2.2.1, (hx.1 10 a10).2.2.1, (hx.1 11 a11).2.2.1]
  exact d1' i hi
theorem DgB.frm {S T : List Nat} {tx tm tm' : St} {H : Nat} {N : List (Nat × Nat × Nat)} {top : Nat} (h : DgB tx tm H N top) (hx : fx S T tm tm') (h1 : (S.elem 36 || S.elem 37 || S.elem 39 || S.elem 40 || S.elem 41) = false := by rfl) : DgB tx tm' H N top := by
  simp only [Bool.or_eq_false_iff] at h1
  obtain ⟨⟨⟨⟨a6, a7⟩, a9⟩, a0⟩, a1⟩ := h1
  obtain ⟨d, ⟨⟨e1, e1'⟩, e2, e3⟩, f⟩ := h
  refine ⟨d, ⟨⟨(hx.1 36 a6).1.trans e1, fun i hi => ?_⟩, (hx.1 37 a7).1.trans e2, fun i hi => ?_⟩, f⟩
  · rw [(hx.1 39 a9).2.2.1, (hx.1 40 a0).2.2.1, (hx.1 41 a1).2.2.1]
    exact e1' i hi
  · rw [(hx.1 39 a9).2.2.1]
    exact e3 i hi
/-- what the class works -/
theorem work_of {tx tm : St} {H top : Nat} {N : List (Nat × Nat × Nat)} {u : Nat → Nat} (hB : DgB tx tm H N top) (hl : N.length ≤ 400) (h12 : R12 tx) (h9b : gN tx 9 ≤ 1000000) (hu1 : ∀ r, r < mN H → u (odr H r) ≤ 1000) (hu2 : ∀ r, r < mN H → gA tx 14 r = jn (u (odr H r))) : ∃ t' a, x0_work tx = some (jn a, t') ∧ fx [12] [12, 9000, 9001] tx t' ∧ Gw 12 ((N.length + 2) * ((mN H + 2) / 3)) tx t' ∧ R12 t' ∧ a + (mN H + 2) / 3 ≤ gN t' 12 ∧ Bg (gA t' 12) a ((mN H + 2) / 3) (nv N (fun r => u (odr H r)) (mN H) N.length top) := by
  obtain ⟨⟨d1, d2, d3, d4, d5, d6⟩, -, -, f2, f3, f4, f5, f6, f7⟩ := hB
  have hm := mN_le H
  obtain ⟨t', k1, k2, k3, k4, k5, k6⟩ := work_eq (p := fun r => u (odr H r)) d1 d2 d3 d4 d5 d6 f2 f3 f4 f7 hm f6.2.1 hl f5 h12.2.2 hu1 hu2 (Nat.le_trans h12.1.le (by omega)) h9b
  have hW : (N.length + 2) * ((mN H + 2) / 3) ≤ 402 * 6 := Nat.mul_le_mul (by omega) (by omega)
  refine ⟨t', _, k1, k2, k3, ⟨(gw_12 h12.1 (Nat.le_trans hW (by omega)) k3).1, ?_, ?_⟩, k5, k6⟩
  · rw [k2.2 13 rfl]; exact h12.2.1
  · rw [k2.2 14 rfl]; exact h12.2.2
/-- what the reference works -/
theorem chances_of {tx tm : St} {H top to never : Nat} {N : List (Nat × Nat × Nat)} (hB : DgB tx tm H N top) (hl : N.length ≤ 400) {tx0 : St} (hH : RH tx0 tm) (hn : never < 2147483648) (hto : 402 ≤ to) (hto2 : to ≤ 4507) (hto3 : to ≠ 4502) : ∃ t1 t' T, m_uses tm (jn never) = some t1 ∧ m_chances t1 (jn to) = some t' ∧ fx [43] [] tm t1 ∧ Sl (List.range 402 ++ [4502, to]) t1 t' ∧ BM t' to T ∧ T * 1000 ^ mN H = nv N (fun r => usU tm never (odr H r)) (mN H) N.length top * 1000 ^ 16 ∧ T ≤ 1000 ^ 16 ∧ ∀ s, s < 16 → gA t1 43 s = jn (usU tm never s) := by
  obtain ⟨t1, a1, a2, a3⟩ := uses_eq (t := tm) hn
  have ok := usU_ok hH never
  have hB1 := hB.frm a2
  obtain ⟨-, ⟨e1, e2, e3⟩, -, f2, f3, f4, f5, -, -⟩ := hB1
  obtain ⟨t', T, b1, b2, b3, b4, b5⟩ := chances_eq (u := usU tm never) e1 e2 e3 hl f2 f3 f4 f5 (fun s hs => ⟨(ok s hs).1, (a3 s hs).trans (ok s hs).2⟩) hto hto2 hto3
  exact ⟨t1, t', T, a1, b1, a2, b2, b3, b4, b5, fun s hs => (a3 s hs).trans (ok s hs).2⟩
/-- the same fraction, reduced -/
theorem fr_same {A B C T P m : Nat} (h1 : A * 1000 ^ m = C * B) (hc : Nat.Coprime A B) (hb : 0 < B) (h2 : T * 1000 ^ m = C * P) (hP : 0 < P) : T / Nat.gcd T P = A ∧ P / Nat.gcd T P = B := by
  have g := Nat.gcd_pos_of_pos_right T hP
  have eT : Nat.gcd T P * (T / Nat.gcd T P) = T := Nat.mul_div_cancel' (Nat.gcd_dvd_left T P)
  have eP : Nat.gcd T P * (P / Nat.gcd T P) = P := Nat.mul_div_cancel' (Nat.gcd_dvd_right T P)
  have cp := gcd_red (A := T) hP
  have pP : 0 < P / Nat.gcd T P := Nat.pos_of_ne_zero fun z => by rw [z, Nat.mul_zero] at eP; omega
  have pm : 0 < 1000 ^ m := Nat.pow_pos (by omega)
  refine red_same ?_ pP hb cp hc
  have k : T * B = A * P := by
    refine Nat.eq_of_mul_eq_mul_right pm ?_
    rw [Nat.mul_right_comm, h2, Nat.mul_right_comm A, h1, Nat.mul_right_comm]
  refine Nat.eq_of_mul_eq_mul_left g ?_
  rw [← Nat.mul_assoc, eT, Nat.mul_left_comm, eP]
  exact k
theorem rf_of {tx tm : St} {A B : Nat} (h0 : gN tx 200 = 6) (h1 : gN tx 201 = 6) (a : Bg (gA tx 200) 0 6 A) (b : Bg (gA tx 201) 0 6 B) (c : BM tm 4500 A) (d : BM tm 4501 B) : RF tx tm := by
  refine ⟨h0, h1, fun i hi => ?_, ?_, fun i hi => ?_, ?_⟩
  · have e1 := a.2 i hi
    have e2 := c.2 i (by omega)
    rw [Nat.zero_add] at e1
    exact e1.trans e2.symm
  · have e2 := c.2 6 (by omega)
    rw [dgt_of_lt a.1] at e2
    exact e2
  · have e1 := b.2 i hi
    have e2 := d.2 i (by omega)
    rw [Nat.zero_add] at e1
    exact e1.trans e2.symm
  · have e2 := d.2 6 (by omega)
    rw [dgt_of_lt b.1] at e2
    exact e2
/-- what is kept where chances are worked -/
def KpC (tx tm tx' tm' : St) : Prop := fx [2, 3, 4, 5, 6, 7, 8, 9, 10, 11, 12, 13, 14, 200, 201, 801, 802, 803, 804, 805, 806, 807, 808, 809, 810, 811, 812, 813, 814] [7, 8, 9, 10, 11, 12, 808, 9000, 9001] tx tx' ∧ fx [34, 35, 36, 37, 38, 39, 40, 41, 42, 43, 44] [] tm tm' ∧ (RTb tx' tm' ∧ RD tx' tm' ∧ RDm tm' ∧ RF tx' tm' ∧ R12 tx') ∧ gN tx' 9001 + 2 * gN tx 808 + PD tx + P12 (gN tx 12) ≤ gN tx 9001 + 2 * gN tx' 808 + PD tx' + P12 (gN tx' 12) + 2412 ∧ gN tx' 9000 + gN tx 808 ≤ gN tx 9000 + gN tx' 808 + 6
theorem KpC.id {tx tm : St} (hT : RTb tx tm) (hD : RD tx tm) (hM : RDm tm) (hF : RF tx tm) (h12 : R12 tx) : KpC tx tm tx tm := ⟨fx.rfl, fx.rfl, ⟨hT, hD, hM, hF, h12⟩, Nat.le_add_right _ _, Nat.le_add_right _ _⟩
theorem KpC.ofD {tx tm tx' tm' : St} (h : KpD tx tm tx' tm') (hF : RF tx tm) (h12 : R12 tx) : KpC tx tm tx' tm' := by
  obtain ⟨h1, h2, ⟨h3, h4, h5⟩, h6, h7⟩ := h
  refine ⟨h1.wk rfl rfl, h2.wk rfl rfl, ⟨h3, h4, h5, hF.fr h1 h2, h12.fr h1⟩, ?_, by omega⟩
  rw [h1.2 12 rfl]
  omega
theorem PD_eq {t u : St} {S T : List Nat} (hx : fx S T t u) (h : (T.elem 7 || T.elem 8 || T.elem 9) = false := by rfl) : PD u = PD t := by
  simp only [Bool.or_eq_false_iff] at h
  unfold PD
  rw [hx.2 7 h.1.1, hx.2 8 h.1.2, hx.2 9 h.2]
/-- the row is made longer after the drawing -/
theorem KpC.mk2 {tx tm tx1 tm1 tx' tm' : St} {W : Nat} (h : KpD tx tm tx1 tm1) (h12 : R12 tx) (hx : fx [12, 13, 14, 200, 201] [12, 9000, 9001] tx1 tx') (hm : fx [34, 43, 44] [] tm1 tm') (hF : RF tx' tm') (hW : W ≤ 16384) (g : Gw 12 W tx1 tx') : KpC tx tm tx' tm' := by
  obtain ⟨h1, h2, ⟨h3, h4, h5⟩, h6, h7⟩ := h
  have r12 := h12.fr h1
  obtain ⟨g1, g2, g3⟩ := gw_12 r12.1 hW g
  have hs : SameK tm1 tm' := same_fx hm
  refine ⟨(h1.wk rfl rfl : fx [2, 3, 4, 5, 6, 7, 8, 9, 10, 11, 12, 13, 14, 200, 201, 801, 802, 803, 804, 805, 806, 807, 808, 809, 810, 811, 812, 813, 814] [7, 8, 9, 10, 11, 12, 808, 9000, 9001] tx tx1).trans (hx.wk rfl rfl), (h2.wk rfl rfl : fx [34, 35, 36, 37, 38, 39, 40, 41, 42, 43, 44] [] tm tm1).trans (hm.wk rfl rfl), ⟨(h3.fr hx).same hs, (h4.fr hx).same hs, h5.fr hm, hF, g1, ?_, ?_⟩, ?_, ?_⟩
  · rw [hx.2 13 rfl]; exact r12.2.1
  · rw [hx.2 14 rfl]; exact r12.2.2
  · rw [PD_eq hx, hx.2 808 rfl, ← h1.2 12 rfl]
    omega
  · rw [hx.2 808 rfl]
    omega
theorem DSz.le9 {t : St} (h : DSz t) : gN t 9 ≤ 1000000 := by
  have := h.2.2.1
  omega
theorem ud_9 {tx tm : St} (h : RD tx tm) : gN tx 9 ≤ 1000000 := h.1.le9
theorem op_chance {tx tm : St} (hK : RK tx tm) (hN : RN tx tm) (hR : RR tx tm) (hQ : RQ tm) (hH : RH tx tm) (hT : RTb tx tm) (hD : RD tx tm) (hM : RDm tm) (hF : RF tx tm) (h12 : R12 tx) (a1 : Int32) : ∃ r tx' tm', x11_chance tx a1 = some (r, tx') ∧ m_chance tm a1 = some (r, tm') ∧ KpC tx tm tx' tm' := by
  have h250 := nK_lt hK
  rcases pre_chance hK hN a1 with ⟨r, k1, k2⟩ | ⟨n, K, hn, hk, e16, e602, rfl⟩
  · exact ⟨r, tx, tm, k1, k2, KpC.id hT hD hM hF h12⟩
  obtain ⟨tx1, tm1, N, top, x1, m1, kp, hB, -, -⟩ := both_draw hK hR hQ hk hT hD hM
  have hx1 := kp.1
  have hm1 := kp.2.1
  have ex : x11_chance tx (jn n) = x11_chance_J35 tx1 (if N.length ≤ 400 then 1 else 0) := by
    unfold x11_chance x0_mayWork x0_mayWork_J5 x0_drawnSize
    rw [noNet_T hn, bs, if_pos rfl, hN.1, gd_jn (by omega) (by omega), jn_cl (by omega), e602]
    simp only [nm]
    rw [if_pos (jn_nn (by omega)), x1, bs, bs, hB.1.1.1, show (2 : Int32) = jn 2 from rfl, jn_sub (by omega), Nat.add_sub_cancel]
    have b3 := hB.2.2.1
    by_cases c : N.length ≤ 400
    · rw [if_neg (nd400 c), bs, if_pos c]
    · rw [if_pos (pd400 c (by omega)), bs, if_neg c]
  have em : m_whyChance tm (jn n) 1 = some (if N.length ≤ 400 then 1 else -5, tm1) := by
    unfold m_whyChance
    rw [why_ok hn e16 (by omega), bs, if_pos rfl, gd_jn (by omega) (by omega), jn_cl (by omega), e16, m1, bs, hB.2.1.1.1, List.length_map, show (2 : Int32) = jn 2 from rfl, jn_sub (by omega), Nat.add_sub_cancel]
    have b3 := hB.2.2.1
    by_cases c : N.length ≤ 400
    · rw [if_pos (pc400 c), if_pos c]
    · rw [if_neg (nc400 c (by omega)), if_neg c]
  by_cases c : N.length ≤ 400
  · rw [if_pos c] at ex em
    have hm := mN_le (kH tm K)
    have hH1 := hH.fr hx1 hm1
    have r12 := h12.fr hx1
    obtain ⟨tx2, b1, b2, b3⟩ := takeOdds_eq (never := 0) hB.2.2.2.2.2.2.2.1 r12.2.2 hH1 (by omega)
    have hB2 := hB.frx b2
    have uok := usU_ok hH1 0
    obtain ⟨tx3, a, c1, c2, c3, c4, c5, c6⟩ := work_of (u := usU tm1 0) hB2 c (r12.fr b2) (by rw [b2.2 9 rfl]; exact ud_9 kp.2.2.1.2.1) (fun r hr => (uok _ (odr_ok hr).1).1) b3
    have f13 : fx [12, 14] [12, 9000, 9001] tx1 tx3 := (b2.wk rfl rfl : fx [12, 14] [12, 9000, 9001] tx1 tx2).trans (c2.wk rfl rfl)
    have z0 : gN tx3 200 = 6 := (f13.2 200 rfl).trans ((hx1.2 200 rfl).trans hF.1)
    have z1 : gN tx3 201 = 6 := (f13.2 201 rfl).trans ((hx1.2 201 rfl).trans hF.2.1)
    obtain ⟨tx4, A, B, d1, d2, d3, d4, d5, d6, d7⟩ := th12_eq c5 (Nat.le_trans c4.1.le (by omega)) (by omega) z0 z1 c6 hm
    obtain ⟨tm2, tm3, T, e1, e2, e3, e4, e5, e6, e7, -⟩ := chances_of (never := 0) (to := 4507) hB c hH1 (by omega) (by omega) (by omega) (by omega)
    obtain ⟨tm4, g1, g2, g3⟩ := wholes_eq (t := tm3) (x := 4505) (n := 16) (by omega) (by omega)
    have p16' := p16
    have Bp7 : 2 * 1000 ^ 16 ≤ Bp 7 := Nat.le_trans (by rw [Nat.mul_comm]; exact Nat.mul_le_mul_left _ (by omega)) (Nat.le_of_lt p16')
    obtain ⟨tm5, i1, i2, i3, i4⟩ := tells_eq (x := 4507) (y := 4505) (by omega) (by omega) (by omega) (by omega) (e5.sl1 g2 (by omega)) g3 (Nat.pow_pos (by omega)) Bp7
    obtain ⟨s1, s2⟩ := fr_same d5 d6 d7 e6 (Nat.pow_pos (by omega))
    rw [s1] at i3
    rw [s2] at i4
    have fm : fx [34, 43] [] tm1 tm5 := (e3.wk rfl rfl : fx [34, 43] [] tm1 tm2).trans ((e4.1.wk rfl rfl : fx [34, 43] [] tm2 tm3).trans ((g2.1.wk rfl rfl : fx [34, 43] [] tm3 tm4).trans (i2.1.wk rfl rfl)))
    have f14 : fx [12, 13, 14, 200, 201] [12, 9000, 9001] tx1 tx4 := (f13.wk rfl rfl : fx [12, 13, 14, 200, 201] [12, 9000, 9001] tx1 tx3).trans (d2.wk rfl rfl)
    have W : (N.length + 2) * ((mN (kH tm K) + 2) / 3) ≤ 16384 := Nat.le_trans (Nat.mul_le_mul (show N.length + 2 ≤ 402 by omega) (show (mN (kH tm K) + 2) / 3 ≤ 6 by omega)) (by omega)
    have gw : Gw 12 ((N.length + 2) * ((mN (kH tm K) + 2) / 3)) tx1 tx4 := by
      refine Gw.fx (S := [200, 201]) ?_ d2
      unfold Gw at c3 ⊢
      rw [b2.2 12 rfl, b2.2 9000 rfl, b2.2 9001 rfl] at c3
      exact c3
    refine ⟨1, tx4, tm5, ?_, ?_, KpC.mk2 kp h12 f14 (fm.wk rfl rfl) (rf_of ((d2.2 200 rfl).trans z0) ((d2.2 201 rfl).trans z1) d3 d4 i3 i4) W gw⟩
    · rw [ex]
      unfold x11_chance_J35 x11_chance_J56
      rw [if_neg (by decide), show (0 : Int32) = jn 0 from rfl, b1, bs, c1, bs]
      dsimp only
      rw [(f13.1 6 rfl).1, (f13.1 803 rfl).1, hB.1.2.2.1, hB.2.2.2.2.2.2.2.1.2.1, d1, bs]
    · unfold m_chance
      rw [show (1 : Int32) = 1 from rfl, em, bs]
      dsimp only
      rw [if_pos rfl, show (0 : Int32) = jn 0 from rfl, e1, bs, show (4507 : Int32) = jn 4507 from rfl, e2, bs, show (4505 : Int32) = jn 4505 from rfl, show (16 : Int32) = jn 16 from rfl, g1, bs, i1, bs]
  · rw [if_neg c] at ex em
    refine ⟨-5, tx1, tm1, ?_, ?_, KpC.ofD kp hF h12⟩
    · rw [ex]
      unfold x11_chance_J35
      rw [if_pos rfl]
    · unfold m_chance
      rw [em, bs]
      dsimp only
      rw [if_neg (by decide)]
