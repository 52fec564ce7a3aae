/-! The front on both sides. -/
def PF (t : St) : Nat := 2 * gN t 405 + 2 * gN t 406 + 2 * gN t 407
theorem PF_eq {t u : St} {S T : List Nat} (hx : fx S T t u) (h : (T.elem 405 || T.elem 406 || T.elem 407) = false := by rfl) : PF u = PF t := by
  simp only [Bool.or_eq_false_iff] at h
  unfold PF
  rw [hx.2 405 h.1.1, hx.2 406 h.1.2, hx.2 407 h.2]
def KpF (tx tm tx' tm' : St) : Prop := fx [2, 3, 4, 5, 6, 7, 8, 9, 10, 11, 12, 13, 14, 200, 201, 405, 406, 407, 408, 409, 410, 411, 801, 802, 803, 804, 805, 806, 807, 808, 809, 810, 811, 812, 813, 814] [7, 8, 9, 10, 11, 12, 405, 406, 407, 808, 9000, 9001] tx tx' ∧ fx [34, 35, 36, 37, 38, 39, 40, 41, 42, 43, 44, 48, 49] [] tm tm' ∧ (RTb tx' tm' ∧ RD tx' tm' ∧ RDm tm' ∧ RF tx' tm' ∧ R12 tx' ∧ RFt tx' tm') ∧ gN tx' 9001 + 2 * gN tx 808 + PD tx + P12 (gN tx 12) + PF tx ≤ gN tx 9001 + 2 * gN tx' 808 + PD tx' + P12 (gN tx' 12) + PF tx' + 10604 ∧ gN tx' 9000 + gN tx 808 ≤ gN tx 9000 + gN tx' 808 + 9
theorem KpF.id {tx tm : St} (hT : RTb tx tm) (hD : RD tx tm) (hM : RDm tm) (hF : RF tx tm) (h12 : R12 tx) (hFt : RFt tx tm) : KpF tx tm tx tm := ⟨fx.rfl, fx.rfl, ⟨hT, hD, hM, hF, h12, hFt⟩, Nat.le_add_right _ _, Nat.le_add_right _ _⟩
/-- what may be changed behind -/
theorem KpF.on {tx tm tx1 tm1 tx' tm' : St} (h : KpF tx tm tx1 tm1) (hx : fx [200, 201] [] tx1 tx') (hm : fx [34, 43, 48, 49] [] tm1 tm') (hF : RF tx' tm') : KpF tx tm tx' tm' := by
  obtain ⟨h1, h2, ⟨h3, h4, h5, h6, h7, h8⟩, m1, m2⟩ := h
  have hs : SameK tm1 tm' := same_fx hm
  refine ⟨h1.trans (hx.wk rfl rfl), h2.trans (hm.wk rfl rfl), ⟨(h3.fr hx).same hs, (h4.fr hx).same hs, h5.fr hm, hF, h7.fr hx, (h8.frx hx).same hs (hm.1 2 rfl).2.2.1 (hm.1 45 rfl).1 (hm.1 46 rfl).2.2.1 (hm.1 47 rfl).2.2.1⟩, ?_, ?_⟩
  · rw [hx.2 9001 rfl, hx.2 808 rfl, PD_eq hx, PF_eq hx, hx.2 12 rfl]; exact m1
  · rw [hx.2 9000 rfl, hx.2 808 rfl]; exact m2
theorem both_front {tx tm : St} (hK : RK tx tm) (hR : RR tx tm) (hQ : RQ tm) (hH : RH tx tm) (hG : RG tx tm) {K : Nat} (hk : K < nK tm) (hT : RTb tx tm) (hD : RD tx tm) (hM : RDm tm) (hF : RF tx tm) (h12 : R12 tx) (hFt : RFt tx tm) : ∃ tx' tm' L, x4_drawFront tx (jn K) = some (if L ≤ 400 then 1 else 0, tx') ∧ m_diagrams tm (jn K) = some tm' ∧ gI tm' 36 = jn (L + 2) ∧ L ≤ 4261 ∧ KpF tx tm tx' tm' ∧ (L ≤ 400 → MB tm' (kH tm' K) (dgN (rwF tm' (kH tm' K) K) (mN (kH tm' K))) (dgTop (rwF tm' (kH tm' K) K) (mN (kH tm' K))) ∧ (dgN (rwF tm' (kH tm' K) K) (mN (kH tm' K))).length ≤ 400 ∧ FtX tx' tm' K) := by
  have h250 := nK_lt hK
  by_cases cached : jn K = gI tx 409
  · -- kept
    have hX : FtX tx tm K := by
      rcases hFt.2 with r | ⟨K', k1, k2, k3⟩
      · exact absurd (cached.trans r) (jn_ne1 (by omega))
      · have : K = K' := (jn_inj (by omega) (by omega)).mp (cached.trans k2)
        rw [this]; exact k3
    obtain ⟨tm', m1, m2, m3, m4⟩ := diagrams_eq hK hR hk hM
    have hs : SameK tm tm' := same_fx m2
    have hHl := kH_lt hK hk
    obtain ⟨e1, e2⟩ := dgN_same hHl (F := rch tm K) (f := rwF tm (kH tm K) K) fun p _ => (rwF_nw hK hk p).symm
    have eH : kH tm' = kH tm := hs.2.2.1
    have eF : ∀ H p, rwF tm' H p = rwF tm H p := fun H p => by unfold rwF; rw [hs.2.1]
    have n36 : gI tm' 36 = jn ((dgN (rwF tm (kH tm K) K) (mN (kH tm K))).length + 2) := by
      have := m4.1.1
      rw [e1, List.length_map] at this
      exact this
    have l400 := hX.1.1
    refine ⟨tx, tm', (dgN (rwF tm (kH tm K) K) (mN (kH tm K))).length, ?_, m1, n36, by omega, ⟨fx.rfl, m2.wk rfl rfl, ⟨hT.same hs, hD.same hs, Or.inr ⟨K, by rw [hs.1]; exact hk, m3, by rw [hs.2.1]; exact m4⟩, hF.fr fxn m2, h12, hFt.same hs (m2.1 2 rfl).2.2.1 (m2.1 45 rfl).1 (m2.1 46 rfl).2.2.1 (m2.1 47 rfl).2.2.1⟩, by omega, by omega⟩, fun _ => ⟨?_, ?_, hX.same hs (m2.1 2 rfl).2.2.1 (m2.1 45 rfl).1 (m2.1 46 rfl).2.2.1 (m2.1 47 rfl).2.2.1⟩⟩
    · unfold x4_drawFront
      rw [if_pos cached, if_pos l400]
    · rw [eH, eF]
      refine ⟨⟨?_, ?_, m4.2.2⟩, (dg_ok _ (Nat.le_refl _)).1, dg_wl _ (Nat.le_refl _), fun i hi => (dg_mem (Nat.le_refl _) (getD_memN hi)).2, ?_⟩
      · rw [← e1]; exact m4.1
      · rw [← e2]; exact m4.2.1
      · exact (dg_ok (rwF tm (kH tm K) K) (Nat.le_refl (mN (kH tm K)))).2 0 (Nat.two_pow_pos _)
    · rw [eH, eF]; exact l400
  · obtain ⟨tx1, tm1, x1, m1, kp, hB, -, hTK⟩ := both_draw2 hK hR hQ hk hT hD hM
    have hx1 := kp.1
    have hm1 := kp.2.1
    have hs : SameK tm tm1 := same_fx hm1
    have eH : kH tm1 = kH tm := hs.2.2.1
    have eF : ∀ H p, rwF tm1 H p = rwF tm H p := fun H p => by unfold rwF; rw [hs.2.1]
    have n36 : gI tm1 36 = jn ((dgN (rwF tm (kH tm K) K) (mN (kH tm K))).length + 2) := by
      have := hB.2.1.1.1
      rw [List.length_map] at this
      exact this
    have b3 := hB.2.2.1
    have hH1 : RH tx1 tm1 := hH.fr hx1 hm1
    have hG1 : RG tx1 tm1 := hG.fr hx1 hm1
    have r12 := h12.fr hx1
    have hFt1 : RFt tx1 tm1 := (hFt.frx hx1).same hs (hm1.1 2 rfl).2.2.1 (hm1.1 45 rfl).1 (hm1.1 46 rfl).2.2.1 (hm1.1 47 rfl).2.2.1
    have kpF : KpF tx tm tx1 tm1 := by
      obtain ⟨h1, h2, ⟨h3, h4, h5⟩, h6, h7⟩ := kp
      refine ⟨h1.wk rfl rfl, h2.wk rfl rfl, ⟨h3, h4, h5, hF.fr h1 h2, r12, hFt1⟩, ?_, by omega⟩
      rw [h1.2 12 rfl, PF_eq h1]
      omega
    have ex : x4_drawFront tx (jn K) = x4_drawFront_J18 tx1 (jn K) := by
      unfold x4_drawFront
      rw [if_neg cached, x1, bs]
    have es : x0_drawnSize tx1 = some (jn (dgN (rwF tm (kH tm K) K) (mN (kH tm K))).length) := by
      unfold x0_drawnSize
      rw [hB.1.1.1, show (2 : Int32) = jn 2 from rfl, jn_sub (by omega), Nat.add_sub_cancel]
    by_cases c : (dgN (rwF tm (kH tm K) K) (mN (kH tm K))).length ≤ 400
    · generalize ht2 : sI (sI (sI tx1 409 (jn K)) 410 (jn ((mN (kH tm K) + 2) / 3))) 411 (jn (mN (kH tm K))) = t2
      have f2 : fx [409, 410, 411] [] tx1 t2 := by
        rw [← ht2]
        exact ((fx_sI rfl).trans (fx_sI rfl)).trans (fx_sI rfl)
      have s2 : gI t2 409 = jn K ∧ gI t2 410 = jn ((mN (kH tm K) + 2) / 3) ∧ gI t2 411 = jn (mN (kH tm K)) := by
        subst ht2; exact ⟨rfl, rfl, rfl⟩
      have hB' := hB
      rw [← eH, ← eF] at hB'
      have G2 : RG t2 tm1 := hG1.fr f2 fxn
      have H2 : RH t2 tm1 := hH1.fr f2 fxn
      obtain ⟨t3, cn, ks, w1, w2, ⟨w3, w4, w5, w6, w7⟩, w8, w9, z1, z2, z3, z4, z5⟩ := workChances_eq (t := t2) (tm := tm1) (K := K) (n := (mN (kH tm K) + 2) / 3) G2 H2 (hB'.frx f2) (by rw [eH, eF]; exact c) (by rw [eH]) (r12.fr f2) (by rw [f2.2 9 rfl]; exact ud_9 kp.2.2.1.2.1) s2.2.1 (by rw [f2.2 405 rfl]; exact hFt1.1.1) (by rw [f2.2 407 rfl]; exact hFt1.1.2.2)
      have F3 : fx [12, 14, 405, 407, 409, 410, 411] [12, 405, 407, 9000, 9001] tx1 t3 := (f2.wk rfl rfl : fx [12, 14, 405, 407, 409, 410, 411] [12, 405, 407, 9000, 9001] tx1 t2).trans (w2.wk rfl rfl)
      have G3 : RG t3 tm1 := hG1.fr F3 fxn
      have hm := mN_le (kH tm K)
      obtain ⟨t4, v1, v2, v3, v4, v5, v6⟩ := frontDone_eq (t := t3) (K := K) (n := (mN (kH tm K) + 2) / 3) (c := cn) G3 (by omega) (by rw [(w2.1 410 rfl).1]; exact s2.2.1) w6 w4 w7 (by rw [F3.2 406 rfl]; exact hFt1.1.2.1) z1 z2 z3 z4 z5
      have F4 : fx [12, 14, 405, 406, 407, 408, 409, 410, 411] [12, 405, 406, 407, 9000, 9001] tx1 t4 := (F3.wk rfl rfl : fx [12, 14, 405, 406, 407, 408, 409, 410, 411] [12, 405, 406, 407, 9000, 9001] tx1 t3).trans (v2.wk rfl rfl)
      have hX : FtX t4 tm1 K := by
        refine ⟨⟨by rw [eH, eF]; exact c, ?_, ?_, ?_⟩, ?_⟩
        · rw [eH, (v2.1 410 rfl).1, (w2.1 410 rfl).1]; exact s2.2.1
        · rw [eH, (v2.1 411 rfl).1, (w2.1 411 rfl).1]; exact s2.2.2
        · rw [eH, v2.2 405 rfl]; exact w6
        · rw [eH]; exact v6
      have hFt4 : RFt t4 tm1 := ⟨⟨by rw [v2.2 405 rfl]; exact w4, v3, by rw [v2.2 407 rfl]; exact w5⟩, Or.inr ⟨K, by rw [hs.1]; exact hk, by rw [(v2.1 409 rfl).1, (w2.1 409 rfl).1]; exact s2.1, hX⟩⟩
      obtain ⟨h1, h2, ⟨h3, h4, h5⟩, h6, h7⟩ := kp
      refine ⟨t4, tm1, (dgN (rwF tm (kH tm K) K) (mN (kH tm K))).length, ?_, m1, n36, b3, ⟨(h1.wk rfl rfl : fx [2, 3, 4, 5, 6, 7, 8, 9, 10, 11, 12, 13, 14, 200, 201, 405, 406, 407, 408, 409, 410, 411, 801, 802, 803, 804, 805, 806, 807, 808, 809, 810, 811, 812, 813, 814] [7, 8, 9, 10, 11, 12, 405, 406, 407, 808, 9000, 9001] tx tx1).trans (F4.wk rfl rfl), h2.wk rfl rfl, ⟨h3.fr F4, h4.fr F4, h5, (hF.fr h1 h2).fr F4 fxn, w3.fr v2, hFt4⟩, ?_, ?_⟩, fun _ => ⟨?_, ?_, hX⟩⟩
      · rw [ex, if_pos c]
        unfold x4_drawFront_J18
        rw [es, bs, if_pos (pc400 c)]
        simp only [nm]
        rw [((fx_sI rfl : fx [409] [] tx1 (sI tx1 409 (jn K))).1 6 rfl).1, hB.1.2.2.1, (((fx_sI rfl : fx [409, 410] [] tx1 (sI tx1 409 (jn K))).trans (fx_sI rfl : fx [409, 410] [] _ (sI (sI tx1 409 (jn K)) 410 (jn ((mN (kH tm K) + 2) / 3))))).1 803 rfl).1, hB.2.2.2.2.2.2.2.1.2.1, ht2, w1, bs]
        exact v1
      · have e12 : gN tx1 12 = gN tx 12 := h1.2 12 rfl
        have e1 : gN t2 12 = gN tx1 12 := f2.2 12 rfl
        have e2 : gN t2 9001 = gN tx1 9001 := f2.2 9001 rfl
        have e3 : gN t4 12 = gN t3 12 := v2.2 12 rfl
        have e4 : gN t4 808 = gN tx1 808 := F4.2 808 rfl
        have e5 : PD t4 = PD tx1 := PD_eq F4
        have e6 : gN t4 405 = gN t3 405 := v2.2 405 rfl
        have e7 : gN t4 407 = gN t3 407 := v2.2 407 rfl
        have e8 : gN t3 406 = gN tx 406 := (F3.2 406 rfl).trans (h1.2 406 rfl)
        have e9 : gN t2 405 = gN tx 405 := (f2.2 405 rfl).trans (h1.2 405 rfl)
        have e10 : gN t2 407 = gN tx 407 := (f2.2 407 rfl).trans (h1.2 407 rfl)
        rw [e1, e2, e12] at w8
        rw [e3, e4, e5]
        unfold PF
        omega
      · have e2 : gN t2 9000 = gN tx1 9000 := f2.2 9000 rfl
        have e4 : gN t4 808 = gN tx1 808 := F4.2 808 rfl
        omega
      · rw [eH, eF]; exact hB.mb
      · rw [eH, eF]; exact c
    · refine ⟨tx1, tm1, (dgN (rwF tm (kH tm K) K) (mN (kH tm K))).length, ?_, m1, n36, b3, kpF, fun z => absurd z c⟩
      rw [ex, if_neg c]
      unfold x4_drawFront_J18
      rw [es, bs, if_neg (nc400 c (by omega))]
/-- the reference's first part -/
theorem whyC_front {tm tm' : St} {n K L : Nat} (hn : n ≤ 9) (e16 : gA tm 16 n = jn K) (hK : K < 400) (m1 : m_diagrams tm (jn K) = some tm') (n36 : gI tm' 36 = jn (L + 2)) (hL : L ≤ 4261) : m_whyChance tm (jn n) 1 = some (if L ≤ 400 then 1 else -5, tm') := by
  unfold m_whyChance
  rw [why_ok hn e16 (by omega), bs, if_pos rfl, gd_jn (by omega) (by omega), jn_cl (by omega), e16, m1, bs, n36, show (2 : Int32) = jn 2 from rfl, jn_sub (by omega), Nat.add_sub_cancel]
  by_cases c : L ≤ 400
  · rw [if_pos (pc400 c), if_pos c]
  · rw [if_neg (nc400 c (by omega)), if_neg c]
theorem op_front {tx tm : St} (hK : RK tx tm) (hN : RN tx tm) (hR : RR tx tm) (hQ : RQ tm) (hH : RH tx tm) (hG : RG tx tm) (hT : RTb tx tm) (hD : RD tx tm) (hM : RDm tm) (hF : RF tx tm) (h12 : R12 tx) (hFt : RFt tx tm) (a1 : Int32) : ∃ r tx' tm', x11_front tx a1 = some (r, tx') ∧ m_front tm a1 = some (r, tm') ∧ KpF tx tm tx' tm' := by
  have h250 := nK_lt hK
  rcases pre_front hK hN a1 with ⟨r, k1, k2⟩ | ⟨n, K, hn, hk, e16, e602, rfl⟩
  · exact ⟨r, tx, tm, k1, k2, KpF.id hT hD hM hF h12 hFt⟩
  obtain ⟨tx1, tm1, L, x1, m1, n36, hL, kp, ok⟩ := both_front hK hR hQ hH hG hk hT hD hM hF h12 hFt
  have em := whyC_front hn e16 (by omega) m1 n36 hL
  have ex : x11_front tx (jn n) = x11_front_J35 tx1 (if L ≤ 400 then 1 else 0) := by
    unfold x11_front
    rw [noNet_T hn, bs, if_pos rfl, hN.1, gd_jn (by omega) (by omega), jn_cl (by omega), e602]
    simp only [nm]
    rw [if_pos (jn_nn (by omega)), x1, bs]
  by_cases c : L ≤ 400
  · rw [if_pos c] at ex em
    obtain ⟨o1, o2, o3⟩ := ok c
    have hG1 : RG tx1 tm1 := hG.fr kp.1 kp.2.1
    have hH1 : RH tx1 tm1 := hH.fr kp.1 kp.2.1
    obtain ⟨tm2, m, g, f1, f2, f3, f4, f5, f6⟩ := findFront_eq hG1 hH1 o1 o2
    obtain ⟨-, m', g', q1, q2, q3, q4⟩ := o3
    have eL := q4.len f6
    refine ⟨jn m', tx1, tm2, ?_, ?_, kp.on fx.rfl f2.1 (kp.2.2.1.2.2.2.1.k45 f2.2)⟩
    · rw [ex]
      unfold x11_front_J35
      rw [if_neg (by decide), q1]
    · unfold m_front
      rw [em, bs]
      (try dsimp only)
      rw [if_pos rfl, f1, bs, f4, eL]
  · rw [if_neg c] at ex em
    refine ⟨-5, tx1, tm1, ?_, ?_, kp⟩
    · rw [ex]
      unfold x11_front_J35
      rw [if_pos rfl]
    · unfold m_front
      rw [em, bs]
      (try dsimp only)
      rw [if_neg (by decide)]
theorem op_frontAt {tx tm : St} (hK : RK tx tm) (hN : RN tx tm) (hR : RR tx tm) (hQ : RQ tm) (hH : RH tx tm) (hG : RG tx tm) (hT : RTb tx tm) (hD : RD tx tm) (hM : RDm tm) (hF : RF tx tm) (h12 : R12 tx) (hFt : RFt tx tm) (a1 a2 a3 : Int32) : ∃ r tx' tm', x11_frontAt tx a1 a2 a3 = some (r, tx') ∧ m_frontAt tm a1 a2 a3 = some (r, tm') ∧ KpF tx tm tx' tm' := by
  have h250 := nK_lt hK
  rcases pre_frontAt hK hN a1 a2 a3 with ⟨r, k1, k2⟩ | ⟨n, K, hn, hk, e16, e602, rfl, ⟨i, hi, rfl⟩, w, -, hw, rfl⟩
  · exact ⟨r, tx, tm, k1, k2, KpF.id hT hD hM hF h12 hFt⟩
  obtain ⟨tx1, tm1, L, x1, m1, n36, hL, kp, ok⟩ := both_front hK hR hQ hH hG hk hT hD hM hF h12 hFt
  have em := whyC_front hn e16 (by omega) m1 n36 hL
  have nn : ¬ jn i < 0 := jn_neg hi
  have ex : x11_frontAt tx (jn n) (jn i) (jn w) = x11_frontAt_J51 tx1 (jn i) (jn w) (if L ≤ 400 then 1 else 0) := by
    unfold x11_frontAt
    rw [noNet_T hn, bs, if_pos rfl, if_neg nn, show x11_outside tx (jn w) 0 1 = some 0 from oT (Nat.zero_le w) hw (by decide) tx, bs, if_pos rfl, hN.1, gd_jn (by omega) (by omega), jn_cl (by omega), e602]
    simp only [nm]
    rw [if_pos (jn_nn (by omega)), x1, bs]
  have M0 : m_frontAt tm (jn n) (jn i) (jn w) = m_frontAt_J20 tm (jn i) (jn w) (jn n) 1 := by
    unfold m_frontAt
    rw [if_neg nn, show m_in tm (jn w) 0 1 = some 1 from iT (Nat.zero_le w) hw (by decide) tm, bs, if_neg (by decide)]
  by_cases c : L ≤ 400
  · rw [if_pos c] at ex em
    obtain ⟨o1, o2, o3⟩ := ok c
    have hG1 : RG tx1 tm1 := hG.fr kp.1 kp.2.1
    have hH1 : RH tx1 tm1 := hH.fr kp.1 kp.2.1
    have hF1 := kp.2.2.1.2.2.2.1
    have hp := pow_le10 hG1.1.2.1
    have hm := mN_le (kH tm1 K)
    obtain ⟨tm2, m, g, f1, f2, f3, f4, f5, f6⟩ := findFront_eq hG1 hH1 o1 o2
    obtain ⟨⟨-, p1, p2, p3⟩, m', g', q1, q2, q3, q4⟩ := o3
    have eL := q4.len f6
    subst eL
    have ml := f6.le (fun t ht => ht)
    have b5 := kp.2.2.1.2.2.2.2.2.1.1
    by_cases d : i < m'
    · obtain ⟨-, eg⟩ := q4.same f6 i d
      have gl := q4.1 i d
      have fi := f5 i d
      rw [← eg] at fi
      have bg := (q3 i d).2
      obtain ⟨tx2, A, B, d1, d2, d3, d4, d5, d6, d7⟩ := th405_eq (t := tx1) (rowin gl p3) (by omega) (show (mN (kH tm1 K) + 2) / 3 ≤ 6 by omega) hF1.1 hF1.2.1 bg hm
      obtain ⟨tm3, t1, t2, t3⟩ := wholes_eq (t := tm2) (x := 4505) (n := 16) (by omega) (by omega)
      obtain ⟨tm4, t4, t5, t6⟩ := takes_eq (t := tm3) (x := 4507) (y := 402 + g' i) (by omega) (by omega) (by omega) ((f3 _ gl).sl1 t2 (by omega))
      have p16' := p16
      have Bp7 : 2 * 1000 ^ 16 ≤ Bp 7 := Nat.le_trans (by rw [Nat.mul_comm]; exact Nat.mul_le_mul_left _ (by omega)) (Nat.le_of_lt p16')
      obtain ⟨tm5, i1, i2, i3, i4⟩ := tells_eq (x := 4507) (y := 4505) (by omega) (by omega) (by omega) (by omega) t6 (t3.sl1 t5 (by omega)) (Nat.pow_pos (by omega)) Bp7
      obtain ⟨r1, r2⟩ := fr_same (T := fvl tm1 K (g' i) * 1000 ^ (16 - mN (kH tm1 K))) (P := 1000 ^ 16) d5 d6 d7 (by rw [Nat.mul_assoc, ← Nat.pow_add, Nat.sub_add_cancel hm]) (Nat.pow_pos (by omega))
      rw [r1] at i3
      rw [r2] at i4
      have F5 : fx [34] [] tm2 tm5 := t2.1.trans (t5.1.trans i2.1)
      have z0 : gN tx2 200 = 6 := (d2.2 200 rfl).trans hF1.1
      have z1 : gN tx2 201 = 6 := (d2.2 201 rfl).trans hF1.2.1
      have e49 : gA tm5 49 i = jn (g' i) := by rw [(F5.1 49 rfl).2.2.1]; exact fi
      have Gm5 : RG tx1 tm5 := (hG1.fr fxn f2.1).fr fxn F5
      have pr : fpr tm5 = fpr tm1 := by
        have a45 : gI tm5 45 = gI tm1 45 := (F5.1 45 rfl).1.trans (f2.1.1 45 rfl).1
        have a47 : gA tm5 47 = gA tm1 47 := (F5.1 47 rfl).2.2.1.trans (f2.1.1 47 rfl).2.2.1
        funext x
        unfold fpr wagesOf gWa nG
        rw [a45, a47]
      have G2 : RG tx2 tm1 := hG1.fr d2 fxn
      refine ⟨if w = 0 then jn (g' i) else jn (fpr tm1 (g' i)), tx2, tm5, ?_, ?_, kp.on d2 (f2.1.trans (F5.wk rfl rfl)) (rf_of z0 z1 d3 d4 i3 i4)⟩
      · rw [ex]
        unfold x11_frontAt_J51
        rw [if_neg (by decide), q1, if_pos ((jn_lt (by omega) (by omega)).mpr d), gd_jn (by omega) (by omega), jn_cl (by omega), (q3 i d).1]
        simp only [nm]
        rw [p1, p2, jn_mul, d1, bs]
        by_cases w0 : w = 0
        · subst w0
          rw [if_pos (show jn 0 = 0 from rfl), if_pos rfl]
        · rw [if_neg (jn_nz w0 (by omega)), if_neg w0, G2.2.2.2.1, gd_jn gl (by omega), jn_cl (by omega), fpr_at G2 gl]
      · rw [M0]
        unfold m_frontAt_J20
        rw [em, bs]
        (try dsimp only)
        rw [if_pos rfl, f1, bs, f4, if_pos ((jn_lt (by omega) (by omega)).mpr d), show (4505 : Int32) = jn 4505 from rfl, show (16 : Int32) = jn 16 from rfl, t1, bs, gd_jn (by omega) (by omega), jn_cl (by omega), (t2.1.1 49 rfl).2.2.1, fi, j402, show (4507 : Int32) = jn 4507 from rfl, t4, bs, i1, bs, e49]
        by_cases w0 : w = 0
        · subst w0
          rw [if_pos (show jn 0 = 0 from rfl), if_pos rfl, gd_jn (by omega) (by omega)]
        · rw [if_neg (jn_nz w0 (by omega)), if_neg w0, gd_jn (by omega) (by omega), m_wages_eq Gm5 (by omega), bs, ← pr]
          rfl
    · refine ⟨-1, tx1, tm2, ?_, ?_, kp.on fx.rfl f2.1 (hF1.k45 f2.2)⟩
      · rw [ex]
        unfold x11_frontAt_J51
        rw [if_neg (by decide), q1, if_neg (fun e => d ((jn_lt (by omega) (by omega)).mp e))]
      · rw [M0]
        unfold m_frontAt_J20
        rw [em, bs]
        (try dsimp only)
        rw [if_pos rfl, f1, bs, f4, if_neg (fun e => d ((jn_lt (by omega) (by omega)).mp e))]
  · rw [if_neg c] at ex em
    refine ⟨-5, tx1, tm1, ?_, ?_, kp⟩
    · rw [ex]
      unfold x11_frontAt_J51
      rw [if_pos rfl]
    · rw [M0]
      unfold m_frontAt_J20
      rw [em, bs]
      (try dsimp only)
      rw [if_neg (by decide)]
