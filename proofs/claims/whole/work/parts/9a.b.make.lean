/-! A net out of a text. -/
theorem rch_ag {tx tm tm' : St} (hK : RK tx tm) (h : AgM (nK tm) (nP tm) tm tm') {k : Nat} (hk : k < nK tm) (set : Nat) : rch tm' k set = rch tm k set := by
  have key : ∀ f k, k < nK tm → rchF tm' f k set = rchF tm f k set := by
    intro f
    induction f with
    | zero => intro k _; rfl
    | succ f ih =>
      intro k hk
      obtain ⟨s1, s2, s3, d1, d2, d3, h1, h2, h3, m1, m2, q1, q2⟩ := hK.2.2.2 k hk
      obtain ⟨e8, e9, e10, e11, e12, e15⟩ := h.1 k hk
      have eS : kS tm' k = kS tm k := by unfold kS; rw [e8]
      have eD : kD tm' k = kD tm k := by unfold kD; rw [e9]
      have eT : kT tm' k = kT tm k := by unfold kT; rw [e10]
      have eF : kF tm' k = kF tm k := by unfold kF; rw [e11]
      have eN : kN tm' k = kN tm k := by unfold kN; rw [e12]
      unfold rchF kE
      rw [eS, eD, eT, eN]
      by_cases q : kS tm k = 0
      · rw [if_pos q, if_pos q]
      · rw [if_neg q, if_neg q, cntB_cong (g := fun i => rchF tm f (kP tm k i) set) (fun i hi => by
          have e14 := h.2 (kF tm k + i) (by have := (q2 q).2.2.2.2.1; omega)
          have eP : kP tm' k i = kP tm k i := by unfold kP; rw [eF, e14]
          rw [eP]
          exact ih _ (by have := kP_lt hK hk q hi; omega))]
  exact key (k + 1) k hk
theorem RT.tc {tx tm : St} (h : RT tx tm) : ∃ c n, n ≤ 80 ∧ (∀ i, c i ≤ 127) ∧ TXc c n tx ∧ TMc c n tm := by
  obtain ⟨hN, n, hn, e5, e6, hc⟩ := h
  refine ⟨fun i => if i < n then (gA tm 6 i).toNatClampNeg else 0, n, hn, fun i => ?_, ⟨hN, e5, fun i hi => ?_⟩, e6, fun i hi => ?_⟩
  · dsimp only
    by_cases q : i < n
    · rw [if_pos q]
      obtain ⟨-, c, h1, h2⟩ := hc i q
      rw [h2, jn_cl (by omega)]
      exact h1
    · rw [if_neg q]; omega
  · dsimp only
    rw [if_pos hi]
    obtain ⟨h0, c, h1, h2⟩ := hc i hi
    rw [h0, h2, jn_cl (by omega)]
  · dsimp only
    rw [if_pos hi]
    obtain ⟨h0, c, h1, h2⟩ := hc i hi
    rw [h2, jn_cl (by omega)]
def Made (tx tm tx' tm' : St) : Prop := RK tx' tm' ∧ RN tx' tm' ∧ RR tx' tm' ∧ nK tm ≤ nK tm' ∧ nP tm ≤ nP tm' ∧ Low tx tm tx' tm' ∧ ∀ j, gA tm' 18 j = if nK tm ≤ j ∧ j < nK tm' then -1 else gA tm 18 j
theorem lays_all {tx tm : St} (hK : RK tx tm) {a : Nat} (ha : a ≤ nK tm) (hR : RRp tm a) (v1 : Int32) : ∃ t', lp (fun y : Int32 × St => m_make_B55 v1 y.1 y.2) (jn a, tm) = some t' ∧ fx [17, 18, 27] [] tm t' ∧ RRp t' (nK tm) ∧ ∀ j, gA t' 18 j = if a ≤ j ∧ j < nK tm then -1 else gA tm 18 j := by
  have h250 := nK_lt hK
  have h7 := hK.2.1.1
  refine lp_cnt (b := fun y : Int32 × St => m_make_B55 v1 y.1 y.2) (fun i s => (jn i, s)) (nK tm)
    (fun i s => fx [17, 18, 27] [] tm s ∧ RRp s i ∧ a ≤ i ∧ ∀ j, gA s 18 j = if a ≤ j ∧ j < i then -1 else gA tm 18 j)
    (fun s => fx [17, 18, 27] [] tm s ∧ RRp s (nK tm) ∧ ∀ j, gA s 18 j = if a ≤ j ∧ j < nK tm then -1 else gA tm 18 j) ?_ ?_ a tm ha ⟨fx.rfl, hR, Nat.le_refl _, fun j => by rw [if_neg (by omega)]⟩
  · rintro i s hi ⟨hf, h1, h2, h3⟩
    have ks : nK s = nK tm := nK_fr hf
    obtain ⟨t', k1, f1, r1, v1'⟩ := m_lays_eq (tx := tx) (t := s) (hK.fr (fx.rfl (S := []) (T := [])) hf) (k := i) (by omega) h1
    refine ⟨t', ?_, hf.trans f1, r1, by omega, fun j => ?_⟩
    · dsimp only
      unfold m_make_B55
      rw [(hf.1 7 rfl).1, h7, if_neg (nle hi (by omega)), k1, bs]
      simp only [nm, jn_s]
    · rw [v1', h3]
      by_cases e : j = i
      · subst e
        rw [if_pos rfl, if_pos (by omega)]
      · rw [if_neg e]
        by_cases z : a ≤ j ∧ j < i
        · rw [if_pos z, if_pos (by omega)]
        · rw [if_neg z, if_neg (by omega)]
  · rintro s ⟨hf, h1, -, h3⟩
    refine ⟨s, ?_, hf, h1, h3⟩
    dsimp only
    unfold m_make_B55
    rw [(hf.1 7 rfl).1, h7, if_pos (lee (by omega))]
theorem op_make {tx tm : St} (hT : RT tx tm) (hK : RK tx tm) (hN : RN tx tm) (hR : RR tx tm) (hU : gN tx 701 = 330) (a1 : Int32) : ∃ r tx' tm', x11_make tx a1 = some (r, tx') ∧ m_make tm a1 = some (r, tm') ∧ Made tx tm tx' tm' := by
  have low : Low tx tm tx tm := ⟨AgM.rfl, AgX.rfl, hK.2.2.1.2.2.2.1, hK.2.2.1.2.2.2.2.1, hK.2.2.1.2.2.2.2.2, Nat.le_refl _, Nat.le_refl _⟩
  unfold x11_make m_make
  rcases io a1 0 9 with ⟨m, l1, u1, rfl⟩ | n1
  · have f1 : m_isNet tm (jn m) = some 1 := by
      unfold m_isNet
      rw [show m_in tm (jn m) 0 9 = some 1 from iT l1 u1 (by decide) tm, bs]
    rw [noNet_T u1, f1, bs, bs, if_pos rfl, if_neg (by decide)]
    obtain ⟨c, n, hn, hc, a1, a2⟩ := hT.tc
    simp only [nm]
    rcases text_ok hn hc hK hN hU a1 a2 with ⟨v, q, at_, tx', tmr, e1, e2, q1, q2, q3, q4, q5, q6, q7, lo⟩ | ⟨k, tx', tmr, e1, e2, q4, q5, q6, hK', hN', w1, w2, lo⟩
    · have fX := fr_x7_readText _ _ e1
      have fM := fr_m_reads _ _ e2
      rw [e1, e2, bs, bs]
      dsimp only
      rw [if_neg (jn_nz (by omega) (by omega))]
      unfold x11_make_J17
      rw [if_neg (by rw [q4]; exact jn_nz (by omega) (by omega)), q4, show gI (sI (sI tmr 7 (gI tm 7)) 13 (gI tm 13)) 25 = jn at_ from q5, show (10 : Int32) = jn 10 from rfl, jn_mul, jn_add]
      generalize ht : sI (sI tmr 7 (gI tm 7)) 13 (gI tm 13) = tm'
      have ft : fx [7, 13] [] tmr tm' := by subst ht; exact (fx_sI rfl).trans (fx_sI rfl)
      have fa := fM.trans (ft.wk rfl rfl)
      have i7 : gI tm' 7 = gI tm 7 := by subst ht; rfl
      have i13 : gI tm' 13 = gI tm 13 := by subst ht; rfl
      have ek : nK tm' = nK tm := by unfold nK; rw [i7]
      have ep : nP tm' = nP tm := by unfold nP; rw [i13]
      have lo' := lo.fr (tx' := tx') (tm' := tm') (fx.rfl (S := []) (T := [])) ft
      obtain ⟨⟨z3, z4, z5, z6, z7⟩, ⟨n1, n2, n3⟩, ⟨p1, p2, p3, p4, p5, p6⟩, hall⟩ := id hK
      refine ⟨jn (10 * at_ + q), tx', tm', rfl, rfl, ⟨⟨(fX.2 603 rfl).trans z3, (fX.2 604 rfl).trans z4, (fX.2 605 rfl).trans z5, (fX.2 606 rfl).trans z6, (fX.2 607 rfl).trans z7⟩, ⟨by rw [i7, ek]; exact n1, by omega, by rw [q6, i7]; exact n3⟩, ⟨by rw [i13, ep]; exact p1, by omega, by rw [q7, i13]; exact p3, by rw [ep]; exact lo.2.2.1, lo.2.2.2.1, lo.2.2.2.2.1⟩, fun k hk => ?_⟩, ?_, ?_, by omega, by omega, lo', fun j => ?_⟩
      · rw [ek] at hk
        exact (hall k hk).to hk (Nat.le_refl _) (by omega) lo'.1 lo'.2.1
      · exact hN.up fX fa (by omega)
      · intro k w j hk hw hj
        rw [ek] at hk
        rw [(fa.1 17 rfl).2.2.2, rch_ag hK lo'.1 hk]
        exact hR k w j hk hw hj
      · rw [ek, if_neg (by omega), (fa.1 18 rfl).2.2.1]
    · have fX := fr_x7_readText _ _ e1
      have fM := fr_m_reads _ _ e2
      rw [e1, e2, bs, bs]
      dsimp only
      rw [if_pos rfl]
      have hR' : RRp tmr (nK tm) := by
        intro k w j hk hw hj
        rw [(fM.1 17 rfl).2.2.2, rch_ag hK lo.1 hk]
        exact hR k w j hk hw hj
      obtain ⟨t1, k1, f1, r1, v18⟩ := lays_all hK' w1 hR' (jn m)
      rw [hK.2.1.1, k1, bs, gd_jn (by omega) (by omega)]
      unfold x11_make_J17
      rw [if_pos q4, hN'.1, gd_jn (by omega) (by omega)]
      simp only [nm]
      have g26 : gI t1 26 = jn k := (f1.1 26 rfl).1.trans q5
      rw [g26]
      have fs : fx [16] [] t1 (sA t1 16 (jn m) (jn k)) := fx_sA rfl
      have fxx : fx [602] [] tx' (sA tx' 602 (jn m) (jn k)) := fx_sA rfl
      have ek : nK (sA t1 16 (jn m) (jn k)) = nK tmr := (nK_fr fs).trans (nK_fr f1)
      have ep : nP (sA t1 16 (jn m) (jn k)) = nP tmr := (nP_fr fs).trans (nP_fr f1)
      have N1 : RN tx' t1 := hN'.fr (fx.rfl (S := []) (T := [])) f1
      refine ⟨0, sA tx' 602 (jn m) (jn k), sA t1 16 (jn m) (jn k), rfl, rfl, (hK'.fr (fx.rfl (S := []) (T := [])) f1).fr fxx fs, ⟨N1.1, fun i hi => ?_⟩, ?_, by omega, by omega, (lo.fr (fx.rfl (S := []) (T := [])) f1).fr fxx fs, fun j => ?_⟩
      · rw [gA_sA, gA_sA, jn_cl (by omega), ek]
        by_cases e : i = m
        · subst e
          rw [upd_at, upd_at]
          exact ⟨rfl, Or.inr ⟨k, q6, rfl⟩⟩
        · rw [upd_ne e, upd_ne e]
          have := N1.2 i hi
          rw [nK_fr f1] at this
          exact this
      · intro k' w j hk hw hj
        rw [ek] at hk
        rw [show rch (sA t1 16 (jn m) (jn k)) = rch t1 from rch_to rfl rfl rfl rfl rfl rfl]
        exact r1 k' w j hk hw hj
      · rw [ek]
        show gA t1 18 j = _
        rw [v18, (fM.1 18 rfl).2.2.1]
  · have f1 : m_isNet tm a1 = some 0 := by
      unfold m_isNet
      rw [show m_in tm a1 0 9 = some 0 from iF n1 tm, bs]
    rw [noNet_F n1, f1, bs, bs, if_neg (by decide), if_pos rfl]
    exact ⟨-2, tx, tm, rfl, rfl, hK, hN, hR, Nat.le_refl _, Nat.le_refl _, low, fun j => by rw [if_neg (by omega)]⟩
