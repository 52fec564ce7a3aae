/-! Ways: both lists; the calls ways and wayAt. -/
def KpW (tx tm tx' tm' : St) : Prop := fx [801, 802, 803, 804, 805, 806, 807, 808, 809, 810, 811, 812, 813, 814, 1002, 1003, 1004, 1005, 1008] [808, 9000, 9001] tx tx' ∧ fx [18, 28, 29, 30, 31] [] tm tm' ∧ (RTb tx' tm' ∧ RWy tx' tm' ∧ RC tm') ∧ gN tx' 9001 + 2 * gN tx 808 ≤ gN tx 9001 + 2 * gN tx' 808 ∧ gN tx' 9000 + gN tx 808 ≤ gN tx 9000 + gN tx' 808
theorem KpW.self {tx tm : St} (h1 : RTb tx tm) (h2 : RWy tx tm) (h3 : RC tm) : KpW tx tm tx tm := ⟨fx.rfl, fx.rfl, ⟨h1, h2, h3⟩, Nat.le_refl _, Nat.le_refl _⟩
theorem Tb_808 {t : St} (h : Tb0 t) : gN t 808 ≤ 57344 := by
  obtain ⟨-, -, i, hi, e⟩ := h
  have := Nat.pow_le_pow_right (n := 2) (by omega) hi
  rw [e]
  have h2 : (2 : Nat) ^ 10 = 1024 := rfl
  omega
theorem RTb.fr {S T : List Nat} {tx tx' tm : St} (h : RTb tx tm) (hf : fx S T tx tx') (h1 : (S.elem 801 || S.elem 802 || S.elem 803 || S.elem 804 || S.elem 805 || S.elem 806 || S.elem 807 || S.elem 808 || S.elem 813) = false := by rfl) (h2 : (T.elem 801 || T.elem 802 || T.elem 808 || T.elem 809 || T.elem 810 || T.elem 811 || T.elem 812 || T.elem 813 || T.elem 814) = false := by rfl) : RTb tx' tm := by
  simp only [Bool.or_eq_false_iff] at h1 h2
  obtain ⟨⟨⟨⟨⟨⟨⟨⟨a1, a2⟩, a3⟩, a4⟩, a5⟩, a6⟩, a7⟩, a8⟩, a13⟩ := h1
  obtain ⟨⟨⟨⟨⟨⟨⟨⟨b1, b2⟩, b8⟩, b9⟩, b10⟩, b11⟩, b12⟩, b13⟩, b14⟩ := h2
  unfold RTb Tb0 LC TbK TbR RowF at *
  rw [hf.2 801 b1, hf.2 802 b2, hf.2 808 b8, hf.2 809 b9, hf.2 810 b10, hf.2 811 b11, hf.2 812 b12, hf.2 813 b13, hf.2 814 b14, (hf.1 801 a1).2.2.1, (hf.1 802 a2).2.2.1, (hf.1 803 a3).1, (hf.1 804 a4).1, (hf.1 805 a5).1, (hf.1 806 a6).1, (hf.1 807 a7).1, (hf.1 808 a8).2.2.2, (hf.1 813 a13).2.2.1]
  exact h
theorem list_both {tx tm : St} (hK : RK tx tm) (hR : RR tx tm) (hC : RC tm) (hQ : RQ tm) (hT : RTb tx tm) (hW : RWy tx tm) {K : Nat} (hk : K < nK tm) : (∃ tx' tm', x10_listAll tx (jn K) = some (0, tx') ∧ m_findWays tm (jn K) = some (0, tm') ∧ KpW tx tm tx' tm') ∨ ∃ tx' tm', x10_listAll tx (jn K) = some (1, tx') ∧ m_findWays tm (jn K) = some (1, tm') ∧ LxIs tx' (wyl tm K) ∧ LsIs tm' (wyl tm K) ∧ gI tx' 1005 = jn K ∧ KpW tx tm tx' tm' := by
  have h250 := nK_lt hK
  obtain ⟨t1, k1, f1, hT1, e5, TK, me1, me2⟩ := fillFor_eq hK hQ hk hT
  obtain ⟨⟨w2, w3, w8⟩, hw5⟩ := hW
  rcases findWays_eq hK hR hC hk with ⟨tm', j1, j2, j3, j4⟩ | ⟨tm', j1, j2, j3, j4, j5⟩
  · left
    have hs := same_fx j2
    have e7 : gI t1 807 = 1 := by
      rcases TK.2.2.2 with ⟨h, -⟩ | ⟨-, h⟩
      · exact h
      · exact absurd j4 h
    have hW1 : RWy t1 tm := ⟨⟨(f1.2 1002 rfl).trans w2, (f1.2 1003 rfl).trans w3, (f1.2 1008 rfl).trans w8⟩, by
      unfold LxIs
      rw [(f1.1 1005 rfl).1, (f1.1 1004 rfl).1, (f1.1 1002 rfl).2.2.1]
      exact hw5⟩
    refine ⟨t1, tm', ?_, j1, f1.wk rfl rfl, j2, ⟨hT1.same hs, hW1.same hs, j3⟩, me1, me2⟩
    unfold x10_listAll
    rw [k1, bs]
    unfold x10_listAll_J8
    rw [e7, if_neg (by decide)]
  · right
    have hs := same_fx j2
    have e7 : gI t1 807 = 0 := by
      rcases TK.2.2.2 with ⟨-, h⟩ | ⟨h, -⟩
      · exact absurd h j4
      · exact h
    have c200 : cnw tm K ≤ 200 := by
      by_cases c : cnw tm K ≤ 200
      · exact c
      · exact absurd ⟨K, Need.top, by omega⟩ j4
    by_cases c : gI tx 1005 = jn K
    · have hl : LxIs tx (wyl tm K) := by
        rcases hw5 with e | ⟨K', y1, y2, y3⟩
        · rw [c] at e; exact absurd e (jn_ne1 (by omega))
        · have : K' = K := (jn_inj (by omega) (by omega)).mp (y2.symm.trans c)
          subst this
          exact y3
      have hl1 : LxIs t1 (wyl tm K) := by
        unfold LxIs
        rw [(f1.1 1004 rfl).1, (f1.1 1002 rfl).2.2.1]
        exact hl
      have c1 : gI t1 1005 = jn K := (f1.1 1005 rfl).1.trans c
      have hW1 : RWy t1 tm := ⟨⟨(f1.2 1002 rfl).trans w2, (f1.2 1003 rfl).trans w3, (f1.2 1008 rfl).trans w8⟩, Or.inr ⟨K, hk, c1, hl1⟩⟩
      refine ⟨t1, tm', ?_, j1, hl1, j5, c1, f1.wk rfl rfl, j2, ⟨hT1.same hs, hW1.same hs, j3⟩, me1, me2⟩
      unfold x10_listAll
      rw [k1, bs]
      unfold x10_listAll_J8
      rw [e7, if_pos rfl, c1, if_pos rfl]
    · generalize ht2 : sI t1 1005 (jn K) = t2
      have f2 : fx [1005] [] t1 t2 := by subst ht2; exact fx_sI rfl
      have T2 : TbK tm K t2 := by
        unfold TbK TbR RowF at *
        rw [f2.2 801 rfl, f2.2 802 rfl, f2.2 808 rfl, (f2.1 801 rfl).2.2.1, (f2.1 802 rfl).2.2.1, (f2.1 803 rfl).1, (f2.1 804 rfl).1, (f2.1 806 rfl).1, (f2.1 807 rfl).1, (f2.1 808 rfl).2.2.2]
        exact TK
      obtain ⟨t3, k3, f3, v3⟩ := findAll_eq hK hk T2 (by rw [f2.2 808 rfl]; exact Tb_808 hT1.1) j4 (by rw [f2.2 1003 rfl, f1.2 1003 rfl]; exact w3)
      obtain ⟨t4, k4, f4, l4⟩ := sortBySize_eq hK hk c200 (by rw [f3.2 1002 rfl, f2.2 1002 rfl, f1.2 1002 rfl]; exact w2) (by rw [f3.2 1003 rfl, f2.2 1003 rfl, f1.2 1003 rfl]; exact w3) v3
      have f14 : fx [1002, 1003, 1004, 1005] [] t1 t4 := (f2.wk rfl rfl).trans ((f3.wk rfl rfl).trans (f4.wk rfl rfl))
      have ftx : fx [801, 802, 803, 804, 805, 806, 807, 808, 809, 810, 811, 812, 813, 814, 1002, 1003, 1004, 1005, 1008] [808, 9000, 9001] tx t4 := (f1.wk rfl rfl).trans (f14.wk rfl rfl)
      have c4 : gI t4 1005 = jn K := by
        rw [(f4.1 1005 rfl).1, (f3.1 1005 rfl).1]
        subst ht2; exact gI_at
      have hW4 : RWy t4 tm := ⟨⟨(ftx.2 1002 rfl).trans w2, (ftx.2 1003 rfl).trans w3, (ftx.2 1008 rfl).trans w8⟩, Or.inr ⟨K, hk, c4, l4⟩⟩
      refine ⟨t4, tm', ?_, j1, l4, j5, c4, ftx, j2, ⟨(hT1.fr f14).same hs, hW4.same hs, j3⟩, by rw [f14.2 9001 rfl, f14.2 808 rfl]; exact me1, by rw [f14.2 9000 rfl, f14.2 808 rfl]; exact me2⟩
      unfold x10_listAll
      rw [k1, bs]
      unfold x10_listAll_J8
      rw [e7, if_pos rfl, (f1.1 1005 rfl).1, if_neg c]
      simp only [nm]
      rw [ht2, k3, bs, k4, bs]
theorem whyWays_eq {tm : St} {n K : Nat} (hn : n ≤ 9) (h : gA tm 16 n = jn K) (hK : K < 250) {tm' : St} {b : Int32} (hb : m_findWays tm (jn K) = some (b, tm')) : m_whyWays tm (jn n) 1 = some (if b = 0 then -5 else 1, tm') := by
  unfold m_whyWays
  rw [why_ok hn h (by omega), bs, if_pos rfl, gd_jn (by omega) (by omega), jn_cl (by omega), h, hb, bs]
  by_cases c : b = 0
  · rw [if_pos c, if_pos c]
  · rw [if_neg c, if_neg c]
theorem whyWays_0 {tm : St} {n K : Nat} (hn : n ≤ 9) (h : gA tm 16 n = jn K) (hK : K < 250) {tm' : St} (hb : m_findWays tm (jn K) = some (0, tm')) : m_whyWays tm (jn n) 1 = some (-5, tm') := whyWays_eq hn h hK hb
theorem whyWays_1 {tm : St} {n K : Nat} (hn : n ≤ 9) (h : gA tm 16 n = jn K) (hK : K < 250) {tm' : St} (hb : m_findWays tm (jn K) = some (1, tm')) : m_whyWays tm (jn n) 1 = some (1, tm') := whyWays_eq hn h hK hb
theorem op_ways {tx tm : St} (hK : RK tx tm) (hN : RN tx tm) (hR : RR tx tm) (hC : RC tm) (hQ : RQ tm) (hT : RTb tx tm) (hW : RWy tx tm) (a1 : Int32) : ∃ r tx' tm', x11_ways tx a1 = some (r, tx') ∧ m_ways tm a1 = some (r, tm') ∧ KpW tx tm tx' tm' := by
  have h250 := nK_lt hK
  rcases pre_ways hK hN a1 with ⟨r, k1, k2⟩ | ⟨n, K, hn, hk, e16, e602, rfl⟩
  · exact ⟨r, tx, tm, k1, k2, KpW.self hT hW hC⟩
  have xs : ∀ b t, x10_listAll tx (jn K) = some (b, t) → x11_ways tx (jn n) = x11_ways_J35 t b := by
    intro b t h
    unfold x11_ways
    rw [noNet_T hn, bs, if_pos rfl, hN.1, gd_jn (by omega) (by omega), jn_cl (by omega), e602]
    simp only [nm]
    rw [if_pos (jn_nn (by omega)), h, bs]
  rcases list_both hK hR hC hQ hT hW hk with ⟨tx', tm', j1, j2, j3⟩ | ⟨tx', tm', j1, j2, j3, j4, -, j5⟩
  · refine ⟨-5, tx', tm', ?_, ?_, j3⟩
    · rw [xs _ _ j1]
      unfold x11_ways_J35
      rw [if_pos rfl]
    · unfold m_ways
      rw [whyWays_0 hn e16 (by omega) j2, bs]
      dsimp only
      rw [if_neg (by decide)]
  · refine ⟨jn (wyl tm K).length, tx', tm', ?_, ?_, j5⟩
    · rw [xs _ _ j1]
      unfold x11_ways_J35
      rw [if_neg (by decide), j3.1]
    · unfold m_ways
      rw [whyWays_1 hn e16 (by omega) j2, bs]
      dsimp only
      rw [if_pos rfl, j4.1]
theorem op_wayAt {tx tm : St} (hK : RK tx tm) (hN : RN tx tm) (hR : RR tx tm) (hC : RC tm) (hQ : RQ tm) (hT : RTb tx tm) (hW : RWy tx tm) (a1 a2 : Int32) : ∃ r tx' tm', x11_wayAt tx a1 a2 = some (r, tx') ∧ m_wayAt tm a1 a2 = some (r, tm') ∧ KpW tx tm tx' tm' := by
  have h250 := nK_lt hK
  rcases pre_wayAt hK hN a1 a2 with ⟨r, k1, k2⟩ | ⟨n, K, hn, hk, e16, e602, rfl, i, hi, rfl⟩
  · exact ⟨r, tx, tm, k1, k2, KpW.self hT hW hC⟩
  have xs : ∀ b t, x10_listAll tx (jn K) = some (b, t) → x11_wayAt tx (jn n) (jn i) = x11_wayAt_J39 t (jn i) b := by
    intro b t h
    unfold x11_wayAt
    rw [noNet_T hn, bs, if_pos rfl, if_pos (jn_nn hi), hN.1, gd_jn (by omega) (by omega), jn_cl (by omega), e602]
    simp only [nm]
    rw [if_pos (jn_nn (by omega)), h, bs]
  have w1002 := hW.1.1
  have ms : m_wayAt tm (jn n) (jn i) = m_wayAt_J11 tm (jn i) (jn n) 1 := by
    unfold m_wayAt
    rw [if_neg (jn_neg hi)]
  rcases list_both hK hR hC hQ hT hW hk with ⟨tx', tm', j1, j2, j3⟩ | ⟨tx', tm', j1, j2, j3, j4, -, j5⟩
  · refine ⟨-5, tx', tm', ?_, ?_, j3⟩
    · rw [xs _ _ j1]
      unfold x11_wayAt_J39
      rw [if_pos rfl]
    · rw [ms]
      unfold m_wayAt_J11
      rw [whyWays_0 hn e16 (by omega) j2, bs]
      dsimp only
      rw [if_neg (by decide)]
  · have len := j3.2.1
    refine ⟨if (wyl tm K).length ≤ i then -1 else jn ((wyl tm K).getD i 0), tx', tm', ?_, ?_, j5⟩
    · rw [xs _ _ j1]
      unfold x11_wayAt_J39
      rw [if_neg (by decide), j3.1]
      by_cases c : (wyl tm K).length ≤ i
      · rw [if_pos ((jn_le (by omega) hi).mpr c), if_pos c]
      · rw [if_neg (fun e => c ((jn_le (by omega) hi).mp e)), if_neg c, j5.1.2 1002 rfl, w1002, gd_jn (by omega) hi, jn_cl hi, j3.2.2 i (by omega)]
    · rw [ms]
      unfold m_wayAt_J11
      rw [whyWays_1 hn e16 (by omega) j2, bs]
      dsimp only
      rw [if_pos rfl, j4.1]
      by_cases c : (wyl tm K).length ≤ i
      · rw [if_pos ((jn_le (by omega) hi).mpr c), if_pos c]
      · rw [if_neg (fun e => c ((jn_le (by omega) hi).mp e)), if_neg c, gd_jn (by omega) hi, jn_cl hi, j4.2.2 i (by omega)]
