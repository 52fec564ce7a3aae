/-! The call game. -/
def RGm (tx : St) : Prop := gN tx 303 = 175 ∧ gN tx 304 = 6 ∧ gN tx 305 = 24
theorem RGm.fr {S T : List Nat} {tx tx' : St} (h : RGm tx) (hx : fx S T tx tx') (h2 : (T.elem 303 || T.elem 304 || T.elem 305) = false := by rfl) : RGm tx' := by
  simp only [Bool.or_eq_false_iff] at h2
  obtain ⟨⟨a, b⟩, c⟩ := h2
  exact ⟨(hx.2 303 a).trans h.1, (hx.2 304 b).trans h.2.1, (hx.2 305 c).trans h.2.2⟩
def KpG (tx tm tx' tm' : St) : Prop := fx [200, 201, 303, 304, 305, 306, 307, 308, 309, 310, 801, 802, 803, 804, 805, 806, 807, 808, 809, 810, 811, 812, 813, 814, 1002, 1003, 1004, 1005, 1008] [808, 9000, 9001] tx tx' ∧ fx [18, 28, 29, 30, 31, 34, 52, 53] [] tm tm' ∧ (RTb tx' tm' ∧ RWy tx' tm' ∧ RC tm' ∧ RF tx' tm') ∧ gN tx' 9001 + 2 * gN tx 808 ≤ gN tx 9001 + 2 * gN tx' 808 ∧ gN tx' 9000 + gN tx 808 ≤ gN tx 9000 + gN tx' 808
theorem KpG.ofW {tx tm tx' tm' : St} (h : KpW tx tm tx' tm') (hF : RF tx tm) : KpG tx tm tx' tm' := by
  obtain ⟨h1, h2, ⟨h3, h4, h5⟩, h6, h7⟩ := h
  exact ⟨h1.wk rfl rfl, h2.wk rfl rfl, ⟨h3, h4, h5, hF.fr h1 h2⟩, h6, h7⟩
theorem RC.frm {S T : List Nat} {tm tm' : St} (h : RC tm) (hs : SameK tm tm') (hx : fx S T tm tm') (h1 : S.elem 18 = false := by rfl) : RC tm' := fun k hk => by
  rw [(hx.1 18 h1).2.2.1, cnw_to hs.2.1 k]
  exact h k (by rw [← hs.1]; exact hk)
theorem op_game {tx tm : St} (hK : RK tx tm) (hN : RN tx tm) (hR : RR tx tm) (hC : RC tm) (hQ : RQ tm) (hT : RTb tx tm) (hW : RWy tx tm) (hP : RP tx tm) (hF : RF tx tm) (hG : RGm tx) (a1 : Int32) : ∃ r tx' tm', x11_game tx a1 = some (r, tx') ∧ m_game tm a1 = some (r, tm') ∧ KpG tx tm tx' tm' := by
  have h250 := nK_lt hK
  rcases pre_game hK hN hP a1 with ⟨r, k1, k2⟩ | ⟨n, K, hn, hk, e16, e602, rfl, ep, ep2⟩
  · exact ⟨r, tx, tm, k1, k2, KpG.ofW (KpW.self hT hW hC) hF⟩
  have xs : ∀ b t, x10_listAll tx (jn K) = some (b, t) → x11_game tx (jn n) = x11_game_J45 t b := by
    intro b t h
    unfold x11_game
    rw [noNet_T hn, bs, if_pos rfl, hN.1, gd_jn (by omega) (by omega), jn_cl (by omega), e602, nm_eq, if_neg (jn_neg (by omega)), if_neg (by rw [ep2]; exact ep), h, bs]
  have ms : ∀ b t, m_findWays tm (jn K) = some (b, t) → m_game tm (jn n) = if b = 0 then (some ((-5 : Int32), t)) else (if (gI t 31) ≤ (24 : Int32) then ((m_plays t).bind (fun q11 => some ((1 : Int32), q11))) else (some ((-5 : Int32), t))) := by
    intro b t h
    unfold m_game
    rw [why_ok hn e16 (by omega), bs, if_pos rfl, if_neg ep, gd_jn (by omega) (by omega), jn_cl (by omega), e16, h, bs]
  rcases list_both hK hR hC hQ hT hW hk with ⟨tx', tm', j1, j2, j3⟩ | ⟨tx', tm', j1, j2, j3, j4, -, j5⟩
  · refine ⟨-5, tx', tm', ?_, ?_, KpG.ofW j3 hF⟩
    · rw [xs _ _ j1]
      unfold x11_game_J45
      rw [if_pos rfl]
    · rw [ms _ _ j2, if_pos rfl]
  have G1 := KpG.ofW j5 hF
  obtain ⟨w1, w2, ⟨w3, w4, w5⟩, w6, w7⟩ := j5
  have hP1 : RP tx' tm' := hP.fr w1 w2
  have hG1 : RGm tx' := hG.fr w1
  have hF1 : RF tx' tm' := hF.fr w1 w2
  by_cases q : (wyl tm K).length ≤ 24
  · obtain ⟨-, p, hp, p1, p2, -⟩ := id hP1
    have hp0 : 0 < p := by
      refine Nat.pos_of_ne_zero fun z => ep ?_
      have := (w2.1 50 rfl).1
      rw [p2, z] at this
      exact this.symm
    have hlt : ∀ j, j < (wyl tm K).length → (wyl tm K).getD j 0 < 65536 := fun j hj => wyl_lt hj
    have hw0 := wyl_pos hK hk
    have hA := gmA_ok hP1 p2 hp (wyl tm K) (wyl tm K).length
    obtain ⟨N, S, cl, rr, hN', hRun, fin⟩ := run_end hp0 hp q (fun c i hc hi => (hA c i hc hi).1)
    obtain ⟨x2, a1, a2, a3, a4⟩ := playX_eq hP1 p2 p1 hp0 hp hw0 q j3 rfl hlt w4.1.1 hG1.1 hG1.2.1 hG1.2.2 hN' hRun fin
    obtain ⟨m2, b1, b2, b3, b4⟩ := playM_eq hP1 p2 hp0 hp hw0 q hlt (t := tm') ⟨p2, j4.1, j4.2.2, rfl⟩ hRun fin
    have ok := hRun.ok N (Nat.le_refl _)
    have sl := sum_le hp0 hA ok
    have sp := sum_pos hw0 hA ok fin
    have db := gD_bd hp hA ok
    have e6 : (1001 : Nat) ^ 6 = 1006015020015006001 := by decide
    generalize gD (gmA tm' (wyl tm K)) p (wyl tm K).length (S N) = D at *
    generalize gT (gmA tm' (wyl tm K)) p (wyl tm K).length (S N) p ((wyl tm K).length + p) = s at *
    have zD : zl (D - s) = jl (D - s).natAbs := by
      rw [← zl_jl]
      congr 1
      omega
    have zs : zl s = jl s.natAbs := by
      rw [← zl_jl]
      congr 1
      omega
    obtain ⟨x3, c1, c2, c3, c4⟩ := putRatio_eq (t := x2) (a := (D - s).natAbs) (b := s.natAbs) (by omega) (by omega) (by omega) ((a2.2 200 rfl).trans hF1.1) ((a2.2 201 rfl).trans hF1.2.1)
    have fX : fx [200, 201, 303, 304, 305, 306, 307, 308, 309, 310] [] tx' x3 := (a2.wk rfl rfl).trans (c2.wk rfl rfl)
    have sK : SameK tm' m2 := same_fx b2
    refine ⟨1, x3, m2, ?_, ?_, (w1.wk rfl rfl).trans (fX.wk rfl rfl), (w2.wk rfl rfl).trans (b2.wk rfl rfl), ⟨(w3.same sK).fr fX, (w4.same sK).fr fX, w5.frm sK b2, rf_of ((c2.2 200 rfl).trans ((a2.2 200 rfl).trans hF1.1)) ((c2.2 201 rfl).trans ((a2.2 201 rfl).trans hF1.2.1)) c3 c4 b3 b4⟩, by rw [fX.2 9001 rfl, fX.2 808 rfl]; exact w6, by rw [fX.2 9000 rfl, fX.2 808 rfl]; exact w7⟩
    · rw [xs _ _ j1]
      unfold x11_game_J45
      rw [if_neg (by decide), j3.1, if_pos (show jn (wyl tm K).length ≤ 24 from (jn_le (b := 24) (by omega) (by omega)).mpr q), a1, bs, a3, a4, zD, zs, c1, bs]
    · rw [ms _ _ j2, if_neg (by decide), j4.1, if_pos (show jn (wyl tm K).length ≤ 24 from (jn_le (b := 24) (by omega) (by omega)).mpr q), b1, bs]
  · have l200 := j3.2.1
    refine ⟨-5, tx', tm', ?_, ?_, G1⟩
    · rw [xs _ _ j1]
      unfold x11_game_J45
      rw [if_neg (by decide), j3.1, if_neg (show ¬ jn (wyl tm K).length ≤ 24 from nle (b := (wyl tm K).length) (a := 24) (by omega) (by omega))]
    · rw [ms _ _ j2, if_neg (by decide), j4.1, if_neg (show ¬ jn (wyl tm K).length ≤ 24 from nle (b := (wyl tm K).length) (a := 24) (by omega) (by omega))]
