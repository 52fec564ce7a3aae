/-! clear -/
theorem fill602_eq {t : St} (h : gN t 602 = 10) : ∃ t', j7_fill_53178_602 t (-1) = some t' ∧ fx [602] [] t t' ∧ ∀ i, i < 10 → gA t' 602 i = -1 := by
  have l := lp_cnt (b := fun x : Int32 × St => j7_fill_53178_602_B5 (-1) (Int32.ofNat (gN t 602)) x.1 x.2) (fun i s => (jn i, s)) 10
    (fun n s => fx [602] [] t s ∧ ∀ i, i < n → gA s 602 i = -1)
    (fun s => fx [602] [] t s ∧ ∀ i, i < 10 → gA s 602 i = -1) (by
      rintro i s hi ⟨hf, h1⟩
      dsimp only
      unfold j7_fill_53178_602_B5
      rw [h, show Int32.ofNat 10 = jn 10 from rfl, if_neg (nle hi (by omega)), hf.2 602 rfl, h, gd_jn hi (by omega)]
      simp only [nm, jn_s]
      refine ⟨_, rfl, hf.trans (fx_sA rfl), fun i1 hi1 => ?_⟩
      rw [gA_sA, jn_cl (by omega)]
      by_cases e : i1 = i
      · subst e; rw [upd_at]
      · rw [upd_ne e]; exact h1 i1 (by omega)) (by
      rintro s hs
      exact ⟨s, by dsimp only; unfold j7_fill_53178_602_B5; rw [h, show Int32.ofNat 10 = jn 10 from rfl, if_pos (lee (by omega))], hs⟩) 0 t (by omega) ⟨fx.rfl, fun i hi => absurd hi (by omega)⟩
  obtain ⟨s, k, k1, k2⟩ := l
  refine ⟨s, ?_, k1, k2⟩
  unfold j7_fill_53178_602
  simp only [nm]
  rw [show lp (fun x : Int32 × St => j7_fill_53178_602_B5 (-1) (Int32.ofNat (gN t 602)) x.1 x.2) ((0 : Int32), t) = some s from k, bs]
theorem fill813_eq {t : St} (h : gN t 813 = 330) : ∃ t', j7_fill_53178_813 t 0 = some t' ∧ fx [813] [] t t' ∧ ∀ i, i < 330 → gA t' 813 i = 0 := by
  have l := lp_cnt (b := fun x : Int32 × St => j7_fill_53178_813_B5 0 (Int32.ofNat (gN t 813)) x.1 x.2) (fun i s => (jn i, s)) 330
    (fun n s => fx [813] [] t s ∧ ∀ i, i < n → gA s 813 i = 0)
    (fun s => fx [813] [] t s ∧ ∀ i, i < 330 → gA s 813 i = 0) (by
      rintro i s hi ⟨hf, h1⟩
      dsimp only
      unfold j7_fill_53178_813_B5
      rw [h, show Int32.ofNat 330 = jn 330 from rfl, if_neg (nle hi (by omega)), hf.2 813 rfl, h, gd_jn hi (by omega)]
      simp only [nm, jn_s]
      refine ⟨_, rfl, hf.trans (fx_sA rfl), fun i1 hi1 => ?_⟩
      rw [gA_sA, jn_cl (by omega)]
      by_cases e : i1 = i
      · subst e; rw [upd_at]
      · rw [upd_ne e]; exact h1 i1 (by omega)) (by
      rintro s hs
      exact ⟨s, by dsimp only; unfold j7_fill_53178_813_B5; rw [h, show Int32.ofNat 330 = jn 330 from rfl, if_pos (lee (by omega))], hs⟩) 0 t (by omega) ⟨fx.rfl, fun i hi => absurd hi (by omega)⟩
  obtain ⟨s, k, k1, k2⟩ := l
  refine ⟨s, ?_, k1, k2⟩
  unfold j7_fill_53178_813
  simp only [nm]
  rw [show lp (fun x : Int32 × St => j7_fill_53178_813_B5 0 (Int32.ofNat (gN t 813)) x.1 x.2) ((0 : Int32), t) = some s from k, bs]
theorem m_clear_eq (t : St) : ∃ t', m_clear t = some (gI t 7, t') ∧ fx [7, 13, 16, 35] [] t t' ∧ gI t' 7 = 0 ∧ gI t' 13 = 0 ∧ gI t' 35 = -1 ∧ ∀ n, n < 10 → gA t' 16 n = -1 := by
  have l := lp_cnt (b := fun x : Int32 × St => m_clear_B17 (gI t 7) x.1 x.2) (fun i s => (jn i, s)) 10
    (fun n s => fx [16] [] (sI (sI t 7 0) 13 0) s ∧ ∀ i, i < n → gA s 16 i = -1)
    (fun s => fx [16] [] (sI (sI t 7 0) 13 0) s ∧ ∀ i, i < 10 → gA s 16 i = -1) (by
      rintro i s hi ⟨hf, h1⟩
      dsimp only
      unfold m_clear_B17
      rw [if_neg (show ¬ (10 : Int32) ≤ jn i from fun e => by have := (jn_le (a := 10) (by omega) (by omega)).mp e; omega), gd_jn hi (by omega)]
      simp only [nm, jn_s]
      refine ⟨_, rfl, hf.trans (fx_sA rfl), fun i1 hi1 => ?_⟩
      rw [gA_sA, jn_cl (by omega)]
      by_cases e : i1 = i
      · subst e; rw [upd_at]
      · rw [upd_ne e]; exact h1 i1 (by omega)) (by
      rintro s hs
      exact ⟨s, by dsimp only; unfold m_clear_B17; rw [if_pos (by decide)], hs⟩) 0 (sI (sI t 7 0) 13 0) (by omega) ⟨fx.rfl, fun i hi => absurd hi (by omega)⟩
  obtain ⟨s, k, k1, k2⟩ := l
  refine ⟨sI s 35 (-1), ?_, ?_, ?_, ?_, gI_at, k2⟩
  · unfold m_clear
    simp only [nm]
    rw [show lp (fun x : Int32 × St => m_clear_B17 (gI t 7) x.1 x.2) ((0 : Int32), sI (sI t 7 0) 13 0) = some s from k, bs]
  · exact ((((fx_sI (S := [7, 13, 16, 35]) rfl).trans (fx_sI rfl)).trans (k1.wk rfl rfl)).trans (fx_sI rfl))
  · rw [((fx_sI (S := [35]) (T := []) rfl).1 7 rfl).1, (k1.1 7 rfl).1]; rfl
  · rw [((fx_sI (S := [35]) (T := []) rfl).1 13 rfl).1, (k1.1 13 rfl).1]; rfl
theorem op_clear {tx tm : St} (hK : RK tx tm) (hN : RN tx tm) (hB : RTb tx tm) (hW : RWy tx tm) : ∃ r tx' tm', x11_clear tx = some (r, tx') ∧ m_clear tm = some (r, tm') ∧ (RK tx' tm' ∧ RN tx' tm' ∧ RR tx' tm' ∧ RQ tm' ∧ RC tm' ∧ RTb tx' tm' ∧ RWy tx' tm') ∧ nK tm' = 0 ∧ gI tx' 2 = -1 ∧ gI tx' 409 = -1 ∧ gI tm' 35 = -1 := by
  obtain ⟨tm', k1, f1, m7, m13, m35, m16⟩ := m_clear_eq tm
  obtain ⟨⟨z3, z4, z5, z6, z7⟩, ⟨n1, n2, n3⟩, ⟨p1, p2, p3, p4, p5, p6⟩, -⟩ := hK
  obtain ⟨⟨⟨b1, b2⟩, ⟨b3, b4, b5, b6, b7, b8⟩, i, hi, b9⟩, -, -⟩ := hB
  obtain ⟨x1, j1, g1, v1⟩ := fill602_eq hN.1
  generalize hx2 : sI (sI (sI x1 609 0) 610 0) 805 (-1) = x2
  have g2 : fx [609, 610, 805] [] x1 x2 := by subst hx2; exact ((fx_sI rfl).trans (fx_sI rfl)).trans (fx_sI rfl)
  obtain ⟨x3, j3, g3, v3⟩ := fill813_eq (t := x2) (by rw [g2.2 813 rfl, g1.2 813 rfl]; exact b7)
  generalize hx4 : sI (sI (sI x3 1005 (-1)) 2 (-1)) 409 (-1) = x4
  have g4 : fx [1005, 2, 409] [] x3 x4 := by subst hx4; exact ((fx_sI rfl).trans (fx_sI rfl)).trans (fx_sI rfl)
  have gl : fx [602, 609, 610, 805, 813, 1005, 2, 409] [] tx x4 := (g1.wk rfl rfl).trans ((g2.wk rfl rfl).trans ((g3.wk rfl rfl).trans (g4.wk rfl rfl)))
  have x609 : gI x4 609 = 0 := by rw [(g4.1 609 rfl).1, (g3.1 609 rfl).1, ← hx2]; rfl
  have x610 : gI x4 610 = 0 := by rw [(g4.1 610 rfl).1, (g3.1 610 rfl).1, ← hx2]; rfl
  have x805 : gI x4 805 = -1 := by rw [(g4.1 805 rfl).1, (g3.1 805 rfl).1, ← hx2]; rfl
  have eK : nK tm' = 0 := nK_of (K := 0) m7 (by omega)
  have eP : nP tm' = 0 := nP_of (P := 0) m13 (by omega)
  refine ⟨gI tm 7, x4, tm', ?_, k1, ⟨⟨⟨(gl.2 603 rfl).trans z3, (gl.2 604 rfl).trans z4, (gl.2 605 rfl).trans z5, (gl.2 606 rfl).trans z6, (gl.2 607 rfl).trans z7⟩, ⟨by rw [m7, eK]; rfl, by omega, by rw [x609, m7]⟩, ⟨by rw [m13, eP]; rfl, by omega, by rw [x610, m13], by omega, by rw [gl.2 608 rfl]; exact p5, by rw [gl.2 608 rfl]; exact p6⟩, fun k hk => by omega⟩, ⟨(gl.2 602 rfl).trans hN.1, fun n hn => ?_⟩, fun k w j hk => by omega, fun k hk => ?_, fun k hk => by omega, ⟨⟨⟨(gl.2 801 rfl).trans b1, (gl.2 802 rfl).trans b2⟩, ⟨(gl.2 809 rfl).trans b3, (gl.2 810 rfl).trans b4, (gl.2 811 rfl).trans b5, (gl.2 812 rfl).trans b6, (gl.2 813 rfl).trans b7, (gl.2 814 rfl).trans b8⟩, i, hi, (gl.2 808 rfl).trans b9⟩, fun j hj => Or.inl ?_, Or.inl x805⟩, ⟨⟨(gl.2 1002 rfl).trans hW.1.1, (gl.2 1003 rfl).trans hW.1.2.1, (gl.2 1008 rfl).trans hW.1.2.2⟩, Or.inl ?_⟩⟩, eK, ?_, ?_, m35⟩
  · unfold x11_clear x6_forget x8_forget x10_forget x0_forget x4_forgetFront x6_shrinkTo
    simp only [nm]
    rw [j1, bs]
    dsimp only [Option.bind]
    rw [show sI (sI (sI x1 609 0) 610 0) 805 (-1) = x2 from hx2, j3]
    dsimp only [Option.bind]
    rw [hx4, n3]
  · rw [(g4.1 602 rfl).2.2.1, (g3.1 602 rfl).2.2.1, (g2.1 602 rfl).2.2.1, v1 n hn, m16 n hn]
    exact ⟨rfl, Or.inl rfl⟩
  · rw [eK] at hk
    rw [show k = 0 by omega]
    exact Nat.zero_le _
  · rw [(g4.1 813 rfl).2.2.1, v3 j hj]
  · rw [← hx4]; rfl
  · rw [← hx4]; rfl
  · rw [← hx4]; rfl
