/-! One call, where rows of orders and guards grow. -/
theorem f0_x4_hire_B49 (v1 : Int32) (v2 : Int32) (v3 : Int32) (v4 : Int32) (t : St) : FR [402, 403, 404, 409] [] (x4_hire_B49 v1 v2 v3 v4 t) t (Sum.elim (fun (x : Int32 × St) => x.2) (fun (y : St) => y)) := by
  unfold x4_hire_B49
  exact FR_ite (FR_some fx.rfl) (FR_gd (FR_gd (FR_nmS (fx_sA rfl) (fun t4 ht4 => FR_gd (FR_gd (FR_nmS (fx_sA rfl) (fun t7 ht7 => FR_nm (fun x8 _ => FR_some (fx.trans ht4 ht7)))))))))
theorem f0_x4_hire_L49 (v1 : Int32) (v2 : Int32) (v3 : Int32) (v4 : Int32) (t : St) : FR [402, 403, 404, 409] [] (lp (fun x => x4_hire_B49 v1 v2 v3 x.1 x.2) (v4, t)) t (fun (y : St) => y) := FR_lp (p := (fun (x : Int32 × St) => x.2)) (q := (fun (y : St) => y)) (fun x => f0_x4_hire_B49 v1 v2 v3 x.1 x.2) (v4, t)
theorem f0_x4_hire_J46 (t : St) (v1 : Int32) (v2 : Int32) (v3 : Int32) : FR [402, 403, 404, 409] [] (x4_hire_J46 t v1 v2 v3) t (fun (a : Int32 × St) => a.2) := by
  unfold x4_hire_J46
  exact FR_bind (f0_x4_hire_L49 v1 v2 v3 (0 : Int32) t) (fun y9 hm10 => FR_nmS (fx_sI rfl) (fun t12 ht12 => FR_bind (fr_x4_forgetFront t12) (fun q13 hq13 => FR_some (fx.trans (fx.trans hm10 ht12) hq13))))
theorem f0_x9_prepare_B90 (v2 : Int32) (v3 : Int32) (t : St) : FR [903, 904, 905, 906] [] (x9_prepare_B90 v2 v3 t) t (Sum.elim (fun (x : Int32 × St) => x.2) (fun (y : St) => y)) := by
  unfold x9_prepare_B90
  exact FR_ite (FR_some fx.rfl) (FR_bind (fr_x9_findEnds t v3 v2) (fun q2 hq2 => FR_nm (fun x4 _ => FR_some hq2)))
theorem f0_x9_prepare_L90 (v2 : Int32) (v3 : Int32) (t : St) : FR [903, 904, 905, 906] [] (lp (fun x => x9_prepare_B90 v2 x.1 x.2) (v3, t)) t (fun (y : St) => y) := FR_lp (p := (fun (x : Int32 × St) => x.2)) (q := (fun (y : St) => y)) (fun x => f0_x9_prepare_B90 v2 x.1 x.2) (v3, t)
theorem f0_x9_prepare_B7 (v1 : Int32) (v2 : Int32) (v3 : Int32) (t : St) : FR [903, 904, 905, 906] [] (x9_prepare_B7 v1 v2 v3 t) t (Sum.elim (fun (x : Int32 × St) => x.2) (fun (y : St) => y)) := by
  unfold x9_prepare_B7
  exact FR_ite (FR_some fx.rfl) (FR_ite (FR_some fx.rfl) (FR_ite (FR_gd (FR_nmS (fx_sA rfl) (fun t10 ht10 => FR_nmS (fx_sI rfl) (fun t11 ht11 => FR_nm (fun x12 _ => FR_some (fx.trans ht10 ht11)))))) (FR_nm (fun x8 _ => FR_some fx.rfl))))
theorem f0_x9_prepare_L7 (v1 : Int32) (v2 : Int32) (v3 : Int32) (t : St) : FR [903, 904, 905, 906] [] (lp (fun x => x9_prepare_B7 v1 v2 x.1 x.2) (v3, t)) t (fun (y : St) => y) := FR_lp (p := (fun (x : Int32 × St) => x.2)) (q := (fun (y : St) => y)) (fun x => f0_x9_prepare_B7 v1 v2 x.1 x.2) (v3, t)
theorem f0_x9_prepare_J88 (t : St) (v2 : Int32) : FR [903, 904, 905, 906] [] (x9_prepare_J88 t v2) t (fun (a : St) => a) := by
  unfold x9_prepare_J88
  exact FR_bind (f0_x9_prepare_L90 v2 (0 : Int32) t) (fun y13 hm14 => FR_some hm14)
theorem f0_x9_prepare_J76 (t : St) (v2 : Int32) : FR [903, 904, 905, 906] [] (x9_prepare_J76 t v2) t (fun (a : St) => a) := by
  unfold x9_prepare_J76
  exact FR_ite (FR_wk fx.rfl (f0_x9_prepare_J88 t v2)) (FR_bind (fr_x9_lookRound t v2) (fun q17 hq17 => FR_wk hq17 (f0_x9_prepare_J88 q17 v2)))
theorem f0_x9_bestEnd_J6 (t : St) (v2 : Int32) : FR [903, 904, 905, 906, 907] [] (x9_bestEnd_J6 t v2) t (fun (a : Int32 × St) => a.2) := by
  unfold x9_bestEnd_J6
  exact FR_bind (fr_x9_soonestEnd t (((1 : Int32) <<< ((gI t 905) &&& 31)) - (1 : Int32)) v2) (fun q1 hq1 => FR_ite (FR_some hq1) (FR_some hq1))
theorem f0_x9_stepInOrder_B49 (v3 : Int32) (v5 : Int32) (v4 : Int32) (v6 : Int32) (v7 : Int32) (t : St) : FR [903, 904, 905, 906, 907] [] (x9_stepInOrder_B49 v3 v5 v4 v6 v7 t) t (Sum.elim (fun (x : Int32 × Int32 × Int32 × St) => x.2.2.2) (Sum.elim (fun (y : St) => y) (fun (y : Int32 × Int32 × St) => y.2.2))) := by
  unfold x9_stepInOrder_B49
  exact FR_ite (FR_some fx.rfl) (FR_bind (fr_x9_firstToGo t v4 v6 v5) (fun q2 hq2 => FR_ite (FR_nm (fun x5 _ => FR_gd (FR_nm (fun x7 _ => FR_nm (fun x8 _ => FR_some hq2))))) (FR_some hq2)))
theorem f0_x9_stepInOrder_L49 (v3 : Int32) (v5 : Int32) (v4 : Int32) (v6 : Int32) (v7 : Int32) (t : St) : FR [903, 904, 905, 906, 907] [] (lp (fun x => x9_stepInOrder_B49 v3 v5 x.1 x.2.1 x.2.2.1 x.2.2.2) (v4, v6, v7, t)) t (Sum.elim (fun (y : St) => y) (fun (y : Int32 × Int32 × St) => y.2.2)) := FR_lp (p := (fun (x : Int32 × Int32 × Int32 × St) => x.2.2.2)) (q := (Sum.elim (fun (y : St) => y) (fun (y : Int32 × Int32 × St) => y.2.2))) (fun x => f0_x9_stepInOrder_B49 v3 v5 x.1 x.2.1 x.2.2.1 x.2.2.2) (v4, v6, v7, t)
theorem f0_x9_stepInOrder_J6 (t : St) (v2 : Int32) (v3 : Int32) : FR [903, 904, 905, 906, 907] [] (x9_stepInOrder_J6 t v2 v3) t (fun (a : Int32 × St) => a.2) := by
  unfold x9_stepInOrder_J6
  exact FR_nm (fun x9 _ => FR_bind (fr_x9_soonestEnd t x9 v2) (fun q10 hq10 => FR_ite (FR_some hq10) (FR_ite (FR_bind (f0_x9_stepInOrder_L49 v3 q10.1 x9 v2 (0 : Int32) q10.2) (fun y14 hm15 => (FR_sum y14 hm15 (fun u17 hm15 => FR_some (fx.trans hq10 hm15)) (fun u17 hm15 => FR_bind (fr_x9_firstToGo u17.2.2 u17.1 u17.2.1 q10.1) (fun q18 hq18 => FR_ite (FR_gd (FR_some (fx.trans (fx.trans hq10 hm15) hq18))) (FR_some (fx.trans (fx.trans hq10 hm15) hq18))))))) (FR_some hq10))))
theorem nw_M {t : St} {k n : Nat} {f : Nat → Int32} : gN (nwI t k n f) 9000 = gN t 9000 + 1 ∧ gN (nwI t k n f) 9001 = gN t 9001 + n := ⟨by simp [nwI, va_up, gN], by simp [nwI, va_up, gN]⟩
theorem prep_mt {t u : St} {a1 a2 : Int32} (h : x9_prepare t a1 a2 = some u) : gN u 9000 ≤ gN t 9000 + 1 ∧ gN u 9001 ≤ gN t 9001 + gN u 906 := by
  unfold x9_prepare at h
  rw [nm_eq] at h
  obtain ⟨y, h1, h⟩ := bd_some h
  obtain ⟨s, g, h⟩ := grw_some h
  have f1 : fx _ _ (sI t 905 0) y := f0_x9_prepare_L7 a1 a2 0 (sI t 905 0) _ h1
  have f2 : fx _ _ s u := f0_x9_prepare_J76 s a2 _ h
  have e0 : gN y 9000 = gN t 9000 := f1.2 9000 rfl
  have e1 : gN y 9001 = gN t 9001 := f1.2 9001 rfl
  rw [f2.2 9000 rfl, f2.2 9001 rfl, f2.2 906 rfl]
  rcases g with ⟨-, rfl⟩ | ⟨-, -, -, rfl⟩
  · omega
  · rw [nw_M.1, nw_M.2, nw_N (by omega)]
    omega
theorem end_mt {t u : St} {a1 a2 r : Int32} (h : x11_end t a1 a2 = some (r, u)) : gN u 9000 ≤ gN t 9000 + 1 ∧ gN u 9001 ≤ gN t 9001 + gN u 906 := by
  unfold x11_end at h
  obtain ⟨q1, -, h⟩ := bd_some h
  split at h
  · obtain ⟨q2, -, h⟩ := bd_some h
    split at h
    · obtain ⟨q3, -, h⟩ := bd_some h
      split at h
      · obtain ⟨q4, g, h⟩ := bd_some h
        unfold x11_end_J45 at h
        cases h
        unfold x9_bestEnd at g
        obtain ⟨q5, g1, g⟩ := bd_some g
        have p := prep_mt g1
        have f := f0_x9_bestEnd_J6 q5 a2 _ g
        rw [f.2 9000 rfl, f.2 9001 rfl, f.2 906 rfl]
        exact p
      · cases h; exact ⟨Nat.le_succ _, Nat.le_add_right _ _⟩
    · cases h; exact ⟨Nat.le_succ _, Nat.le_add_right _ _⟩
  · cases h; exact ⟨Nat.le_succ _, Nat.le_add_right _ _⟩
theorem ord_mt {t u : St} {a1 a2 a3 r : Int32} (h : x11_orderAt t a1 a2 a3 = some (r, u)) : gN u 9000 ≤ gN t 9000 + 1 ∧ gN u 9001 ≤ gN t 9001 + gN u 906 := by
  unfold x11_orderAt at h
  obtain ⟨q1, -, h⟩ := bd_some h
  split at h
  · obtain ⟨q2, -, h⟩ := bd_some h
    split at h
    · split at h
      · obtain ⟨q3, -, h⟩ := bd_some h
        split at h
        · obtain ⟨q4, g, h⟩ := bd_some h
          unfold x11_orderAt_J50 at h
          cases h
          unfold x9_stepInOrder at g
          obtain ⟨q5, g1, g⟩ := bd_some g
          have p := prep_mt g1
          have f := f0_x9_stepInOrder_J6 q5 a2 a3 _ g
          rw [f.2 9000 rfl, f.2 9001 rfl, f.2 906 rfl]
          exact p
        · cases h; exact ⟨Nat.le_succ _, Nat.le_add_right _ _⟩
      · cases h; exact ⟨Nat.le_succ _, Nat.le_add_right _ _⟩
    · cases h; exact ⟨Nat.le_succ _, Nat.le_add_right _ _⟩
  · cases h; exact ⟨Nat.le_succ _, Nat.le_add_right _ _⟩
theorem iv_end {tx tm : St} (h : Iv tx tm) (a1 a2 a3 a4 : Int32) : ∃ tx' tm', stepOK 41 tx tm a1 a2 a3 a4 tx' tm' ∧ Iv tx' tm' ∧ Mu tx tx' := by
  obtain ⟨r, tx', tm', k1, k2, k3⟩ := op_end h.H h.B h.W a1 a2
  have fX : fx _ _ tx tx' := fr_x11_end tx a1 a2 _ k1
  have fM : fx _ _ tm tm' := fr_m_end tm a1 a2 _ k2
  have sK := same_fx fM
  have mt := end_mt k1
  refine ⟨tx', tm', ⟨r, k1, k2⟩, ⟨h.H.fr fX fM, h.T.fr fX fM, h.I.fr fX fM, h.E.fr fX fM, h.B.fr fX fM, h.K.fr fX fM, h.N.fr fX fM, h.P.fr fX fM, h.G.fr fX fM, h.F.fr fX fM, h.J.fr fX fM, RR.fr (S := []) (T := []) (tx := tx) h.R fM, h.C.frm sK fM, h.Q.fr fM, (h.Tb.same sK).fr fX, (h.Wy.same sK).fr fX, ⟨(fX.2 903 rfl).trans h.W.1, (fX.2 904 rfl).trans h.W.2.1, (fX.2 907 rfl).trans h.W.2.2.1, k3⟩, (h.D.same sK).fr fX, h.Dm.fr fM, h.O.fr fX, (h.Ft.same sK (fM.1 2 rfl).2.2.1 (fM.1 45 rfl).1 (fM.1 46 rfl).2.2.1 (fM.1 47 rfl).2.2.1).frx fX, h.Gm.fr fX, n6_fr h fX, n7_fr h fX, n1_fr h fX⟩, ?_⟩
  have p := PD.fr fX
  unfold Mu
  rw [p, PG.fr fX, fX.2 608 rfl, fX.2 808 rfl, fX.2 12 rfl]
  omega
theorem iv_orderAt {tx tm : St} (h : Iv tx tm) (a1 a2 a3 a4 : Int32) : ∃ tx' tm', stepOK 42 tx tm a1 a2 a3 a4 tx' tm' ∧ Iv tx' tm' ∧ Mu tx tx' := by
  obtain ⟨r, tx', tm', k1, k2, k3⟩ := op_orderAt h.H h.B h.W a1 a2 a3
  have fX : fx _ _ tx tx' := fr_x11_orderAt tx a1 a2 a3 _ k1
  have fM : fx _ _ tm tm' := fr_m_orderAt tm a1 a2 a3 _ k2
  have sK := same_fx fM
  have mt := ord_mt k1
  refine ⟨tx', tm', ⟨r, k1, k2⟩, ⟨h.H.fr fX fM, h.T.fr fX fM, h.I.fr fX fM, h.E.fr fX fM, h.B.fr fX fM, h.K.fr fX fM, h.N.fr fX fM, h.P.fr fX fM, h.G.fr fX fM, h.F.fr fX fM, h.J.fr fX fM, RR.fr (S := []) (T := []) (tx := tx) h.R fM, h.C.frm sK fM, h.Q.fr fM, (h.Tb.same sK).fr fX, (h.Wy.same sK).fr fX, ⟨(fX.2 903 rfl).trans h.W.1, (fX.2 904 rfl).trans h.W.2.1, (fX.2 907 rfl).trans h.W.2.2.1, k3⟩, (h.D.same sK).fr fX, h.Dm.fr fM, h.O.fr fX, (h.Ft.same sK (fM.1 2 rfl).2.2.1 (fM.1 45 rfl).1 (fM.1 46 rfl).2.2.1 (fM.1 47 rfl).2.2.1).frx fX, h.Gm.fr fX, n6_fr h fX, n7_fr h fX, n1_fr h fX⟩, ?_⟩
  have p := PD.fr fX
  unfold Mu
  rw [p, PG.fr fX, fX.2 608 rfl, fX.2 808 rfl, fX.2 12 rfl]
  omega
