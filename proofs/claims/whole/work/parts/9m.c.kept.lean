/-! One call, where ways, nodes and numbers are laid anew. -/
theorem Mu.w {S T : List Nat} {tx tx' : St} (hx : fx S T tx tx') (m1 : gN tx' 9001 + 2 * gN tx 808 ≤ gN tx 9001 + 2 * gN tx' 808) (m2 : gN tx' 9000 + gN tx 808 ≤ gN tx 9000 + gN tx' 808) (h1 : (T.elem 7 || T.elem 8 || T.elem 9) = false := by rfl) (h2 : (T.elem 608 || T.elem 12) = false := by rfl) (h3 : (T.elem 105 || T.elem 405 || T.elem 406 || T.elem 407) = false := by rfl) : Mu tx tx' := by
  have p2 := PG.fr hx h3
  have p := PD.fr hx h1
  simp only [Bool.or_eq_false_iff] at h2
  unfold Mu
  rw [p2, p, hx.2 608 h2.1, hx.2 12 h2.2]
  omega
theorem Mu.d {S T : List Nat} {tx tx' : St} (hx : fx S T tx tx') (m1 : gN tx' 9001 + 2 * gN tx 808 + PD tx ≤ gN tx 9001 + 2 * gN tx' 808 + PD tx') (m2 : gN tx' 9000 + gN tx 808 ≤ gN tx 9000 + gN tx' 808 + 5) (h2 : (T.elem 608 || T.elem 12) = false := by rfl) (h3 : (T.elem 105 || T.elem 405 || T.elem 406 || T.elem 407) = false := by rfl) : Mu tx tx' := by
  have p2 := PG.fr hx h3
  simp only [Bool.or_eq_false_iff] at h2
  unfold Mu
  rw [p2, hx.2 608 h2.1, hx.2 12 h2.2]
  omega
theorem Mu.c {S T : List Nat} {tx tx' : St} (hx : fx S T tx tx') (m1 : gN tx' 9001 + 2 * gN tx 808 + PD tx + P12 (gN tx 12) ≤ gN tx 9001 + 2 * gN tx' 808 + PD tx' + P12 (gN tx' 12) + 2412) (m2 : gN tx' 9000 + gN tx 808 ≤ gN tx 9000 + gN tx' 808 + 6) (h2 : T.elem 608 = false := by rfl) (h3 : (T.elem 105 || T.elem 405 || T.elem 406 || T.elem 407) = false := by rfl) : Mu tx tx' := by
  have p2 := PG.fr hx h3
  unfold Mu
  rw [p2, hx.2 608 h2]
  omega
theorem Mu.f {S T : List Nat} {tx tx' : St} (hx : fx S T tx tx') (m1 : gN tx' 9001 + 2 * gN tx 808 + PD tx + P12 (gN tx 12) + PF tx ≤ gN tx 9001 + 2 * gN tx' 808 + PD tx' + P12 (gN tx' 12) + PF tx' + 10604) (m2 : gN tx' 9000 + gN tx 808 ≤ gN tx 9000 + gN tx' 808 + 9) (h2 : T.elem 608 = false := by rfl) (h3 : T.elem 105 = false := by rfl) : Mu tx tx' := by
  unfold Mu PG
  rw [hx.2 608 h2, hx.2 105 h3]
  omega
theorem iv_ways {tx tm : St} (h : Iv tx tm) (a1 a2 a3 a4 : Int32) : ∃ tx' tm', stepOK 10 tx tm a1 a2 a3 a4 tx' tm' ∧ Iv tx' tm' ∧ Mu tx tx' := by
  obtain ⟨r, tx', tm', k1, k2, ⟨fX, fM, ⟨kTb, kWy, kC⟩, m1, m2⟩⟩ := op_ways h.K h.N h.R h.C h.Q h.Tb h.Wy a1
  have sK := same_fx fM
  exact ⟨tx', tm', ⟨r, k1, k2⟩, ⟨h.H.fr fX fM, h.T.fr fX fM, h.I.fr fX fM, h.E.fr fX fM, h.B.fr fX fM, h.K.fr fX fM, h.N.fr fX fM, h.P.fr fX fM, h.G.fr fX fM, h.F.fr fX fM, h.J.fr fX fM, RR.fr (S := []) (T := []) (tx := tx) h.R fM, kC, h.Q.fr fM, kTb, kWy, h.W.fr fX, (h.D.same sK).fr fX, h.Dm.fr fM, h.O.fr fX, (h.Ft.same sK (fM.1 2 rfl).2.2.1 (fM.1 45 rfl).1 (fM.1 46 rfl).2.2.1 (fM.1 47 rfl).2.2.1).frx fX, h.Gm.fr fX, n6_fr h fX, n7_fr h fX, n1_fr h fX⟩, Mu.w fX m1 m2⟩
theorem iv_wayAt {tx tm : St} (h : Iv tx tm) (a1 a2 a3 a4 : Int32) : ∃ tx' tm', stepOK 11 tx tm a1 a2 a3 a4 tx' tm' ∧ Iv tx' tm' ∧ Mu tx tx' := by
  obtain ⟨r, tx', tm', k1, k2, ⟨fX, fM, ⟨kTb, kWy, kC⟩, m1, m2⟩⟩ := op_wayAt h.K h.N h.R h.C h.Q h.Tb h.Wy a1 a2
  have sK := same_fx fM
  exact ⟨tx', tm', ⟨r, k1, k2⟩, ⟨h.H.fr fX fM, h.T.fr fX fM, h.I.fr fX fM, h.E.fr fX fM, h.B.fr fX fM, h.K.fr fX fM, h.N.fr fX fM, h.P.fr fX fM, h.G.fr fX fM, h.F.fr fX fM, h.J.fr fX fM, RR.fr (S := []) (T := []) (tx := tx) h.R fM, kC, h.Q.fr fM, kTb, kWy, h.W.fr fX, (h.D.same sK).fr fX, h.Dm.fr fM, h.O.fr fX, (h.Ft.same sK (fM.1 2 rfl).2.2.1 (fM.1 45 rfl).1 (fM.1 46 rfl).2.2.1 (fM.1 47 rfl).2.2.1).frx fX, h.Gm.fr fX, n6_fr h fX, n7_fr h fX, n1_fr h fX⟩, Mu.w fX m1 m2⟩
theorem iv_least {tx tm : St} (h : Iv tx tm) (a1 a2 a3 a4 : Int32) : ∃ tx' tm', stepOK 12 tx tm a1 a2 a3 a4 tx' tm' ∧ Iv tx' tm' ∧ Mu tx tx' := by
  obtain ⟨r, tx', tm', k1, k2, ⟨fX, fM, ⟨kTb, kWy, kC⟩, m1, m2⟩⟩ := op_least h.H h.K h.N h.R h.C h.Q h.Tb h.Wy a1 a2
  have sK := same_fx fM
  exact ⟨tx', tm', ⟨r, k1, k2⟩, ⟨h.H.fr fX fM, h.T.fr fX fM, h.I.fr fX fM, h.E.fr fX fM, h.B.fr fX fM, h.K.fr fX fM, h.N.fr fX fM, h.P.fr fX fM, h.G.fr fX fM, h.F.fr fX fM, h.J.fr fX fM, RR.fr (S := []) (T := []) (tx := tx) h.R fM, kC, h.Q.fr fM, kTb, kWy, h.W.fr fX, (h.D.same sK).fr fX, h.Dm.fr fM, h.O.fr fX, (h.Ft.same sK (fM.1 2 rfl).2.2.1 (fM.1 45 rfl).1 (fM.1 46 rfl).2.2.1 (fM.1 47 rfl).2.2.1).frx fX, h.Gm.fr fX, n6_fr h fX, n7_fr h fX, n1_fr h fX⟩, Mu.w fX m1 m2⟩
theorem iv_leastWay {tx tm : St} (h : Iv tx tm) (a1 a2 a3 a4 : Int32) : ∃ tx' tm', stepOK 13 tx tm a1 a2 a3 a4 tx' tm' ∧ Iv tx' tm' ∧ Mu tx tx' := by
  obtain ⟨r, tx', tm', k1, k2, ⟨fX, fM, ⟨kTb, kWy, kC⟩, m1, m2⟩⟩ := op_leastWay h.H h.K h.N h.R h.C h.Q h.Tb h.Wy a1 a2
  have sK := same_fx fM
  exact ⟨tx', tm', ⟨r, k1, k2⟩, ⟨h.H.fr fX fM, h.T.fr fX fM, h.I.fr fX fM, h.E.fr fX fM, h.B.fr fX fM, h.K.fr fX fM, h.N.fr fX fM, h.P.fr fX fM, h.G.fr fX fM, h.F.fr fX fM, h.J.fr fX fM, RR.fr (S := []) (T := []) (tx := tx) h.R fM, kC, h.Q.fr fM, kTb, kWy, h.W.fr fX, (h.D.same sK).fr fX, h.Dm.fr fM, h.O.fr fX, (h.Ft.same sK (fM.1 2 rfl).2.2.1 (fM.1 45 rfl).1 (fM.1 46 rfl).2.2.1 (fM.1 47 rfl).2.2.1).frx fX, h.Gm.fr fX, n6_fr h fX, n7_fr h fX, n1_fr h fX⟩, Mu.w fX m1 m2⟩
theorem iv_worst {tx tm : St} (h : Iv tx tm) (a1 a2 a3 a4 : Int32) : ∃ tx' tm', stepOK 30 tx tm a1 a2 a3 a4 tx' tm' ∧ Iv tx' tm' ∧ Mu tx tx' := by
  obtain ⟨r, tx', tm', k1, k2, ⟨fX, fM, ⟨kTb, kWy, kC⟩, m1, m2⟩⟩ := op_worst h.H h.I h.K h.N h.R h.C h.Q h.Tb h.Wy a1 a2 a3
  have sK := same_fx fM
  exact ⟨tx', tm', ⟨r, k1, k2⟩, ⟨h.H.fr fX fM, h.T.fr fX fM, h.I.fr fX fM, h.E.fr fX fM, h.B.fr fX fM, h.K.fr fX fM, h.N.fr fX fM, h.P.fr fX fM, h.G.fr fX fM, h.F.fr fX fM, h.J.fr fX fM, RR.fr (S := []) (T := []) (tx := tx) h.R fM, kC, h.Q.fr fM, kTb, kWy, h.W.fr fX, (h.D.same sK).fr fX, h.Dm.fr fM, h.O.fr fX, (h.Ft.same sK (fM.1 2 rfl).2.2.1 (fM.1 45 rfl).1 (fM.1 46 rfl).2.2.1 (fM.1 47 rfl).2.2.1).frx fX, h.Gm.fr fX, n6_fr h fX, n7_fr h fX, n1_fr h fX⟩, Mu.w fX m1 m2⟩
theorem iv_may {tx tm : St} (h : Iv tx tm) (a1 a2 a3 a4 : Int32) : ∃ tx' tm', stepOK 31 tx tm a1 a2 a3 a4 tx' tm' ∧ Iv tx' tm' ∧ Mu tx tx' := by
  obtain ⟨r, tx', tm', k1, k2, ⟨fX, fM, ⟨kTb, kWy, kC⟩, m1, m2⟩⟩ := op_may h.H h.K h.N h.R h.C h.Q h.Tb h.Wy a1 a2 a3
  have sK := same_fx fM
  exact ⟨tx', tm', ⟨r, k1, k2⟩, ⟨h.H.fr fX fM, h.T.fr fX fM, h.I.fr fX fM, h.E.fr fX fM, h.B.fr fX fM, h.K.fr fX fM, h.N.fr fX fM, h.P.fr fX fM, h.G.fr fX fM, h.F.fr fX fM, h.J.fr fX fM, RR.fr (S := []) (T := []) (tx := tx) h.R fM, kC, h.Q.fr fM, kTb, kWy, h.W.fr fX, (h.D.same sK).fr fX, h.Dm.fr fM, h.O.fr fX, (h.Ft.same sK (fM.1 2 rfl).2.2.1 (fM.1 45 rfl).1 (fM.1 46 rfl).2.2.1 (fM.1 47 rfl).2.2.1).frx fX, h.Gm.fr fX, n6_fr h fX, n7_fr h fX, n1_fr h fX⟩, Mu.w fX m1 m2⟩
theorem iv_ask {tx tm : St} (h : Iv tx tm) (a1 a2 a3 a4 : Int32) : ∃ tx' tm', stepOK 32 tx tm a1 a2 a3 a4 tx' tm' ∧ Iv tx' tm' ∧ Mu tx tx' := by
  obtain ⟨r, tx', tm', k1, k2, ⟨fX, fM, ⟨kTb, kWy, kC⟩, m1, m2⟩⟩ := op_ask h.H h.K h.N h.R h.C h.Q h.Tb h.Wy a1 a2 a3
  have sK := same_fx fM
  exact ⟨tx', tm', ⟨r, k1, k2⟩, ⟨h.H.fr fX fM, h.T.fr fX fM, h.I.fr fX fM, h.E.fr fX fM, h.B.fr fX fM, h.K.fr fX fM, h.N.fr fX fM, h.P.fr fX fM, h.G.fr fX fM, h.F.fr fX fM, h.J.fr fX fM, RR.fr (S := []) (T := []) (tx := tx) h.R fM, kC, h.Q.fr fM, kTb, kWy, h.W.fr fX, (h.D.same sK).fr fX, h.Dm.fr fM, h.O.fr fX, (h.Ft.same sK (fM.1 2 rfl).2.2.1 (fM.1 45 rfl).1 (fM.1 46 rfl).2.2.1 (fM.1 47 rfl).2.2.1).frx fX, h.Gm.fr fX, n6_fr h fX, n7_fr h fX, n1_fr h fX⟩, Mu.w fX m1 m2⟩
theorem iv_size {tx tm : St} (h : Iv tx tm) (a1 a2 a3 a4 : Int32) : ∃ tx' tm', stepOK 15 tx tm a1 a2 a3 a4 tx' tm' ∧ Iv tx' tm' ∧ Mu tx tx' := by
  obtain ⟨r, tx', tm', k1, k2, ⟨fX, fM, ⟨kTb, kD, kDm⟩, m1, m2⟩⟩ := op_size h.K h.N h.R h.Q h.Tb h.D h.Dm a1
  have sK := same_fx fM
  exact ⟨tx', tm', ⟨r, k1, k2⟩, ⟨h.H.fr fX fM, h.T.fr fX fM, h.I.fr fX fM, h.E.fr fX fM, h.B.fr fX fM, h.K.fr fX fM, h.N.fr fX fM, h.P.fr fX fM, h.G.fr fX fM, h.F.fr fX fM, h.J.fr fX fM, RR.fr (S := []) (T := []) (tx := tx) h.R fM, h.C.frm sK fM, h.Q.fr fM, kTb, (h.Wy.same sK).fr fX, h.W.fr fX, kD, kDm, h.O.fr fX, (h.Ft.same sK (fM.1 2 rfl).2.2.1 (fM.1 45 rfl).1 (fM.1 46 rfl).2.2.1 (fM.1 47 rfl).2.2.1).frx fX, h.Gm.fr fX, n6_fr h fX, n7_fr h fX, n1_fr h fX⟩, Mu.d fX m1 m2⟩
theorem iv_chance {tx tm : St} (h : Iv tx tm) (a1 a2 a3 a4 : Int32) : ∃ tx' tm', stepOK 16 tx tm a1 a2 a3 a4 tx' tm' ∧ Iv tx' tm' ∧ Mu tx tx' := by
  obtain ⟨r, tx', tm', k1, k2, ⟨fX, fM, ⟨kTb, kD, kDm, kF, kO⟩, m1, m2⟩⟩ := op_chance h.K h.N h.R h.Q h.H h.Tb h.D h.Dm h.F h.O a1
  have sK := same_fx fM
  exact ⟨tx', tm', ⟨r, k1, k2⟩, ⟨h.H.fr fX fM, h.T.fr fX fM, h.I.fr fX fM, h.E.fr fX fM, h.B.fr fX fM, h.K.fr fX fM, h.N.fr fX fM, h.P.fr fX fM, h.G.fr fX fM, kF, h.J.fr fX fM, RR.fr (S := []) (T := []) (tx := tx) h.R fM, h.C.frm sK fM, h.Q.fr fM, kTb, (h.Wy.same sK).fr fX, h.W.fr fX, kD, kDm, kO, (h.Ft.same sK (fM.1 2 rfl).2.2.1 (fM.1 45 rfl).1 (fM.1 46 rfl).2.2.1 (fM.1 47 rfl).2.2.1).frx fX, h.Gm.fr fX, n6_fr h fX, n7_fr h fX, n1_fr h fX⟩, Mu.c fX m1 m2⟩
theorem iv_weight {tx tm : St} (h : Iv tx tm) (a1 a2 a3 a4 : Int32) : ∃ tx' tm', stepOK 17 tx tm a1 a2 a3 a4 tx' tm' ∧ Iv tx' tm' ∧ Mu tx tx' := by
  obtain ⟨r, tx', tm', k1, k2, ⟨fX, fM, ⟨kTb, kD, kDm, kF, kO⟩, m1, m2⟩⟩ := op_weight h.K h.N h.R h.Q h.H h.Tb h.D h.Dm h.F h.O a1 a2
  have sK := same_fx fM
  exact ⟨tx', tm', ⟨r, k1, k2⟩, ⟨h.H.fr fX fM, h.T.fr fX fM, h.I.fr fX fM, h.E.fr fX fM, h.B.fr fX fM, h.K.fr fX fM, h.N.fr fX fM, h.P.fr fX fM, h.G.fr fX fM, kF, h.J.fr fX fM, RR.fr (S := []) (T := []) (tx := tx) h.R fM, h.C.frm sK fM, h.Q.fr fM, kTb, (h.Wy.same sK).fr fX, h.W.fr fX, kD, kDm, kO, (h.Ft.same sK (fM.1 2 rfl).2.2.1 (fM.1 45 rfl).1 (fM.1 46 rfl).2.2.1 (fM.1 47 rfl).2.2.1).frx fX, h.Gm.fr fX, n6_fr h fX, n7_fr h fX, n1_fr h fX⟩, Mu.c fX m1 m2⟩
theorem iv_best {tx tm : St} (h : Iv tx tm) (a1 a2 a3 a4 : Int32) : ∃ tx' tm', stepOK 18 tx tm a1 a2 a3 a4 tx' tm' ∧ Iv tx' tm' ∧ Mu tx tx' := by
  obtain ⟨r, tx', tm', k1, k2, ⟨fX, fM, ⟨kTb, kD, kDm, kF, kO⟩, m1, m2⟩⟩ := op_best h.K h.N h.R h.Q h.H h.Tb h.D h.Dm h.F h.O a1 a2
  have sK := same_fx fM
  exact ⟨tx', tm', ⟨r, k1, k2⟩, ⟨h.H.fr fX fM, h.T.fr fX fM, h.I.fr fX fM, h.E.fr fX fM, h.B.fr fX fM, h.K.fr fX fM, h.N.fr fX fM, h.P.fr fX fM, h.G.fr fX fM, kF, h.J.fr fX fM, RR.fr (S := []) (T := []) (tx := tx) h.R fM, h.C.frm sK fM, h.Q.fr fM, kTb, (h.Wy.same sK).fr fX, h.W.fr fX, kD, kDm, kO, (h.Ft.same sK (fM.1 2 rfl).2.2.1 (fM.1 45 rfl).1 (fM.1 46 rfl).2.2.1 (fM.1 47 rfl).2.2.1).frx fX, h.Gm.fr fX, n6_fr h fX, n7_fr h fX, n1_fr h fX⟩, Mu.c fX m1 m2⟩
theorem iv_front {tx tm : St} (h : Iv tx tm) (a1 a2 a3 a4 : Int32) : ∃ tx' tm', stepOK 24 tx tm a1 a2 a3 a4 tx' tm' ∧ Iv tx' tm' ∧ Mu tx tx' := by
  obtain ⟨r, tx', tm', k1, k2, ⟨fX, fM, ⟨kTb, kD, kDm, kF, kO, kFt⟩, m1, m2⟩⟩ := op_front h.K h.N h.R h.Q h.H h.G h.Tb h.D h.Dm h.F h.O h.Ft a1
  have sK := same_fx fM
  exact ⟨tx', tm', ⟨r, k1, k2⟩, ⟨h.H.fr fX fM, h.T.fr fX fM, h.I.fr fX fM, h.E.fr fX fM, h.B.fr fX fM, h.K.fr fX fM, h.N.fr fX fM, h.P.fr fX fM, h.G.fr fX fM, kF, h.J.fr fX fM, RR.fr (S := []) (T := []) (tx := tx) h.R fM, h.C.frm sK fM, h.Q.fr fM, kTb, (h.Wy.same sK).fr fX, h.W.fr fX, kD, kDm, kO, kFt, h.Gm.fr fX, n6_fr h fX, n7_fr h fX, n1_fr h fX⟩, Mu.f fX m1 m2⟩
theorem iv_frontAt {tx tm : St} (h : Iv tx tm) (a1 a2 a3 a4 : Int32) : ∃ tx' tm', stepOK 25 tx tm a1 a2 a3 a4 tx' tm' ∧ Iv tx' tm' ∧ Mu tx tx' := by
  obtain ⟨r, tx', tm', k1, k2, ⟨fX, fM, ⟨kTb, kD, kDm, kF, kO, kFt⟩, m1, m2⟩⟩ := op_frontAt h.K h.N h.R h.Q h.H h.G h.Tb h.D h.Dm h.F h.O h.Ft a1 a2 a3
  have sK := same_fx fM
  exact ⟨tx', tm', ⟨r, k1, k2⟩, ⟨h.H.fr fX fM, h.T.fr fX fM, h.I.fr fX fM, h.E.fr fX fM, h.B.fr fX fM, h.K.fr fX fM, h.N.fr fX fM, h.P.fr fX fM, h.G.fr fX fM, kF, h.J.fr fX fM, RR.fr (S := []) (T := []) (tx := tx) h.R fM, h.C.frm sK fM, h.Q.fr fM, kTb, (h.Wy.same sK).fr fX, h.W.fr fX, kD, kDm, kO, kFt, h.Gm.fr fX, n6_fr h fX, n7_fr h fX, n1_fr h fX⟩, Mu.f fX m1 m2⟩
theorem iv_game {tx tm : St} (h : Iv tx tm) (a1 a2 a3 a4 : Int32) : ∃ tx' tm', stepOK 28 tx tm a1 a2 a3 a4 tx' tm' ∧ Iv tx' tm' ∧ Mu tx tx' := by
  obtain ⟨r, tx', tm', k1, k2, ⟨fX, fM, ⟨kTb, kWy, kC, kF⟩, m1, m2⟩⟩ := op_game h.K h.N h.R h.C h.Q h.Tb h.Wy h.P h.F h.Gm a1
  have sK := same_fx fM
  exact ⟨tx', tm', ⟨r, k1, k2⟩, ⟨h.H.fr fX fM, h.T.fr fX fM, h.I.fr fX fM, h.E.fr fX fM, h.B.fr fX fM, h.K.fr fX fM, h.N.fr fX fM, h.P.fr fX fM, h.G.fr fX fM, kF, h.J.fr fX fM, RR.fr (S := []) (T := []) (tx := tx) h.R fM, kC, h.Q.fr fM, kTb, kWy, h.W.fr fX, (h.D.same sK).fr fX, h.Dm.fr fM, h.O.fr fX, (h.Ft.same sK (fM.1 2 rfl).2.2.1 (fM.1 45 rfl).1 (fM.1 46 rfl).2.2.1 (fM.1 47 rfl).2.2.1).frx fX, h.Gm.fr fX, n6_fr h fX, n7_fr h fX, n1_fr h fX⟩, Mu.w fX m1 m2⟩
theorem iv_leastGuards {tx tm : St} (h : Iv tx tm) (a1 a2 a3 a4 : Int32) : ∃ tx' tm', stepOK 23 tx tm a1 a2 a3 a4 tx' tm' ∧ Iv tx' tm' ∧ Mu tx tx' := by
  obtain ⟨r, tx', k1, k2, ⟨fX, kTb, m1, m2⟩⟩ := op_leastGuards h.K h.N h.R h.G h.Q h.Tb a1
  have fM := fx.rfl (S := []) (T := []) (t := tm)
  have sK := same_fx fM
  exact ⟨tx', tm, ⟨r, k1, k2, rfl⟩, ⟨h.H.fr fX fM, h.T.fr fX fM, h.I.fr fX fM, h.E.fr fX fM, h.B.fr fX fM, h.K.fr fX fM, h.N.fr fX fM, h.P.fr fX fM, h.G.fr fX fM, h.F.fr fX fM, h.J.fr fX fM, RR.fr (S := []) (T := []) (tx := tx) h.R fM, h.C.frm sK fM, h.Q.fr fM, kTb, (h.Wy.same sK).fr fX, h.W.fr fX, (h.D.same sK).fr fX, h.Dm.fr fM, h.O.fr fX, (h.Ft.same sK (fM.1 2 rfl).2.2.1 (fM.1 45 rfl).1 (fM.1 46 rfl).2.2.1 (fM.1 47 rfl).2.2.1).frx fX, h.Gm.fr fX, n6_fr h fX, n7_fr h fX, n1_fr h fX⟩, Mu.w fX m1 m2⟩
theorem iv_many {tx tm : St} (h : Iv tx tm) (a1 a2 a3 a4 : Int32) : ∃ tx' tm', stepOK 14 tx tm a1 a2 a3 a4 tx' tm' ∧ Iv tx' tm' ∧ Mu tx tx' := by
  obtain ⟨r, tx', tm', k1, k2⟩ := op_many h.H h.K h.N h.n6.2 a1
  have fX : fx _ _ tx tx' := fr_x11_many tx a1 _ k1
  have fM : fx _ _ tm tm' := fr_m_many tm a1 _ k2
  have sK := same_fx fM
  exact ⟨tx', tm', ⟨r, k1, k2⟩, ⟨h.H.fr fX fM, h.T.fr fX fM, h.I.fr fX fM, h.E.fr fX fM, h.B.fr fX fM, h.K.fr fX fM, h.N.fr fX fM, h.P.fr fX fM, h.G.fr fX fM, h.F.fr fX fM, h.J.fr fX fM, RR.fr (S := []) (T := []) (tx := tx) h.R fM, h.C.frm sK fM, h.Q.fr fM, (h.Tb.same sK).fr fX, (h.Wy.same sK).fr fX, h.W.fr fX, (h.D.same sK).fr fX, h.Dm.fr fM, h.O.fr fX, (h.Ft.same sK (fM.1 2 rfl).2.2.1 (fM.1 45 rfl).1 (fM.1 46 rfl).2.2.1 (fM.1 47 rfl).2.2.1).frx fX, h.Gm.fr fX, n6_fr h fX, n7_fr h fX, n1_fr h fX⟩, Mu.fr fX⟩
theorem iv_reached {tx tm : St} (h : Iv tx tm) (a1 a2 a3 a4 : Int32) : ∃ tx' tm', stepOK 36 tx tm a1 a2 a3 a4 tx' tm' ∧ Iv tx' tm' ∧ Mu tx tx' := by
  obtain ⟨r, tx', tm', k1, k2, k3, m2, m1⟩ := op_reached h.K h.N h.E h.n1.1 h.n1.2 a1 a2
  have fX : fx _ _ tx tx' := fr_x11_reached tx a1 a2 _ k1
  have fM : fx _ _ tm tm' := fr_m_reached tm a1 a2 _ k2
  have sK := same_fx fM
  refine ⟨tx', tm', ⟨r, k1, k2⟩, ⟨h.H.fr fX fM, h.T.fr fX fM, h.I.fr fX fM, h.E.fr fX fM, h.B.fr fX fM, h.K.fr fX fM, h.N.fr fX fM, h.P.fr fX fM, h.G.fr fX fM, h.F.fr fX fM, h.J.fr fX fM, RR.fr (S := []) (T := []) (tx := tx) h.R fM, h.C.frm sK fM, h.Q.fr fM, (h.Tb.same sK).fr fX, (h.Wy.same sK).fr fX, h.W.fr fX, (h.D.same sK).fr fX, h.Dm.fr fM, h.O.fr fX, (h.Ft.same sK (fM.1 2 rfl).2.2.1 (fM.1 45 rfl).1 (fM.1 46 rfl).2.2.1 (fM.1 47 rfl).2.2.1).frx fX, h.Gm.fr fX, n6_fr h fX, n7_fr h fX, ⟨(fX.2 107 rfl).trans h.n1.1, k3⟩⟩, ?_⟩
  have p := PD.fr fX
  unfold Mu PG
  rw [p, PF_eq fX, fX.2 608 rfl, fX.2 808 rfl, fX.2 12 rfl]
  omega
