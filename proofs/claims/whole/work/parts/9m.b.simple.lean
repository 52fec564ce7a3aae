/-! One call, where little changes. -/
theorem RQ.fr {S T : List Nat} {tm tm' : St} (h : RQ tm) (hx : fx S T tm tm') (h1 : (S.elem 7 || S.elem 8 || S.elem 11 || S.elem 12 || S.elem 14 || S.elem 16) = false := by rfl) : RQ tm' := by
  simp only [Bool.or_eq_false_iff] at h1
  obtain ⟨⟨⟨⟨⟨a7, a8⟩, a11⟩, a12⟩, a14⟩, a16⟩ := h1
  have e7 := nK_fr hx a7
  have e8 := (hx.1 8 a8).2.2.1
  have e11 := (hx.1 11 a11).2.2.1
  have e12 := (hx.1 12 a12).2.2.1
  have e14 := (hx.1 14 a14).2.2.1
  have e16 := (hx.1 16 a16).2.2.1
  have p : ∀ k, pndB tm' k = pndB tm k := fun k => by
    funext j
    unfold pndB usedB rootB kS kN kP kF
    rw [e7, e8, e11, e12, e14, e16]
  intro k hk
  rw [p]
  exact h k (by rw [← e7]; exact hk)
theorem RW.fr {S T : List Nat} {tx tx' : St} (h : RW tx) (hx : fx S T tx tx') (h1 : (T.elem 903 || T.elem 904 || T.elem 906 || T.elem 907) = false := by rfl) : RW tx' := by
  simp only [Bool.or_eq_false_iff] at h1
  obtain ⟨⟨⟨a, b⟩, c⟩, d⟩ := h1
  unfold RW
  rw [hx.2 903 a, hx.2 904 b, hx.2 906 c, hx.2 907 d]
  exact h
theorem n6_fr {S T : List Nat} {tx tx' tm : St} (h : Iv tx tm) (hx : fx S T tx tx') (h1 : (T.elem 611 || T.elem 612 || T.elem 613) = false := by rfl) : gN tx' 611 = 330 ∧ gN tx' 612 = 330 ∧ gN tx' 613 = 8 := by
  simp only [Bool.or_eq_false_iff] at h1
  rw [hx.2 611 h1.1.1, hx.2 612 h1.1.2, hx.2 613 h1.2]
  exact h.n6
theorem n7_fr {S T : List Nat} {tx tx' tm : St} (h : Iv tx tm) (hx : fx S T tx tx') (h1 : T.elem 701 = false := by rfl) : gN tx' 701 = 330 := (hx.2 701 h1).trans h.n7
theorem n1_fr {S T : List Nat} {tx tx' tm : St} (h : Iv tx tm) (hx : fx S T tx tx') (h1 : (T.elem 107 || T.elem 105) = false := by rfl) : gN tx' 107 = 8 ∧ gN tx' 105 ≤ 20500 := by
  simp only [Bool.or_eq_false_iff] at h1
  rw [hx.2 107 h1.1, hx.2 105 h1.2]
  exact h.n1
def PG (t : St) : Nat := 2 * gN t 105 + PF t
theorem PG.fr {S T : List Nat} {tx tx' : St} (hx : fx S T tx tx') (h1 : (T.elem 105 || T.elem 405 || T.elem 406 || T.elem 407) = false := by rfl) : PG tx' = PG tx := by
  simp only [Bool.or_eq_false_iff] at h1
  unfold PG PF
  rw [hx.2 105 h1.1.1.1, hx.2 405 h1.1.1.2, hx.2 406 h1.1.2, hx.2 407 h1.2]
/-- what one call adds to the meters -/
def Mu (tx tx' : St) : Prop := gN tx' 9000 + gN tx 808 + gN tx 608 ≤ gN tx 9000 + gN tx' 808 + gN tx' 608 + 10 ∧ gN tx' 9001 + 2 * gN tx 608 + 2 * gN tx 808 + PD tx + P12 (gN tx 12) + PG tx ≤ gN tx 9001 + 2 * gN tx' 608 + 2 * gN tx' 808 + PD tx' + P12 (gN tx' 12) + PG tx' + 10604
theorem PD.fr {S T : List Nat} {tx tx' : St} (hx : fx S T tx tx') (h1 : (T.elem 7 || T.elem 8 || T.elem 9) = false := by rfl) : PD tx' = PD tx := by
  simp only [Bool.or_eq_false_iff] at h1
  unfold PD
  rw [hx.2 7 h1.1.1, hx.2 8 h1.1.2, hx.2 9 h1.2]
theorem Mu.fr {S T : List Nat} {tx tx' : St} (hx : fx S T tx tx') (h1 : (T.elem 7 || T.elem 8 || T.elem 9) = false := by rfl) (h2 : (T.elem 9000 || T.elem 9001 || T.elem 808 || T.elem 608 || T.elem 12) = false := by rfl) (h3 : (T.elem 105 || T.elem 405 || T.elem 406 || T.elem 407) = false := by rfl) : Mu tx tx' := by
  have p := PD.fr hx h1
  have p2 := PG.fr hx h3
  simp only [Bool.or_eq_false_iff] at h2
  obtain ⟨⟨⟨⟨a, b⟩, c⟩, d⟩, e⟩ := h2
  unfold Mu
  rw [p, p2, hx.2 9000 a, hx.2 9001 b, hx.2 808 c, hx.2 608 d, hx.2 12 e]
  omega
theorem iv_about {tx tm : St} (h : Iv tx tm) (a1 a2 a3 a4 : Int32) : ∃ tx' tm', stepOK 2 tx tm a1 a2 a3 a4 tx' tm' ∧ Iv tx' tm' ∧ Mu tx tx' := by
  obtain ⟨r, k1, k2⟩ := op_about h.H a1 a2
  exact ⟨tx, tm, ⟨r, k1, k2, rfl, rfl⟩, h, Mu.fr (fx.rfl (S := []) (T := []) (t := tx))⟩
theorem iv_knot {tx tm : St} (h : Iv tx tm) (a1 a2 a3 a4 : Int32) : ∃ tx' tm', stepOK 7 tx tm a1 a2 a3 a4 tx' tm' ∧ Iv tx' tm' ∧ Mu tx tx' := by
  obtain ⟨r, k1, k2⟩ := op_knot h.K h.N a1 a2
  exact ⟨tx, tm, ⟨r, k1, k2, rfl, rfl⟩, h, Mu.fr (fx.rfl (S := []) (T := []) (t := tx))⟩
theorem iv_part {tx tm : St} (h : Iv tx tm) (a1 a2 a3 a4 : Int32) : ∃ tx' tm', stepOK 8 tx tm a1 a2 a3 a4 tx' tm' ∧ Iv tx' tm' ∧ Mu tx tx' := by
  obtain ⟨r, k1, k2⟩ := op_part h.K a1 a2
  exact ⟨tx, tm, ⟨r, k1, k2, rfl, rfl⟩, h, Mu.fr (fx.rfl (S := []) (T := []) (t := tx))⟩
theorem iv_limbs {tx tm : St} (h : Iv tx tm) (a1 a2 a3 a4 : Int32) : ∃ tx' tm', stepOK 19 tx tm a1 a2 a3 a4 tx' tm' ∧ Iv tx' tm' ∧ Mu tx tx' := by
  obtain ⟨r, k1, k2⟩ := op_limbs h.F a1
  exact ⟨tx, tm, ⟨r, k1, k2, rfl, rfl⟩, h, Mu.fr (fx.rfl (S := []) (T := []) (t := tx))⟩
theorem iv_limb {tx tm : St} (h : Iv tx tm) (a1 a2 a3 a4 : Int32) : ∃ tx' tm', stepOK 20 tx tm a1 a2 a3 a4 tx' tm' ∧ Iv tx' tm' ∧ Mu tx tx' := by
  obtain ⟨r, k1, k2⟩ := op_limb h.F a1 a2
  exact ⟨tx, tm, ⟨r, k1, k2, rfl, rfl⟩, h, Mu.fr (fx.rfl (S := []) (T := []) (t := tx))⟩
theorem iv_soon {tx tm : St} (h : Iv tx tm) (a1 a2 a3 a4 : Int32) : ∃ tx' tm', stepOK 35 tx tm a1 a2 a3 a4 tx' tm' ∧ Iv tx' tm' ∧ Mu tx tx' := by
  obtain ⟨r, k1, k2⟩ := op_soon h.H h.E
  exact ⟨tx, tm, ⟨r, k1, k2, rfl, rfl⟩, h, Mu.fr (fx.rfl (S := []) (T := []) (t := tx))⟩
theorem iv_stands {tx tm : St} (h : Iv tx tm) (a1 a2 a3 a4 : Int32) : ∃ tx' tm', stepOK 39 tx tm a1 a2 a3 a4 tx' tm' ∧ Iv tx' tm' ∧ Mu tx tx' := by
  obtain ⟨r, k1, k2⟩ := op_stands h.B a1 a2
  exact ⟨tx, tm, ⟨r, k1, k2, rfl, rfl⟩, h, Mu.fr (fx.rfl (S := []) (T := []) (t := tx))⟩
theorem iv_begins {tx tm : St} (h : Iv tx tm) (a1 a2 a3 a4 : Int32) : ∃ tx' tm', stepOK 40 tx tm a1 a2 a3 a4 tx' tm' ∧ Iv tx' tm' ∧ Mu tx tx' := by
  obtain ⟨r, k1, k2⟩ := op_begins h.H h.B a1 a2
  exact ⟨tx, tm, ⟨r, k1, k2, rfl, rfl⟩, h, Mu.fr (fx.rfl (S := []) (T := []) (t := tx))⟩
theorem iv_differ {tx tm : St} (h : Iv tx tm) (a1 a2 a3 a4 : Int32) : ∃ tx' tm', stepOK 44 tx tm a1 a2 a3 a4 tx' tm' ∧ Iv tx' tm' ∧ Mu tx tx' := by
  obtain ⟨r, k1, k2⟩ := op_differ h.H h.J a1
  exact ⟨tx, tm, ⟨r, k1, k2, rfl, rfl⟩, h, Mu.fr (fx.rfl (S := []) (T := []) (t := tx))⟩
theorem iv_count {tx tm : St} (h : Iv tx tm) (a1 a2 a3 a4 : Int32) : ∃ tx' tm', stepOK 46 tx tm a1 a2 a3 a4 tx' tm' ∧ Iv tx' tm' ∧ Mu tx tx' := by
  obtain ⟨r, k1, k2⟩ := op_count h.T h.K h.N h.G.1.2.2 h.P h.I h.E a1
  exact ⟨tx, tm, ⟨r, k1, k2, rfl, rfl⟩, h, Mu.fr (fx.rfl (S := []) (T := []) (t := tx))⟩
theorem iv_digest {tx tm : St} (h : Iv tx tm) (a1 a2 a3 a4 : Int32) : ∃ tx' tm', stepOK 47 tx tm a1 a2 a3 a4 tx' tm' ∧ Iv tx' tm' ∧ Mu tx tx' := by
  obtain ⟨r, k1, k2⟩ := op_digest h.H h.T h.K h.N h.G h.P h.I h.E h.B
  exact ⟨tx, tm, ⟨r, k1, k2, rfl, rfl⟩, h, Mu.fr (fx.rfl (S := []) (T := []) (t := tx))⟩
theorem iv_trace {tx tm : St} (h : Iv tx tm) (a1 a2 a3 a4 : Int32) : ∃ tx' tm', stepOK 1 tx tm a1 a2 a3 a4 tx' tm' ∧ Iv tx' tm' ∧ Mu tx tx' := by
  obtain ⟨r, tx', tm', k1, k2, k3⟩ := op_trace h.H a1 a2 a3
  have fX : fx _ _ tx tx' := fr_x11_trace tx a1 a2 a3 _ k1
  have fM : fx _ _ tm tm' := fr_m_trace tm a1 a2 a3 _ k2
  have sK := same_fx fM
  exact ⟨tx', tm', ⟨r, k1, k2⟩, ⟨k3, h.T.fr fX fM, h.I.fr fX fM, h.E.fr fX fM, h.B.fr fX fM, h.K.fr fX fM, h.N.fr fX fM, h.P.fr fX fM, h.G.fr fX fM, h.F.fr fX fM, h.J.fr fX fM, RR.fr (S := []) (T := []) (tx := tx) h.R fM, h.C.frm sK fM, h.Q.fr fM, (h.Tb.same sK).fr fX, (h.Wy.same sK).fr fX, h.W.fr fX, (h.D.same sK).fr fX, h.Dm.fr fM, h.O.fr fX, (h.Ft.same sK (fM.1 2 rfl).2.2.1 (fM.1 45 rfl).1 (fM.1 46 rfl).2.2.1 (fM.1 47 rfl).2.2.1).frx fX, h.Gm.fr fX, n6_fr h fX, n7_fr h fX, n1_fr h fX⟩, Mu.fr fX⟩
theorem iv_write {tx tm : St} (h : Iv tx tm) (a1 a2 a3 a4 : Int32) : ∃ tx' tm', stepOK 3 tx tm a1 a2 a3 a4 tx' tm' ∧ Iv tx' tm' ∧ Mu tx tx' := by
  obtain ⟨r, tx', tm', k1, k2, k3⟩ := op_write h.T a1
  have fX : fx _ _ tx tx' := fr_x11_write tx a1 _ k1
  have fM : fx _ _ tm tm' := fr_m_write tm a1 _ k2
  have sK := same_fx fM
  exact ⟨tx', tm', ⟨r, k1, k2⟩, ⟨h.H.fr fX fM, k3, h.I.fr fX fM, h.E.fr fX fM, h.B.fr fX fM, h.K.fr fX fM, h.N.fr fX fM, h.P.fr fX fM, h.G.fr fX fM, h.F.fr fX fM, h.J.fr fX fM, RR.fr (S := []) (T := []) (tx := tx) h.R fM, h.C.frm sK fM, h.Q.fr fM, (h.Tb.same sK).fr fX, (h.Wy.same sK).fr fX, h.W.fr fX, (h.D.same sK).fr fX, h.Dm.fr fM, h.O.fr fX, (h.Ft.same sK (fM.1 2 rfl).2.2.1 (fM.1 45 rfl).1 (fM.1 46 rfl).2.2.1 (fM.1 47 rfl).2.2.1).frx fX, h.Gm.fr fX, n6_fr h fX, n7_fr h fX, n1_fr h fX⟩, Mu.fr fX⟩
theorem iv_erase {tx tm : St} (h : Iv tx tm) (a1 a2 a3 a4 : Int32) : ∃ tx' tm', stepOK 4 tx tm a1 a2 a3 a4 tx' tm' ∧ Iv tx' tm' ∧ Mu tx tx' := by
  obtain ⟨r, tx', tm', k1, k2, k3⟩ := op_erase h.T
  have fX : fx _ _ tx tx' := fr_x11_erase tx  _ k1
  have fM : fx _ _ tm tm' := fr_m_erase tm  _ k2
  have sK := same_fx fM
  exact ⟨tx', tm', ⟨r, k1, k2⟩, ⟨h.H.fr fX fM, k3, h.I.fr fX fM, h.E.fr fX fM, h.B.fr fX fM, h.K.fr fX fM, h.N.fr fX fM, h.P.fr fX fM, h.G.fr fX fM, h.F.fr fX fM, h.J.fr fX fM, RR.fr (S := []) (T := []) (tx := tx) h.R fM, h.C.frm sK fM, h.Q.fr fM, (h.Tb.same sK).fr fX, (h.Wy.same sK).fr fX, h.W.fr fX, (h.D.same sK).fr fX, h.Dm.fr fM, h.O.fr fX, (h.Ft.same sK (fM.1 2 rfl).2.2.1 (fM.1 45 rfl).1 (fM.1 46 rfl).2.2.1 (fM.1 47 rfl).2.2.1).frx fX, h.Gm.fr fX, n6_fr h fX, n7_fr h fX, n1_fr h fX⟩, Mu.fr fX⟩
theorem iv_patrol {tx tm : St} (h : Iv tx tm) (a1 a2 a3 a4 : Int32) : ∃ tx' tm', stepOK 26 tx tm a1 a2 a3 a4 tx' tm' ∧ Iv tx' tm' ∧ Mu tx tx' := by
  obtain ⟨r, tx', tm', k1, k2, k3⟩ := op_patrol h.P
  have fX : fx _ _ tx tx' := fr_x11_patrol tx  _ k1
  have fM : fx _ _ tm tm' := fr_m_patrol tm  _ k2
  have sK := same_fx fM
  exact ⟨tx', tm', ⟨r, k1, k2⟩, ⟨h.H.fr fX fM, h.T.fr fX fM, h.I.fr fX fM, h.E.fr fX fM, h.B.fr fX fM, h.K.fr fX fM, h.N.fr fX fM, k3, h.G.fr fX fM, h.F.fr fX fM, h.J.fr fX fM, RR.fr (S := []) (T := []) (tx := tx) h.R fM, h.C.frm sK fM, h.Q.fr fM, (h.Tb.same sK).fr fX, (h.Wy.same sK).fr fX, h.W.fr fX, (h.D.same sK).fr fX, h.Dm.fr fM, h.O.fr fX, (h.Ft.same sK (fM.1 2 rfl).2.2.1 (fM.1 45 rfl).1 (fM.1 46 rfl).2.2.1 (fM.1 47 rfl).2.2.1).frx fX, h.Gm.fr fX, n6_fr h fX, n7_fr h fX, n1_fr h fX⟩, Mu.fr fX⟩
theorem iv_catches {tx tm : St} (h : Iv tx tm) (a1 a2 a3 a4 : Int32) : ∃ tx' tm', stepOK 27 tx tm a1 a2 a3 a4 tx' tm' ∧ Iv tx' tm' ∧ Mu tx tx' := by
  obtain ⟨r, tx', tm', k1, k2, k3⟩ := op_catches h.P a1 a2 a3
  have fX : fx _ _ tx tx' := fr_x11_catches tx a1 a2 a3 _ k1
  have fM : fx _ _ tm tm' := fr_m_catches tm a1 a2 a3 _ k2
  have sK := same_fx fM
  exact ⟨tx', tm', ⟨r, k1, k2⟩, ⟨h.H.fr fX fM, h.T.fr fX fM, h.I.fr fX fM, h.E.fr fX fM, h.B.fr fX fM, h.K.fr fX fM, h.N.fr fX fM, k3, h.G.fr fX fM, h.F.fr fX fM, h.J.fr fX fM, RR.fr (S := []) (T := []) (tx := tx) h.R fM, h.C.frm sK fM, h.Q.fr fM, (h.Tb.same sK).fr fX, (h.Wy.same sK).fr fX, h.W.fr fX, (h.D.same sK).fr fX, h.Dm.fr fM, h.O.fr fX, (h.Ft.same sK (fM.1 2 rfl).2.2.1 (fM.1 45 rfl).1 (fM.1 46 rfl).2.2.1 (fM.1 47 rfl).2.2.1).frx fX, h.Gm.fr fX, n6_fr h fX, n7_fr h fX, n1_fr h fX⟩, Mu.fr fX⟩
theorem iv_insider {tx tm : St} (h : Iv tx tm) (a1 a2 a3 a4 : Int32) : ∃ tx' tm', stepOK 29 tx tm a1 a2 a3 a4 tx' tm' ∧ Iv tx' tm' ∧ Mu tx tx' := by
  obtain ⟨r, tx', tm', k1, k2, k3⟩ := op_insider h.I a1
  have fX : fx _ _ tx tx' := fr_x11_insider tx a1 _ k1
  have fM : fx _ _ tm tm' := fr_m_insider tm a1 _ k2
  have sK := same_fx fM
  exact ⟨tx', tm', ⟨r, k1, k2⟩, ⟨h.H.fr fX fM, h.T.fr fX fM, k3, h.E.fr fX fM, h.B.fr fX fM, h.K.fr fX fM, h.N.fr fX fM, h.P.fr fX fM, h.G.fr fX fM, h.F.fr fX fM, h.J.fr fX fM, RR.fr (S := []) (T := []) (tx := tx) h.R fM, h.C.frm sK fM, h.Q.fr fM, (h.Tb.same sK).fr fX, (h.Wy.same sK).fr fX, h.W.fr fX, (h.D.same sK).fr fX, h.Dm.fr fM, h.O.fr fX, (h.Ft.same sK (fM.1 2 rfl).2.2.1 (fM.1 45 rfl).1 (fM.1 46 rfl).2.2.1 (fM.1 47 rfl).2.2.1).frx fX, h.Gm.fr fX, n6_fr h fX, n7_fr h fX, n1_fr h fX⟩, Mu.fr fX⟩
theorem iv_event {tx tm : St} (h : Iv tx tm) (a1 a2 a3 a4 : Int32) : ∃ tx' tm', stepOK 33 tx tm a1 a2 a3 a4 tx' tm' ∧ Iv tx' tm' ∧ Mu tx tx' := by
  obtain ⟨r, tx', tm', k1, k2, k3⟩ := op_event h.E a1 a2
  have fX : fx _ _ tx tx' := fr_x11_event tx a1 a2 _ k1
  have fM : fx _ _ tm tm' := fr_m_event tm a1 a2 _ k2
  have sK := same_fx fM
  exact ⟨tx', tm', ⟨r, k1, k2⟩, ⟨h.H.fr fX fM, h.T.fr fX fM, h.I.fr fX fM, k3, h.B.fr fX fM, h.K.fr fX fM, h.N.fr fX fM, h.P.fr fX fM, h.G.fr fX fM, h.F.fr fX fM, h.J.fr fX fM, RR.fr (S := []) (T := []) (tx := tx) h.R fM, h.C.frm sK fM, h.Q.fr fM, (h.Tb.same sK).fr fX, (h.Wy.same sK).fr fX, h.W.fr fX, (h.D.same sK).fr fX, h.Dm.fr fM, h.O.fr fX, (h.Ft.same sK (fM.1 2 rfl).2.2.1 (fM.1 45 rfl).1 (fM.1 46 rfl).2.2.1 (fM.1 47 rfl).2.2.1).frx fX, h.Gm.fr fX, n6_fr h fX, n7_fr h fX, n1_fr h fX⟩, Mu.fr fX⟩
theorem iv_rest {tx tm : St} (h : Iv tx tm) (a1 a2 a3 a4 : Int32) : ∃ tx' tm', stepOK 34 tx tm a1 a2 a3 a4 tx' tm' ∧ Iv tx' tm' ∧ Mu tx tx' := by
  obtain ⟨r, tx', tm', k1, k2, k3⟩ := op_rest h.E
  have fX : fx _ _ tx tx' := fr_x11_rest tx  _ k1
  have fM : fx _ _ tm tm' := fr_m_rest tm  _ k2
  have sK := same_fx fM
  exact ⟨tx', tm', ⟨r, k1, k2⟩, ⟨h.H.fr fX fM, h.T.fr fX fM, h.I.fr fX fM, k3, h.B.fr fX fM, h.K.fr fX fM, h.N.fr fX fM, h.P.fr fX fM, h.G.fr fX fM, h.F.fr fX fM, h.J.fr fX fM, RR.fr (S := []) (T := []) (tx := tx) h.R fM, h.C.frm sK fM, h.Q.fr fM, (h.Tb.same sK).fr fX, (h.Wy.same sK).fr fX, h.W.fr fX, (h.D.same sK).fr fX, h.Dm.fr fM, h.O.fr fX, (h.Ft.same sK (fM.1 2 rfl).2.2.1 (fM.1 45 rfl).1 (fM.1 46 rfl).2.2.1 (fM.1 47 rfl).2.2.1).frx fX, h.Gm.fr fX, n6_fr h fX, n7_fr h fX, n1_fr h fX⟩, Mu.fr fX⟩
theorem iv_walk {tx tm : St} (h : Iv tx tm) (a1 a2 a3 a4 : Int32) : ∃ tx' tm', stepOK 37 tx tm a1 a2 a3 a4 tx' tm' ∧ Iv tx' tm' ∧ Mu tx tx' := by
  obtain ⟨r, tx', tm', k1, k2, k3⟩ := op_walk h.B a1 a2
  have fX : fx _ _ tx tx' := fr_x11_walk tx a1 a2 _ k1
  have fM : fx _ _ tm tm' := fr_m_walk tm a1 a2 _ k2
  have sK := same_fx fM
  exact ⟨tx', tm', ⟨r, k1, k2⟩, ⟨h.H.fr fX fM, h.T.fr fX fM, h.I.fr fX fM, h.E.fr fX fM, k3, h.K.fr fX fM, h.N.fr fX fM, h.P.fr fX fM, h.G.fr fX fM, h.F.fr fX fM, h.J.fr fX fM, RR.fr (S := []) (T := []) (tx := tx) h.R fM, h.C.frm sK fM, h.Q.fr fM, (h.Tb.same sK).fr fX, (h.Wy.same sK).fr fX, h.W.fr fX, (h.D.same sK).fr fX, h.Dm.fr fM, h.O.fr fX, (h.Ft.same sK (fM.1 2 rfl).2.2.1 (fM.1 45 rfl).1 (fM.1 46 rfl).2.2.1 (fM.1 47 rfl).2.2.1).frx fX, h.Gm.fr fX, n6_fr h fX, n7_fr h fX, n1_fr h fX⟩, Mu.fr fX⟩
theorem iv_home {tx tm : St} (h : Iv tx tm) (a1 a2 a3 a4 : Int32) : ∃ tx' tm', stepOK 38 tx tm a1 a2 a3 a4 tx' tm' ∧ Iv tx' tm' ∧ Mu tx tx' := by
  obtain ⟨r, tx', tm', k1, k2, k3⟩ := op_home h.B a1
  have fX : fx _ _ tx tx' := fr_x11_home tx a1 _ k1
  have fM : fx _ _ tm tm' := fr_m_home tm a1 _ k2
  have sK := same_fx fM
  exact ⟨tx', tm', ⟨r, k1, k2⟩, ⟨h.H.fr fX fM, h.T.fr fX fM, h.I.fr fX fM, h.E.fr fX fM, k3, h.K.fr fX fM, h.N.fr fX fM, h.P.fr fX fM, h.G.fr fX fM, h.F.fr fX fM, h.J.fr fX fM, RR.fr (S := []) (T := []) (tx := tx) h.R fM, h.C.frm sK fM, h.Q.fr fM, (h.Tb.same sK).fr fX, (h.Wy.same sK).fr fX, h.W.fr fX, (h.D.same sK).fr fX, h.Dm.fr fM, h.O.fr fX, (h.Ft.same sK (fM.1 2 rfl).2.2.1 (fM.1 45 rfl).1 (fM.1 46 rfl).2.2.1 (fM.1 47 rfl).2.2.1).frx fX, h.Gm.fr fX, n6_fr h fX, n7_fr h fX, n1_fr h fX⟩, Mu.fr fX⟩
theorem iv_image {tx tm : St} (h : Iv tx tm) (a1 a2 a3 a4 : Int32) : ∃ tx' tm', stepOK 43 tx tm a1 a2 a3 a4 tx' tm' ∧ Iv tx' tm' ∧ Mu tx tx' := by
  obtain ⟨r, tx', tm', k1, k2, k3⟩ := op_image h.H h.J a1
  have fX : fx _ _ tx tx' := fr_x11_image tx a1 _ k1
  have fM : fx _ _ tm tm' := fr_m_image tm a1 _ k2
  have sK := same_fx fM
  exact ⟨tx', tm', ⟨r, k1, k2⟩, ⟨h.H.fr fX fM, h.T.fr fX fM, h.I.fr fX fM, h.E.fr fX fM, h.B.fr fX fM, h.K.fr fX fM, h.N.fr fX fM, h.P.fr fX fM, h.G.fr fX fM, h.F.fr fX fM, k3, RR.fr (S := []) (T := []) (tx := tx) h.R fM, h.C.frm sK fM, h.Q.fr fM, (h.Tb.same sK).fr fX, (h.Wy.same sK).fr fX, h.W.fr fX, (h.D.same sK).fr fX, h.Dm.fr fM, h.O.fr fX, (h.Ft.same sK (fM.1 2 rfl).2.2.1 (fM.1 45 rfl).1 (fM.1 46 rfl).2.2.1 (fM.1 47 rfl).2.2.1).frx fX, h.Gm.fr fX, n6_fr h fX, n7_fr h fX, n1_fr h fX⟩, Mu.fr fX⟩
theorem iv_reaches {tx tm : St} (h : Iv tx tm) (a1 a2 a3 a4 : Int32) : ∃ tx' tm', stepOK 9 tx tm a1 a2 a3 a4 tx' tm' ∧ Iv tx' tm' ∧ Mu tx tx' := by
  obtain ⟨r, tx', k1, k2⟩ := op_reaches h.K h.N h.R h.n6.1 a1 a2
  have fX : fx _ _ tx tx' := fr_x11_reaches tx a1 a2 _ k1
  have fM := fx.rfl (S := []) (T := []) (t := tm)
  have sK := same_fx fM
  exact ⟨tx', tm, ⟨r, k1, k2, rfl⟩, ⟨h.H.fr fX fM, h.T.fr fX fM, h.I.fr fX fM, h.E.fr fX fM, h.B.fr fX fM, h.K.fr fX fM, h.N.fr fX fM, h.P.fr fX fM, h.G.fr fX fM, h.F.fr fX fM, h.J.fr fX fM, RR.fr (S := []) (T := []) (tx := tx) h.R fM, h.C.frm sK fM, h.Q.fr fM, (h.Tb.same sK).fr fX, (h.Wy.same sK).fr fX, h.W.fr fX, (h.D.same sK).fr fX, h.Dm.fr fM, h.O.fr fX, (h.Ft.same sK (fM.1 2 rfl).2.2.1 (fM.1 45 rfl).1 (fM.1 46 rfl).2.2.1 (fM.1 47 rfl).2.2.1).frx fX, h.Gm.fr fX, n6_fr h fX, n7_fr h fX, n1_fr h fX⟩, Mu.fr fX⟩
theorem iv_holds {tx tm : St} (h : Iv tx tm) (a1 a2 a3 a4 : Int32) : ∃ tx' tm', stepOK 22 tx tm a1 a2 a3 a4 tx' tm' ∧ Iv tx' tm' ∧ Mu tx tx' := by
  obtain ⟨r, tx', k1, k2⟩ := op_holds h.K h.N h.R h.n6.1 h.G a1 a2
  have fX : fx _ _ tx tx' := fr_x11_holds tx a1 a2 _ k1
  have fM := fx.rfl (S := []) (T := []) (t := tm)
  have sK := same_fx fM
  exact ⟨tx', tm, ⟨r, k1, k2, rfl⟩, ⟨h.H.fr fX fM, h.T.fr fX fM, h.I.fr fX fM, h.E.fr fX fM, h.B.fr fX fM, h.K.fr fX fM, h.N.fr fX fM, h.P.fr fX fM, h.G.fr fX fM, h.F.fr fX fM, h.J.fr fX fM, RR.fr (S := []) (T := []) (tx := tx) h.R fM, h.C.frm sK fM, h.Q.fr fM, (h.Tb.same sK).fr fX, (h.Wy.same sK).fr fX, h.W.fr fX, (h.D.same sK).fr fX, h.Dm.fr fM, h.O.fr fX, (h.Ft.same sK (fM.1 2 rfl).2.2.1 (fM.1 45 rfl).1 (fM.1 46 rfl).2.2.1 (fM.1 47 rfl).2.2.1).frx fX, h.Gm.fr fX, n6_fr h fX, n7_fr h fX, n1_fr h fX⟩, Mu.fr fX⟩
