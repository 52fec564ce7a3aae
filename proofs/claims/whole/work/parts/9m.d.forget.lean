/-! One call, where the kept front is forgotten. -/
theorem RFt.non {S T : List Nat} {tx tm tx' tm' : St} (h : RFt tx tm) (hx : fx S T tx tx') (e : gI tx' 409 = -1) (h1 : (T.elem 405 || T.elem 406 || T.elem 407) = false := by rfl) : RFt tx' tm' := by
  simp only [Bool.or_eq_false_iff] at h1
  refine ⟨?_, Or.inl e⟩
  rw [hx.2 405 h1.1.1, hx.2 406 h1.1.2, hx.2 407 h1.2]
  exact h.1
theorem fgt {t u : St} (h : x4_forgetFront t = some u) : gI u 409 = -1 := by
  unfold x4_forgetFront at h
  rw [nm_eq] at h
  cases h
  rfl
theorem stX {t u : St} {a1 a2 a3 a4 r : Int32} (h : x11_step t a1 a2 a3 a4 = some (r, u)) : (r = 1 ∧ gI u 409 = -1) ∨ (¬ r = 1 ∧ u = t) := by
  unfold x11_step at h
  obtain ⟨q1, -, h⟩ := bd_some h
  split at h
  · obtain ⟨q2, -, h⟩ := bd_some h
    split at h
    · obtain ⟨q3, -, h⟩ := bd_some h
      split at h
      · obtain ⟨q4, -, h⟩ := bd_some h
        split at h
        · obtain ⟨q5, -, h⟩ := bd_some h
          obtain ⟨q6, -, h⟩ := bd_some h
          obtain ⟨q7, -, h⟩ := bd_some h
          obtain ⟨q8, g, h⟩ := bd_some h
          cases h
          exact Or.inl ⟨rfl, fgt g⟩
        · cases h; exact Or.inr ⟨by decide, rfl⟩
      · cases h; exact Or.inr ⟨by decide, rfl⟩
    · cases h; exact Or.inr ⟨by decide, rfl⟩
  · cases h; exact Or.inr ⟨by decide, rfl⟩
theorem stM {t u : St} {a1 a2 a3 a4 r : Int32} (h : m_step t a1 a2 a3 a4 = some (r, u)) : r = 1 ∨ u = t := by
  unfold m_step at h
  obtain ⟨q1, -, h⟩ := bd_some h
  split at h
  · cases h; exact Or.inr rfl
  · obtain ⟨q2, -, h⟩ := bd_some h
    split at h
    · cases h; exact Or.inr rfl
    · obtain ⟨q3, -, h⟩ := bd_some h
      split at h
      · cases h; exact Or.inr rfl
      · obtain ⟨q4, -, h⟩ := bd_some h
        split at h
        · cases h; exact Or.inr rfl
        · have h := (gd_some h).2
          rw [nm_eq] at h
          have h := (gd_some h).2
          rw [nm_eq] at h
          have h := (gd_some h).2
          rw [nm_eq] at h
          cases h
          exact Or.inl rfl
theorem frX {t u : St} {a1 r : Int32} (h : x11_from t a1 = some (r, u)) : (r = 1 ∧ gI u 409 = -1) ∨ (¬ r = 1 ∧ u = t) := by
  unfold x11_from at h
  obtain ⟨q1, -, h⟩ := bd_some h
  split at h
  · have h := (gd_some h).2
    split at h
    · cases h; exact Or.inr ⟨by decide, rfl⟩
    · obtain ⟨q5, -, h⟩ := bd_some h
      obtain ⟨q8, g, h⟩ := bd_some h
      cases h
      exact Or.inl ⟨rfl, fgt g⟩
  · cases h; exact Or.inr ⟨by decide, rfl⟩
theorem frM {t u : St} {a1 r : Int32} (h : m_from t a1 = some (r, u)) : r = 1 ∨ u = t := by
  unfold m_from at h
  obtain ⟨q1, -, h⟩ := bd_some h
  split at h
  · cases h; exact Or.inr rfl
  · have h := (gd_some h).2
    split at h
    · cases h; exact Or.inr rfl
    · obtain ⟨q5, -, h⟩ := bd_some h
      cases h
      exact Or.inl rfl
theorem iv_step {tx tm : St} (h : Iv tx tm) (a1 a2 a3 a4 : Int32) : ∃ tx' tm', stepOK 0 tx tm a1 a2 a3 a4 tx' tm' ∧ Iv tx' tm' ∧ Mu tx tx' := by
  obtain ⟨r, tx', tm', k1, k2, k3⟩ := op_step h.H a1 a2 a3 a4
  have fX : fx _ _ tx tx' := fr_x11_step tx a1 a2 a3 a4 _ k1
  have fM : fx _ _ tm tm' := fr_m_step tm a1 a2 a3 a4 _ k2
  have sK := same_fx fM
  have ft : RFt tx' tm' := by
    rcases stX k1 with ⟨-, e⟩ | ⟨e, e1⟩
    · exact h.Ft.non fX e
    · rcases stM k2 with e2 | e2
      · exact absurd e2 e
      · rw [e1, e2]; exact h.Ft
  exact ⟨tx', tm', ⟨r, k1, k2⟩, ⟨k3, h.T.fr fX fM, h.I.fr fX fM, h.E.fr fX fM, h.B.fr fX fM, h.K.fr fX fM, h.N.fr fX fM, h.P.fr fX fM, h.G.fr fX fM, h.F.fr fX fM, h.J.fr fX fM, RR.fr (S := []) (T := []) (tx := tx) h.R fM, h.C.frm sK fM, h.Q.fr fM, (h.Tb.same sK).fr fX, (h.Wy.same sK).fr fX, h.W.fr fX, (h.D.same sK).fr fX, h.Dm.fr fM, h.O.fr fX, ft, h.Gm.fr fX, n6_fr h fX, n7_fr h fX, n1_fr h fX⟩, Mu.fr fX⟩
theorem iv_from {tx tm : St} (h : Iv tx tm) (a1 a2 a3 a4 : Int32) : ∃ tx' tm', stepOK 45 tx tm a1 a2 a3 a4 tx' tm' ∧ Iv tx' tm' ∧ Mu tx tx' := by
  obtain ⟨r, tx', tm', k1, k2, k3⟩ := op_from h.J h.H a1
  have fX : fx _ _ tx tx' := fr_x11_from tx a1 _ k1
  have fM : fx _ _ tm tm' := fr_m_from tm a1 _ k2
  have sK := same_fx fM
  have ft : RFt tx' tm' := by
    rcases frX k1 with ⟨-, e⟩ | ⟨e, e1⟩
    · exact h.Ft.non fX e
    · rcases frM k2 with e2 | e2
      · exact absurd e2 e
      · rw [e1, e2]; exact h.Ft
  exact ⟨tx', tm', ⟨r, k1, k2⟩, ⟨k3, h.T.fr fX fM, h.I.fr fX fM, h.E.fr fX fM, h.B.fr fX fM, h.K.fr fX fM, h.N.fr fX fM, h.P.fr fX fM, h.G.fr fX fM, h.F.fr fX fM, h.J.fr fX fM, RR.fr (S := []) (T := []) (tx := tx) h.R fM, h.C.frm sK fM, h.Q.fr fM, (h.Tb.same sK).fr fX, (h.Wy.same sK).fr fX, h.W.fr fX, (h.D.same sK).fr fX, h.Dm.fr fM, h.O.fr fX, ft, h.Gm.fr fX, n6_fr h fX, n7_fr h fX, n1_fr h fX⟩, Mu.fr fX⟩
theorem iv_clear {tx tm : St} (h : Iv tx tm) (a1 a2 a3 a4 : Int32) : ∃ tx' tm', stepOK 6 tx tm a1 a2 a3 a4 tx' tm' ∧ Iv tx' tm' ∧ Mu tx tx' := by
  obtain ⟨r, tx', tm', k1, k2, ⟨cK, cN, cR, cQ, cC, cT, cW⟩, -, e2, e409, e35⟩ := op_clear h.K h.N h.Tb h.Wy
  have fX : fx _ _ tx tx' := fr_x11_clear tx _ k1
  have fM : fx _ _ tm tm' := fr_m_clear tm _ k2
  exact ⟨tx', tm', ⟨r, k1, k2⟩, ⟨h.H.fr fX fM, h.T.fr fX fM, h.I.fr fX fM, h.E.fr fX fM, h.B.fr fX fM, cK, cN, h.P.fr fX fM, h.G.fr fX fM, h.F.fr fX fM, h.J.fr fX fM, cR, cC, cQ, cT, cW, h.W.fr fX, ⟨(h.D.1.fr fX rfl).1, Or.inl e2⟩, Or.inl e35, h.O.fr fX, h.Ft.non fX e409, h.Gm.fr fX, n6_fr h fX, n7_fr h fX, n1_fr h fX⟩, Mu.fr fX⟩
