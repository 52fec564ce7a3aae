/-! One call, where a guard is hired. -/
theorem hire_mt {t : St} {a1 a2 : Int32} {q : Int32 × St} (h : x4_hire t a1 a2 = some q) : (q.1 = 0 ∧ q.2 = t) ∨ (gI q.2 409 = -1 ∧ gN q.2 9000 = gN t 9000 + 2 ∧ gN q.2 9001 = gN t 9001 + gN q.2 403 + gN q.2 404) := by
  unfold x4_hire at h
  split at h
  · rw [nm_eq] at h
    obtain ⟨s, g, h⟩ := cpy_some h
    unfold x4_hire_J32 at h
    obtain ⟨v, g2, h⟩ := cpy_some h
    have f := f0_x4_hire_J46 v a1 a2 _ _ h
    unfold x4_hire_J46 at h
    obtain ⟨y, -, h⟩ := bd_some h
    rw [nm_eq] at h
    obtain ⟨z, e, h⟩ := bd_some h
    cases h
    refine Or.inr ⟨fgt e, ?_⟩
    obtain ⟨-, -, -, -, rfl⟩ := g
    obtain ⟨-, -, -, -, rfl⟩ := g2
    rw [f.2 9000 rfl, f.2 9001 rfl, f.2 403 rfl, f.2 404 rfl, nw_M.1, nw_M.2, nw_M.1, nw_M.2, nw_N (k := 404) (by omega)]
    generalize hs : nwI t 403 _ _ = s at *
    have e3 : ∀ n f, gN (nwI s 404 n f) 403 = gN s 403 := fun n f => by simp [nwI, va_up, gN]
    rw [e3, ← hs, nw_N (by omega)]
    exact ⟨by omega, by first | omega | trivial⟩
  · cases h; exact Or.inl ⟨rfl, rfl⟩
theorem guard_mt {t u : St} {a1 a2 r : Int32} (h : x11_guard t a1 a2 = some (r, u)) : u = t ∨ (gI u 409 = -1 ∧ gN u 9000 = gN t 9000 + 2 ∧ gN u 9001 = gN t 9001 + gN u 403 + gN u 404) := by
  unfold x11_guard at h
  obtain ⟨q1, -, h⟩ := bd_some h
  split at h
  · obtain ⟨q2, -, h⟩ := bd_some h
    split at h
    · obtain ⟨q3, g, h⟩ := bd_some h
      have m := hire_mt g
      unfold x11_guard_J33 at h
      split at h
      · cases h
        rcases m with m | m
        · exact Or.inl m.2
        · exact Or.inr m
      · cases h
        rcases m with m | m
        · exact Or.inl m.2
        · exact Or.inr m
    · cases h; exact Or.inl rfl
  · cases h; exact Or.inl rfl
theorem guardM_mt {t u : St} {a1 a2 r : Int32} (h : m_guard t a1 a2 = some (r, u)) : u = t ∨ gI u 45 = gI t 45 + 1 := by
  unfold m_guard at h
  obtain ⟨q1, -, h⟩ := bd_some h
  split at h
  · cases h; exact Or.inl rfl
  · obtain ⟨q2, -, h⟩ := bd_some h
    split at h
    · cases h; exact Or.inl rfl
    · split at h
      · cases h; exact Or.inl rfl
      · have h := (gd_some h).2
        rw [nm_eq] at h
        have h := (gd_some h).2
        rw [nm_eq, nm_eq] at h
        cases h
        exact Or.inr rfl
theorem iv_guard {tx tm : St} (h : Iv tx tm) (a1 a2 a3 a4 : Int32) : ∃ tx' tm', stepOK 21 tx tm a1 a2 a3 a4 tx' tm' ∧ Iv tx' tm' ∧ Mu tx tx' := by
  obtain ⟨r, tx', tm', k1, k2, k3⟩ := op_guard h.G a1 a2
  have fX : fx _ _ tx tx' := fr_x11_guard tx a1 a2 _ k1
  have fM : fx _ _ tm tm' := fr_m_guard tm a1 a2 _ k2
  have sK := same_fx fM
  have ft : RFt tx' tm' := by
    rcases guard_mt k1 with e | ⟨e, -⟩
    · rcases guardM_mt k2 with e2 | e2
      · rw [e, e2]; exact h.Ft
      · have g1 := h.G.1
        have g2 := k3.1.2.2
        rw [e, g1.2.2, e2, g1.1, show jn (nG tm) + 1 = jn (nG tm + 1) from jn_s _] at g2
        have := (jn_inj (by omega) (by omega)).mp g2
        omega
    · exact h.Ft.non fX e
  have mt : gN tx' 9000 ≤ gN tx 9000 + 2 ∧ gN tx' 9001 ≤ gN tx 9001 + 2048 := by
    rcases guard_mt k1 with e | ⟨-, m1, m2⟩
    · rw [e]; omega
    · have p := pow_le10 k3.1.2.1
      rw [k3.2.2.1, k3.2.2.2.1] at m2
      omega
  refine ⟨tx', tm', ⟨r, k1, k2⟩, ⟨h.H.fr fX fM, h.T.fr fX fM, h.I.fr fX fM, h.E.fr fX fM, h.B.fr fX fM, h.K.fr fX fM, h.N.fr fX fM, h.P.fr fX fM, k3, h.F.fr fX fM, h.J.fr fX fM, RR.fr (S := []) (T := []) (tx := tx) h.R fM, h.C.frm sK fM, h.Q.fr fM, (h.Tb.same sK).fr fX, (h.Wy.same sK).fr fX, h.W.fr fX, (h.D.same sK).fr fX, h.Dm.fr fM, h.O.fr fX, ft, h.Gm.fr fX, n6_fr h fX, n7_fr h fX, n1_fr h fX⟩, ?_⟩
  have p := PD.fr fX
  unfold Mu
  rw [p, PG.fr fX, fX.2 608 rfl, fX.2 808 rfl, fX.2 12 rfl]
  omega
