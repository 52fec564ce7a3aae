/-! What holds between two calls. -/
def Iv (tx tm : St) : Prop := RH tx tm ∧ RT tx tm ∧ RI tx tm ∧ RE tx tm ∧ RB tx tm ∧ RK tx tm ∧ RN tx tm ∧ RP tx tm ∧ RG tx tm ∧ RF tx tm ∧ RJ tx tm ∧ RR tx tm ∧ RC tm ∧ RQ tm ∧ RTb tx tm ∧ RWy tx tm ∧ RW tx ∧ RD tx tm ∧ RDm tm ∧ R12 tx ∧ RFt tx tm ∧ RGm tx ∧ (gN tx 611 = 330 ∧ gN tx 612 = 330 ∧ gN tx 613 = 8) ∧ gN tx 701 = 330 ∧ (gN tx 107 = 8 ∧ gN tx 105 ≤ 20500)
theorem Iv.H {tx tm : St} (h : Iv tx tm) : RH tx tm := h.1
theorem Iv.T {tx tm : St} (h : Iv tx tm) : RT tx tm := h.2.1
theorem Iv.I {tx tm : St} (h : Iv tx tm) : RI tx tm := h.2.2.1
theorem Iv.E {tx tm : St} (h : Iv tx tm) : RE tx tm := h.2.2.2.1
theorem Iv.B {tx tm : St} (h : Iv tx tm) : RB tx tm := h.2.2.2.2.1
theorem Iv.K {tx tm : St} (h : Iv tx tm) : RK tx tm := h.2.2.2.2.2.1
theorem Iv.N {tx tm : St} (h : Iv tx tm) : RN tx tm := h.2.2.2.2.2.2.1
theorem Iv.P {tx tm : St} (h : Iv tx tm) : RP tx tm := h.2.2.2.2.2.2.2.1
theorem Iv.G {tx tm : St} (h : Iv tx tm) : RG tx tm := h.2.2.2.2.2.2.2.2.1
theorem Iv.F {tx tm : St} (h : Iv tx tm) : RF tx tm := h.2.2.2.2.2.2.2.2.2.1
theorem Iv.J {tx tm : St} (h : Iv tx tm) : RJ tx tm := h.2.2.2.2.2.2.2.2.2.2.1
theorem Iv.R {tx tm : St} (h : Iv tx tm) : RR tx tm := h.2.2.2.2.2.2.2.2.2.2.2.1
theorem Iv.C {tx tm : St} (h : Iv tx tm) : RC tm := h.2.2.2.2.2.2.2.2.2.2.2.2.1
theorem Iv.Q {tx tm : St} (h : Iv tx tm) : RQ tm := h.2.2.2.2.2.2.2.2.2.2.2.2.2.1
theorem Iv.Tb {tx tm : St} (h : Iv tx tm) : RTb tx tm := h.2.2.2.2.2.2.2.2.2.2.2.2.2.2.1
theorem Iv.Wy {tx tm : St} (h : Iv tx tm) : RWy tx tm := h.2.2.2.2.2.2.2.2.2.2.2.2.2.2.2.1
theorem Iv.W {tx tm : St} (h : Iv tx tm) : RW tx := h.2.2.2.2.2.2.2.2.2.2.2.2.2.2.2.2.1
theorem Iv.D {tx tm : St} (h : Iv tx tm) : RD tx tm := h.2.2.2.2.2.2.2.2.2.2.2.2.2.2.2.2.2.1
theorem Iv.Dm {tx tm : St} (h : Iv tx tm) : RDm tm := h.2.2.2.2.2.2.2.2.2.2.2.2.2.2.2.2.2.2.1
theorem Iv.O {tx tm : St} (h : Iv tx tm) : R12 tx := h.2.2.2.2.2.2.2.2.2.2.2.2.2.2.2.2.2.2.2.1
theorem Iv.Ft {tx tm : St} (h : Iv tx tm) : RFt tx tm := h.2.2.2.2.2.2.2.2.2.2.2.2.2.2.2.2.2.2.2.2.1
theorem Iv.Gm {tx tm : St} (h : Iv tx tm) : RGm tx := h.2.2.2.2.2.2.2.2.2.2.2.2.2.2.2.2.2.2.2.2.2.1
theorem Iv.n6 {tx tm : St} (h : Iv tx tm) : gN tx 611 = 330 ∧ gN tx 612 = 330 ∧ gN tx 613 = 8 := h.2.2.2.2.2.2.2.2.2.2.2.2.2.2.2.2.2.2.2.2.2.2.1
theorem Iv.n7 {tx tm : St} (h : Iv tx tm) : gN tx 701 = 330 := h.2.2.2.2.2.2.2.2.2.2.2.2.2.2.2.2.2.2.2.2.2.2.2.1
theorem Iv.n1 {tx tm : St} (h : Iv tx tm) : gN tx 107 = 8 ∧ gN tx 105 ≤ 20500 := h.2.2.2.2.2.2.2.2.2.2.2.2.2.2.2.2.2.2.2.2.2.2.2.2
theorem start_iv : ∃ tm, m_init tM0 = some tm ∧ Iv tX0 tm ∧ gN tX0 9000 = 0 ∧ gN tX0 9001 = 0 := by
  obtain ⟨tm, k, h1, h2, h3, h4, h5, h6, h7, h8, h9, h10, h11, h12, h13, h14, h15⟩ := start_ok
  obtain ⟨tm', k', f, -, -, -, -⟩ := m_init_eq
  have e : tm' = tm := Option.some.inj (k'.symm.trans k)
  subst e
  refine ⟨tm', k, ⟨h1, h2, h3, h4, h5, h6, h7, h8, h9, h10, h11, h12, fun q hq => ?_, fun q hq => ?_, ⟨⟨⟨rfl, rfl⟩, ⟨rfl, rfl, rfl, rfl, rfl, rfl⟩, 0, by omega, rfl⟩, fun j _ => Or.inl rfl, Or.inl rfl⟩, ⟨⟨rfl, rfl, rfl⟩, Or.inl rfl⟩, h14, ⟨⟨by decide +kernel, by decide +kernel, by decide +kernel, rfl, rfl⟩, Or.inl rfl⟩, Or.inl ((f.1 35 rfl).1.trans rfl), ⟨(show gN tX0 12 ≤ 32768 by decide +kernel), rfl, rfl⟩, ⟨⟨by decide +kernel, by decide +kernel, by decide +kernel⟩, Or.inl rfl⟩, ⟨rfl, rfl, rfl⟩, ⟨h13, rfl, rfl⟩, rfl, ⟨rfl, by decide +kernel⟩⟩, rfl, rfl⟩
  · rw [h15] at hq
    exact absurd hq (Nat.not_lt_zero q)
  · rw [h15] at hq
    have : q = 0 := by omega
    rw [this]
    exact Nat.zero_le _
