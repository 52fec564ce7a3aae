/-! One call, where knots are made. -/
theorem FtX.older {tx tm tm' : St} {K : Nat} (h : FtX tx tm K) (hs : Older tm tm') (hk : K < nK tm) (h2 : gA tm' 2 = gA tm 2) (h5 : gI tm' 45 = gI tm 45) (h6 : gA tm' 46 = gA tm 46) (h7 : gA tm' 47 = gA tm 47) : FtX tx tm' K := by
  have e1 : ∀ H, rwF tm' H K = rwF tm H K := fun H => by unfold rwF; rw [(hs.2 K hk).1]
  have e2 : kH tm' K = kH tm K := (hs.2 K hk).2.1
  have e3 : nG tm' = nG tm := by unfold nG; rw [h5]
  have e4 : ∀ s n, stopsOf tm' s n = stopsOf tm s n := fun s n => by unfold stopsOf gSt; rw [h6]
  have e5 : fpr tm' = fpr tm := by
    funext s
    unfold fpr wagesOf gWa
    rw [h7, e3]
  have e6 : fvl tm' K = fvl tm K := by
    funext s
    unfold fvl usU
    rw [e2, e1, e3, e4, h2]
  unfold FtX at *
  rw [e2, e1, e3, e5, e6]
  exact h
theorem RFt.older {tx tm tm' : St} (h : RFt tx tm) (hs : Older tm tm') (h2 : gA tm' 2 = gA tm 2) (h5 : gI tm' 45 = gI tm 45) (h6 : gA tm' 46 = gA tm 46) (h7 : gA tm' 47 = gA tm 47) : RFt tx tm' := by
  refine ⟨h.1, ?_⟩
  rcases h.2 with r | ⟨K, k1, k2, k3⟩
  · exact Or.inl r
  · exact Or.inr ⟨K, Nat.lt_of_lt_of_le k1 hs.1, k2, k3.older hs k1 h2 h5 h6 h7⟩
theorem RDm.older {S T : List Nat} {tm tm' : St} (h : RDm tm) (hs : Older tm tm') (hx : fx S T tm tm') (h1 : (S.elem 35 || S.elem 36 || S.elem 37 || S.elem 39 || S.elem 40 || S.elem 41) = false := by rfl) : RDm tm' := by
  simp only [Bool.or_eq_false_iff] at h1
  obtain ⟨⟨⟨⟨⟨a5, a6⟩, a7⟩, a9⟩, a0⟩, a1⟩ := h1
  rcases h with e | ⟨K, k1, k2, k3, k4, k5⟩
  · exact Or.inl ((hx.1 35 a5).1.trans e)
  · refine Or.inr ⟨K, Nat.lt_of_lt_of_le k1 hs.1, (hx.1 35 a5).1.trans k2, ?_⟩
    rw [(hs.2 K k1).1]
    exact ⟨k3.fr hx (by simp only [a6, a9, a0, a1]; rfl), (hx.1 37 a7).1.trans k4, by rw [(hx.1 39 a9).2.2.1]; exact k5⟩
theorem iv_make {tx tm : St} (h : Iv tx tm) (a1 a2 a3 a4 : Int32) : ∃ tx' tm', stepOK 5 tx tm a1 a2 a3 a4 tx' tm' ∧ Iv tx' tm' ∧ Mu tx tx' := by
  obtain ⟨r, tx', tm', k1, k2, hM, kQ, kC, kT, kW, ol⟩ := op_make_all h.T h.K h.N h.R h.n7 h.Q h.C h.Tb h.Wy a1
  have fX : fx _ _ tx tx' := fr_x11_make tx a1 _ k1
  have fM : fx _ _ tm tm' := fr_m_make tm a1 _ k2
  obtain ⟨hK, hN, hR, -, -, ⟨-, -, -, -, -, m1, m2⟩, -⟩ := hM
  refine ⟨tx', tm', ⟨r, k1, k2⟩, ⟨h.H.fr fX fM, h.T.fr fX fM, h.I.fr fX fM, h.E.fr fX fM, h.B.fr fX fM, hK, hN, h.P.fr fX fM, h.G.fr fX fM, h.F.fr fX fM, h.J.fr fX fM, hR, kC, kQ, kT, kW, h.W.fr fX, (RD.older ol h.D).fr fX, h.Dm.older ol fM, h.O.fr fX, (h.Ft.older ol (fM.1 2 rfl).2.2.1 (fM.1 45 rfl).1 (fM.1 46 rfl).2.2.1 (fM.1 47 rfl).2.2.1).frx fX, h.Gm.fr fX, n6_fr h fX, n7_fr h fX, n1_fr h fX⟩, ?_⟩
  have p := PD.fr fX
  unfold Mu
  rw [p, PG.fr fX, fX.2 808 rfl, fX.2 12 rfl]
  omega
