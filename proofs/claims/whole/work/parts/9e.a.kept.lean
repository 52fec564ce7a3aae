/-! What is kept of the knots that were there, when a net is made. -/
def Older (tm tm' : St) : Prop := nK tm ≤ nK tm' ∧ ∀ k, k < nK tm → rch tm' k = rch tm k ∧ kH tm' k = kH tm k ∧ (∀ j, Need tm' k j ↔ Need tm k j) ∧ ∀ j, Need tm k j → j < nK tm
theorem Older.mk {tx tm tm' : St} (hK : RK tx tm) (hn : nK tm ≤ nK tm') (h : AgM (nK tm) (nP tm) tm tm') : Older tm tm' := by
  have ks : ∀ u, u < nK tm → kS tm' u = kS tm u ∧ kN tm' u = kN tm u ∧ (kS tm u ≠ 0 → ∀ i, i < kN tm u → kP tm' u i = kP tm u i ∧ kP tm u i < nK tm) := fun u hu => by
    obtain ⟨e8, e9, e10, e11, e12, e15⟩ := h.1 u hu
    refine ⟨by unfold kS; rw [e8], by unfold kN; rw [e12], fun q i hi => ⟨?_, by have := kP_lt hK hu q hi; omega⟩⟩
    have := hK.hl hu q
    unfold kP kF
    rw [e11, h.2 _ (by unfold kF at this; omega)]
  refine ⟨hn, fun k hk => ⟨funext fun s => rch_ag hK h hk s, by unfold kH; rw [(h.1 k hk).2.2.2.2.2], fun j => ⟨fun g S s1 s2 => ?_, fun g S s1 s2 => ?_⟩, fun j g => by have := g.le hK hk; omega⟩⟩
  · refine (g (fun x => S x ∧ x < nK tm) ⟨s1, hk⟩ fun u i ⟨h1, h2⟩ q hi => ?_).1
    obtain ⟨e1, e2, e3⟩ := ks u h2
    rw [e1] at q
    rw [e2] at hi
    obtain ⟨e4, e5⟩ := e3 q i hi
    rw [e4]
    exact ⟨s2 u i h1 q hi, e5⟩
  · refine (g (fun x => S x ∧ x < nK tm) ⟨s1, hk⟩ fun u i ⟨h1, h2⟩ q hi => ?_).1
    obtain ⟨e1, e2, e3⟩ := ks u h2
    obtain ⟨e4, e5⟩ := e3 q i hi
    refine ⟨?_, e5⟩
    rw [← e4]
    exact s2 u i h1 (by rw [e1]; exact q) (by rw [e2]; exact hi)
theorem Older.mwE {tm tm' : St} (h : Older tm tm') {k : Nat} (hk : k < nK tm) : mw tm' k = mw tm k := by
  funext set
  show (rch tm' k set && !lss tm' k set) = (rch tm k set && !lss tm k set)
  unfold lss
  rw [(h.2 k hk).1]
theorem Older.cnwE {tm tm' : St} (h : Older tm tm') {k : Nat} (hk : k < nK tm) : cnw tm' k = cnw tm k := by
  unfold cnw
  rw [h.mwE hk]
theorem Older.over {tm tm' : St} (h : Older tm tm') {K : Nat} (hk : K < nK tm) : Over tm' K ↔ Over tm K := by
  obtain ⟨-, -, h3, h4⟩ := h.2 K hk
  constructor
  · rintro ⟨i, i1, i2⟩
    have n := (h3 i).mp i1
    exact ⟨i, n, by rw [← h.cnwE (h4 i n)]; exact i2⟩
  · rintro ⟨i, i1, i2⟩
    exact ⟨i, (h3 i).mpr i1, by rw [h.cnwE (h4 i i1)]; exact i2⟩
theorem RTb.older {tx tm tm' : St} (hs : Older tm tm') (h : RTb tx tm) : RTb tx tm' := by
  obtain ⟨h0, hl, h5⟩ := h
  refine ⟨h0, fun j hj => ?_, ?_⟩
  · rcases hl j hj with e | ⟨c, e1, e2, e3, e4, e5⟩
    · exact Or.inl e
    · exact Or.inr ⟨c, e1, e2, e3, by have := hs.1; omega, by rw [hs.cnwE e4]; exact e5⟩
  · rcases h5 with e | ⟨K, k1, k2, k3⟩
    · exact Or.inl e
    · refine Or.inr ⟨K, by have := hs.1; omega, k2, ?_⟩
      have er : rwF tm' (kH tm K) K = rwF tm (kH tm K) K := by
        funext q; unfold rwF; rw [(hs.2 K k1).1]
      unfold TbK at *
      rw [(hs.2 K k1).2.1, er, hs.over k1]
      exact k3
theorem RWy.older {tx tm tm' : St} (hs : Older tm tm') (h : RWy tx tm) : RWy tx tm' := by
  obtain ⟨h0, h5⟩ := h
  refine ⟨h0, ?_⟩
  rcases h5 with e | ⟨K, k1, k2, k3⟩
  · exact Or.inl e
  · refine Or.inr ⟨K, by have := hs.1; omega, k2, ?_⟩
    unfold wyl at *
    rw [hs.mwE k1]
    exact k3
theorem RWy.fr {S T : List Nat} {tx tx' tm : St} (h : RWy tx tm) (hf : fx S T tx tx') (h1 : (S.elem 1002 || S.elem 1004 || S.elem 1005) = false := by rfl) (h2 : (T.elem 1002 || T.elem 1003 || T.elem 1008) = false := by rfl) : RWy tx' tm := by
  simp only [Bool.or_eq_false_iff] at h1 h2
  obtain ⟨⟨b2, b3⟩, b8⟩ := h2
  obtain ⟨⟨a2, a4⟩, a5⟩ := h1
  unfold RWy LxIs at *
  rw [hf.2 1002 b2, hf.2 1003 b3, hf.2 1008 b8, (hf.1 1005 a5).1, (hf.1 1004 a4).1, (hf.1 1002 a2).2.2.1]
  exact h
theorem RC.made {tx tm tx' tm' : St} (hK : RK tx tm) (h : RC tm) (hM : Made tx tm tx' tm') : RC tm' := by
  have ol := Older.mk hK hM.2.2.2.1 hM.2.2.2.2.2.1.1
  intro k hk
  rw [hM.2.2.2.2.2.2 k]
  by_cases c : nK tm ≤ k
  · rw [if_pos ⟨c, hk⟩]; exact Or.inl rfl
  · rw [if_neg (fun e => c e.1), ol.cnwE (show k < nK tm by omega)]
    exact h k (by omega)
/-- all that is kept over make -/
theorem op_make_all {tx tm : St} (hT : RT tx tm) (hK : RK tx tm) (hN : RN tx tm) (hR : RR tx tm) (hU : gN tx 701 = 330) (hQ : RQ tm) (hC : RC tm) (hB : RTb tx tm) (hW : RWy tx tm) (a1 : Int32) : ∃ r tx' tm', x11_make tx a1 = some (r, tx') ∧ m_make tm a1 = some (r, tm') ∧ Made tx tm tx' tm' ∧ RQ tm' ∧ RC tm' ∧ RTb tx' tm' ∧ RWy tx' tm' ∧ Older tm tm' := by
  obtain ⟨r, tx', tm', e1, e2, hM⟩ := op_make hT hK hN hR hU a1
  have ol := Older.mk hK hM.2.2.2.1 hM.2.2.2.2.2.1.1
  have fX := fr_x11_make _ _ _ e1
  obtain ⟨-, n, hn, -, h5, -⟩ := hT
  exact ⟨r, tx', tm', e1, e2, hM, hQ.make hn h5 hK hN hM e2, hC.made hK hM, ((hB.fr fX).older ol), (hW.fr fX).older ol, ol⟩
