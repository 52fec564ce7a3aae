/-! Diagrams on both sides, and size. -/
/-- levels grow downward -/
def Wl (N : List (Nat × Nat × Nat)) : Prop := ∀ i, i < N.length → (∀ j, (N.getD i (0, 0, 0)).2.1 = j + 2 → (N.getD i (0, 0, 0)).1 < (N.getD j (0, 0, 0)).1) ∧ ∀ j, (N.getD i (0, 0, 0)).2.2 = j + 2 → (N.getD i (0, 0, 0)).1 < (N.getD j (0, 0, 0)).1
theorem dg_wl (f : Nat → Bool) {m d : Nat} (hd : d ≤ m) : Wl (dg f m d).1 := by
  induction d with
  | zero => exact fun i hi => absurd hi (Nat.not_lt_zero i)
  | succ d ih =>
    have ih := ih (by omega)
    have ex := dg_ext f m d
    have ok := (dg_ok f (m := m) (d := d) (by omega))
    have e2 : 2 ^ (m - d) = 2 ^ (m - 1 - d) + 2 ^ (m - 1 - d) := by
      rw [show m - d = (m - 1 - d) + 1 by omega, Nat.pow_succ]; omega
    intro i hi
    by_cases c : i < (dg f m d).1.length
    · have w := ok.1 i c
      rw [ex.at c]
      refine ⟨fun j hj => ?_, fun j hj => ?_⟩
      · rw [ex.at (by omega)]; exact (ih i c).1 j hj
      · rw [ex.at (by omega)]; exact (ih i c).2 j hj
    · obtain ⟨s, s1, s2, s3⟩ := dg_new (by omega) hi
      rw [s2]
      have up : ∀ x, x < (dg f m d).1.length + 2 → ∀ j, x = j + 2 → m - 1 - d < ((dg f m (d + 1)).1.getD j (0, 0, 0)).1 := fun x hx j hj => by
        have jl : j < (dg f m d).1.length := by omega
        rw [ex.at jl]
        have := (dg_mem (show d ≤ m by omega) (getD_memN jl)).1
        omega
      exact ⟨up _ (ok.2 s (by omega)), up _ (ok.2 _ (by omega))⟩
/-- the list of nodes as it stands on both sides -/
def DgB (tx tm : St) (H : Nat) (N : List (Nat × Nat × Nat)) (top : Nat) : Prop := (NX tx N ∧ gI tx 4 = jn top ∧ gI tx 6 = jn ((mN H + 2) / 3) ∧ N.length + 2 ≤ gN tx 9 ∧ gN tx 10 = gN tx 9 ∧ gN tx 11 = gN tx 9) ∧ (NM tm (N.map (oN H)) ∧ gI tm 37 = jn top ∧ ∀ i, i < 2 → gA tm 39 i = jn 16) ∧ N.length ≤ 4261 ∧ Wf N ∧ Wl N ∧ (∀ i, i < N.length → (N.getD i (0, 0, 0)).1 < mN H) ∧ top < N.length + 2 ∧ TbR tx H ∧ 1 ≤ mN H
def KpD (tx tm tx' tm' : St) : Prop := fx [2, 3, 4, 5, 6, 7, 8, 9, 10, 11, 801, 802, 803, 804, 805, 806, 807, 808, 809, 810, 811, 812, 813, 814] [7, 8, 9, 10, 11, 808, 9000, 9001] tx tx' ∧ fx [35, 36, 37, 38, 39, 40, 41, 42] [] tm tm' ∧ (RTb tx' tm' ∧ RD tx' tm' ∧ RDm tm') ∧ gN tx' 9001 + 2 * gN tx 808 + PD tx ≤ gN tx 9001 + 2 * gN tx' 808 + PD tx' ∧ gN tx' 9000 + gN tx 808 ≤ gN tx 9000 + gN tx' 808 + 5
theorem both_draw {tx tm : St} (hK : RK tx tm) (hR : RR tx tm) (hQ : RQ tm) {K : Nat} (hk : K < nK tm) (hT : RTb tx tm) (hD : RD tx tm) (hM : RDm tm) : ∃ tx' tm' N top, x0_draw tx (jn K) = some tx' ∧ m_diagrams tm (jn K) = some tm' ∧ KpD tx tm tx' tm' ∧ DgB tx' tm' (kH tm K) N top ∧ gI tx' 2 = jn K ∧ TbK tm K tx' := by
  have h250 := nK_lt hK
  obtain ⟨tx', x1, x2, x3, x4, x5, x6, x7, x8⟩ := draw_eq hK hQ hk hT hD
  obtain ⟨tm', m1, m2, m3, m4⟩ := diagrams_eq hK hR hk hM
  have hs : SameK tm tm' := same_fx m2
  have hH := kH_lt hK hk
  obtain ⟨e1, e2⟩ := dgN_same hH (F := rch tm K) (f := rwF tm (kH tm K) K) fun p _ => (rwF_nw hK hk p).symm
  have hf := rwF_mono hK hk
  have h1 := mN_pos hK hk
  have hm := mN_le (kH tm K)
  have D := x4.atK hk (by omega) x5
  refine ⟨tx', tm', dgN (rwF tm (kH tm K) K) (mN (kH tm K)), dgTop (rwF tm (kH tm K) K) (mN (kH tm K)), x1, m1, ⟨x2, m2, ⟨x3.same hs, x4.same hs, Or.inr ⟨K, by rw [hs.1]; exact hk, m3, by rw [hs.2.1]; exact m4⟩⟩, x7, x8⟩, ⟨⟨D.1, D.2.1, D.2.2.1, D.2.2.2, x4.1.2.2.2.1, x4.1.2.2.2.2⟩, ⟨?_, ?_, m4.2.2⟩, (dg_bound hf hm h1 (Nat.le_refl _)).2, (dg_ok _ (Nat.le_refl _)).1, dg_wl _ (Nat.le_refl _), fun i hi => (dg_mem (Nat.le_refl _) (getD_memN hi)).2, ?_, x6.1, h1⟩, x5, x6⟩
  · rw [← e1]; exact m4.1
  · rw [← e2]; exact m4.2.1
  · exact (dg_ok (rwF tm (kH tm K) K) (Nat.le_refl (mN (kH tm K)))).2 0 (Nat.two_pow_pos _)
theorem op_size {tx tm : St} (hK : RK tx tm) (hN : RN tx tm) (hR : RR tx tm) (hQ : RQ tm) (hT : RTb tx tm) (hD : RD tx tm) (hM : RDm tm) (a1 : Int32) : ∃ r tx' tm', x11_size tx a1 = some (r, tx') ∧ m_size tm a1 = some (r, tm') ∧ KpD tx tm tx' tm' := by
  have h250 := nK_lt hK
  rcases pre_size hK hN a1 with ⟨r, k1, k2⟩ | ⟨n, K, hn, hk, e16, e602, rfl⟩
  · exact ⟨r, tx, tm, k1, k2, fx.rfl, fx.rfl, ⟨hT, hD, hM⟩, Nat.le_refl _, Nat.le_add_right _ _⟩
  obtain ⟨tx', tm', N, top, x1, m1, kp, ⟨⟨d1, -⟩, ⟨d2, -⟩, d3, -⟩, -, -⟩ := both_draw hK hR hQ hk hT hD hM
  refine ⟨jn N.length, tx', tm', ?_, ?_, kp⟩
  · unfold x11_size x11_size_J35 x0_drawnSize
    rw [noNet_T hn, bs, if_pos rfl, hN.1, gd_jn (by omega) (by omega), jn_cl (by omega), e602]
    simp only [nm]
    rw [if_pos (jn_nn (by omega)), x1, bs, bs, d1.1, show (2 : Int32) = jn 2 from rfl, jn_sub (by omega), Nat.add_sub_cancel]
  · unfold m_size
    rw [why_ok hn e16 (by omega), bs, if_pos rfl, gd_jn (by omega) (by omega), jn_cl (by omega), e16, m1, bs, d2.1, List.length_map, show (2 : Int32) = jn 2 from rfl, jn_sub (by omega), Nat.add_sub_cancel]
