/-! The class's tables, knot by knot. -/
/-- counts that are kept -/
def LC (tm s : St) : Prop := ∀ j, j < 330 → gA s 813 j = 0 ∨ ∃ c, gA s 813 j = jn c ∧ 1 ≤ c ∧ c ≤ 264 ∧ j < nK tm ∧ capd c (cnw tm j)
def FSt (tm : St) (H K : Nat) (f g : Nat → Int32) (b : St) (k : Nat) (s : St) : Prop := fx [807, 808, 809, 812, 813, 814] [] b s ∧ ((∀ r, r < 56 → gA s 809 r = 0 ∨ gA s 809 r = 1) ∧ ∀ r, r < mN H → RowF s (fun q => q.testBit r) (r * wdsN (mN H)) (wdsN (mN H))) ∧ (∀ j, j < k → Need tm K j → kS tm j = 0 → gA s 812 j = jn (rkN H (kT tm j))) ∧ (∀ j, LiveK tm K g k j → ∃ ρ, 16 ≤ ρ ∧ ρ < 56 ∧ gA s 812 j = jn ρ ∧ gA s 809 ρ = 1 ∧ RowF s (rwF tm H j) (ρ * wdsN (mN H)) (wdsN (mN H))) ∧ (∀ j j', LiveK tm K g k j → LiveK tm K g k j' → gA s 812 j = gA s 812 j' → j = j') ∧ (∀ r, 16 ≤ r → r < 56 → gA s 809 r = 1 → ∃ j, LiveK tm K g k j ∧ gA s 812 j = jn r)
theorem rwF_letter {tx tm : St} (hK : RK tx tm) {K p : Nat} (hk : K < nK tm) (hp : Need tm K p) (q : kS tm p = 0) (x : Nat) : rwF tm (kH tm K) p x = x.testBit (rkN (kH tm K) (kT tm p)) ∧ rkN (kH tm K) (kT tm p) < mN (kH tm K) := by
  have pl := hp.le hK hk
  obtain ⟨h1, h2⟩ := kH_letter hK (show p < nK tm by omega) q
  have hb : (kH tm K).testBit (kT tm p) = true := need_H hK hk hp (by rw [h1, Nat.testBit_two_pow_self])
  refine ⟨?_, rk_lt h2 hb⟩
  unfold rwF
  rw [rch_eq hK (by omega), if_pos q, wd_bit h2, hb, Bool.true_and]
theorem RowF.cong {s : St} {F G : Nat → Bool} {a W : Nat} (h : RowF s F a W) (e : ∀ x, F x = G x) : RowF s G a W := fun w hw j hj => by rw [h w hw j hj, e]
theorem RowF.to {s s' : St} {F : Nat → Bool} {a W : Nat} (h : RowF s F a W) (e : ∀ w, w < W → gB s' 808 (a + w) = gB s 808 (a + w)) : RowF s' F a W := fun w hw j hj => by rw [e w hw]; exact h w hw j hj
theorem fillKnot_eq {tx tm b s : St} (hK : RK tx tm) (hQ : RQ tm) {K k : Nat} (hk : K < nK tm) {f g : Nat → Int32} (hM : Mn tm K 0 f g) {S T : List Nat} (hf : fx S T tx b) (hS : (S.elem 603 || S.elem 604 || S.elem 605 || S.elem 606 || S.elem 608) = false) (hT2 : (T.elem 603 || T.elem 604 || T.elem 605 || T.elem 606 || T.elem 608) = false) (hsz : gN b 809 = 56 ∧ gN b 811 = 330 ∧ gN b 812 = 330 ∧ gN b 814 = 9) (hg : gA b 811 = g) (hT : TbR b (kH tm K)) (hN : 56 * wdsN (mN (kH tm K)) ≤ gN b 808) (h : FSt tm (kH tm K) K f g b k s) (hkK : k ≤ K) (nd : Need tm K k) (q : kS tm k ≠ 0) : ∃ s', x8_fillKnot s (jn k) = some s' ∧ fx [808, 809, 812, 814] [] s s' ∧ FSt tm (kH tm K) K f g b (k + 1) s' ∧ ∃ ρ, 16 ≤ ρ ∧ ρ < 55 ∧ gA s' 812 k = jn ρ ∧ RowF s' (rwF tm (kH tm K) k) (ρ * wdsN (mN (kH tm K))) (wdsN (mN (kH tm K))) := by
  have h250 := nK_lt hK
  simp only [Bool.or_eq_false_iff] at hS hT2
  obtain ⟨⟨⟨⟨a3, a4⟩, a5⟩, a6⟩, a8⟩ := hS
  obtain ⟨⟨⟨⟨b3, b4⟩, b5⟩, b6⟩, b8⟩ := hT2
  obtain ⟨n9, n11, n12, n14⟩ := hsz
  obtain ⟨fb, ⟨h01, hst⟩, hlt, hlv, hdi, hor⟩ := h
  have hW := wdsN_le (mN_le (kH tm K))
  obtain ⟨⟨z3, z4, z5, z6, z7⟩, -, -, hall⟩ := id hK
  obtain ⟨s1, s2, s3, d1, d2, d3, g1, g2, g3, m1, m2, q1, q2⟩ := hall k (by omega)
  obtain ⟨e1, e2, e3, e4, e5, e7, e8, e6, -⟩ := q2 q
  have N9 : gN s 809 = 56 := (fb.2 809 rfl).trans n9
  have N11 : gN s 811 = 330 := (fb.2 811 rfl).trans n11
  have N12 : gN s 812 = 330 := (fb.2 812 rfl).trans n12
  have N14 : gN s 814 = 9 := (fb.2 814 rfl).trans n14
  have N8 : 56 * wdsN (mN (kH tm K)) ≤ gN s 808 := by rw [fb.2 808 rfl]; exact hN
  have G11 : gA s 811 = g := (fb.1 811 rfl).2.2.1.trans hg
  -- parts that are rows live
  have plive : ∀ i, i < kN tm k → kS tm (kP tm k i) ≠ 0 → LiveK tm K g k (kP tm k i) := by
    intro i hi hq
    have lt := (e6 i hi).2.2
    have hn := nd.part q hi
    refine ⟨lt, hn, hq, ?_⟩
    right
    obtain ⟨u, u1, u2, u3, u4, u5⟩ := mn_lu hK hk hM hn (by omega)
    rw [u1]
    exact u5 k nd ⟨q, i, hi, rfl⟩
  -- a free row
  obtain ⟨ρ, r1, r2, r3, r4⟩ := free_row (busy := gA s 809) (L := fun _ => True) (row := fun j => (gA s 812 j).toNatClampNeg) (p := pndB tm k) (k := k) h01 (fun r x1 x2 x3 => by
    obtain ⟨j, hj, e⟩ := hor r x1 x2 x3
    refine ⟨j, hj.1, ?_, by rw [e, jn_cl (by omega)]⟩
    have jl := hj.2.1.le hK hk
    obtain ⟨u, u1, u2, u3, u4, u5⟩ := mn_lu hK hk hM hj.2.1 (by have := hj.1; omega)
    have ku : k ≤ u := by
      rcases hj.2.2.2 with e2 | e2
      · have := hj.1; omega
      · rw [u1] at e2; exact e2
    unfold pndB
    rw [decide_eq_true hj.2.2.1, usedB_t (show u < nK tm by omega) ku u4]
    rfl) (hQ k (by omega))
  -- it is taken
  generalize hs1 : sA (sA s 809 (jn ρ) (vp_nar .boolean 1)) 812 (jn k) (jn ρ) = t1
  have f1 : fx [809, 812] [] s t1 := by subst hs1; exact (fx_sA rfl).trans (fx_sA rfl)
  have t9 : ∀ r, gA t1 809 r = if r = ρ then 1 else gA s 809 r := by
    subst hs1
    intro r
    rw [gA_sA_ne (by omega), gA_sA, jn_cl (by omega)]
    by_cases e : r = ρ
    · subst e; rw [upd_at, if_pos rfl]; rfl
    · rw [upd_ne e, if_neg e]
  have t12 : ∀ j, gA t1 812 j = if j = k then jn ρ else gA s 812 j := by
    subst hs1
    intro j
    rw [gA_sA, jn_cl (by omega), gA_sA_ne (by omega)]
    by_cases e : j = k
    · subst e; rw [upd_at, if_pos rfl]
    · rw [upd_ne e, if_neg e]
  have fbt : fx [807, 808, 809, 812, 813, 814] [] b t1 := fb.trans (f1.wk rfl rfl)
  have t8 : gB t1 808 = gB s 808 := (f1.1 808 rfl).2.2.2
  have prow : ∀ i, i < kN tm k → ∃ σ, σ < 56 ∧ σ ≠ ρ ∧ gA t1 812 (kP tm k i) = jn σ ∧ RowF t1 (rwF tm (kH tm K) (kP tm k i)) (σ * wdsN (mN (kH tm K))) (wdsN (mN (kH tm K))) := by
    intro i hi
    have lt := (e6 i hi).2.2
    have hn := nd.part q hi
    have e12 : gA t1 812 (kP tm k i) = gA s 812 (kP tm k i) := by rw [t12, if_neg (by omega)]
    by_cases c : kS tm (kP tm k i) = 0
    · have hr := fun x => rwF_letter hK hk hn c x
      have hm := mN_le (kH tm K)
      refine ⟨_, by have := (hr 0).2; omega, by have := (hr 0).2; omega, e12.trans (hlt _ lt hn c), ?_⟩
      exact ((hst _ (hr 0).2).to fun w _ => by rw [t8]).cong fun x => (hr x).1.symm
    · obtain ⟨σ, x1, x2, x3, x4, x5⟩ := hlv _ (plive i hi c)
      refine ⟨σ, x2, ?_, e12.trans x3, x5.to fun w _ => by rw [t8]⟩
      intro e
      rw [e, r3] at x4
      exact absurd x4 (by decide)
  have T1 : TbR t1 (kH tm K) := hT.fr fbt
  have hft : fx (807 :: 808 :: 809 :: 812 :: 813 :: 814 :: S) T tx t1 := by
    refine (hf.wk ?_ ?_).trans (fbt.wk ?_ ?_)
    · simp [List.all_eq_true]
      intro x hx
      simp [hx]
    · simp [List.all_eq_true]
    · simp [List.all_eq_true]
    · simp
  -- it is filled
  have fill : ∃ t2, (if kS tm k = 4 then x8_fillSome t1 (jn k) else x8_fillRow t1 (jn k)) = some t2 ∧ fx [808, 814] [] t1 t2 ∧ RowF t2 (rwF tm (kH tm K) k) (ρ * wdsN (mN (kH tm K))) (wdsN (mN (kH tm K))) ∧ ∀ x, (x < ρ * wdsN (mN (kH tm K)) ∨ ρ * wdsN (mN (kH tm K)) + wdsN (mN (kH tm K)) ≤ x) → gB t2 808 x = gB t1 808 x := by
    by_cases c : kS tm k = 4
    · rw [if_pos c]
      exact fillSome_eq hK hft (by simp only [Bool.or_eq_false_iff]; exact ⟨⟨⟨by simpa [List.elem] using a4, by simpa [List.elem] using a5⟩, by simpa [List.elem] using a6⟩, by simpa [List.elem] using a8⟩) (by rw [b4, b5, b6, b8]; rfl) T1 (by rw [f1.2 808 rfl]; exact N8) ((f1.2 812 rfl).trans N12) ((f1.2 814 rfl).trans N14) (by omega) c (by omega) (by rw [t12, if_pos rfl]) prow
    · rw [if_neg c]
      obtain ⟨t2, k1, k2, k3, k4⟩ := fillRow_eq hK hft (by simp only [Bool.or_eq_false_iff]; exact ⟨⟨⟨by simpa [List.elem] using a3, by simpa [List.elem] using a4⟩, by simpa [List.elem] using a6⟩, by simpa [List.elem] using a8⟩) (by rw [b3, b4, b6, b8]; rfl) T1 (by rw [f1.2 808 rfl]; exact N8) ((f1.2 812 rfl).trans N12) (by omega) q c (by omega) (by rw [t12, if_pos rfl]) prow
      exact ⟨t2, k1, k2.wk rfl rfl, k3, k4⟩
  obtain ⟨t2, k2, f2, v2, v2b⟩ := fill
  have fb2 : fx [807, 808, 809, 812, 813, 814] [] b t2 := fbt.trans (f2.wk rfl rfl)
  have hf2 : fx (807 :: 808 :: 809 :: 812 :: 813 :: 814 :: S) T tx t2 := by
    refine (hf.wk ?_ ?_).trans (fb2.wk ?_ ?_)
    · simp [List.all_eq_true]
      intro x hx
      simp [hx]
    · simp [List.all_eq_true]
    · simp [List.all_eq_true]
    · simp
  have t212 : ∀ j, gA t2 812 j = if j = k then jn ρ else gA s 812 j := fun j => by rw [(f2.1 812 rfl).2.2.1]; exact t12 j
  have t29 : ∀ r, gA t2 809 r = if r = ρ then 1 else gA s 809 r := fun r => by rw [(f2.1 809 rfl).2.2.1]; exact t9 r
  have t211 : gA t2 811 = g := ((f2.1 811 rfl).2.2.1.trans (f1.1 811 rfl).2.2.1).trans G11
  obtain ⟨t3, k3, f3, v3⟩ := frees_eq hK hf2 (by simp only [Bool.or_eq_false_iff]; exact ⟨⟨⟨by simpa [List.elem] using a3, by simpa [List.elem] using a4⟩, by simpa [List.elem] using a6⟩, by simpa [List.elem] using a8⟩) (by rw [b3, b4, b6, b8]; rfl) ((f2.2 809 rfl).trans ((f1.2 809 rfl).trans N9)) ((f2.2 811 rfl).trans ((f1.2 811 rfl).trans N11)) ((f2.2 812 rfl).trans ((f1.2 812 rfl).trans N12)) (k := k) (by omega) q (rw_ := fun j => (gA s 812 j).toNatClampNeg) (fun i hi hq _ => by
    obtain ⟨σ, x1, x2, x3, -⟩ := hlv _ (plive i hi hq)
    have lt := (e6 i hi).2.2
    rw [x3, jn_cl (by omega), t212, if_neg (by omega)]
    exact ⟨x2, x3⟩)
  rw [t211] at v3
  have t312 : gA t3 812 = gA t2 812 := (f3.1 812 rfl).2.2.1
  have t38 : gB t3 808 = gB t2 808 := (f3.1 808 rfl).2.2.2
  -- who lives on
  have kl : ∀ j, LiveK tm K g (k + 1) j → j = k ∨ (LiveK tm K g k j ∧ g j ≠ jn k) := by
    rintro j ⟨j1, j2, j3, j4⟩
    by_cases e : j = k
    · exact Or.inl e
    · right
      have jk : j ≠ K := by omega
      obtain ⟨u, u1, u2, u3, u4, u5⟩ := mn_lu hK hk hM j2 jk
      rcases j4 with j4 | j4
      · exact absurd j4 jk
      · refine ⟨⟨by omega, j2, j3, Or.inr (by omega)⟩, ?_⟩
        rw [u1] at j4
        rw [u2]
        exact fun e => by have := (jn_inj (by omega) (by omega)).mp e; omega
  have stay : ∀ j, LiveK tm K g k j → g j ≠ jn k → ∀ ρ', gA s 812 j = jn ρ' → ρ' < 56 → ¬ ∃ i, i < kN tm k ∧ kS tm (kP tm k i) ≠ 0 ∧ g (kP tm k i) = jn k ∧ (gA s 812 (kP tm k i)).toNatClampNeg = ρ' := by
    rintro j hj hg2 ρ' e hρ' ⟨i, i1, i2, i3, i4⟩
    obtain ⟨σ, x1, x2, x3, -⟩ := hlv _ (plive i i1 i2)
    rw [x3, jn_cl (by omega)] at i4
    have := hdi j (kP tm k i) hj (plive i i1 i2) (by rw [e, x3, i4])
    rw [this] at hg2
    exact hg2 i3
  have ρstay : ¬ ∃ i, i < kN tm k ∧ kS tm (kP tm k i) ≠ 0 ∧ g (kP tm k i) = jn k ∧ (gA s 812 (kP tm k i)).toNatClampNeg = ρ := by
    rintro ⟨i, i1, i2, i3, i4⟩
    obtain ⟨σ, x1, x2, x3, x4, -⟩ := hlv _ (plive i i1 i2)
    rw [x3, jn_cl (by omega)] at i4
    rw [i4, r3] at x4
    exact absurd x4 (by decide)
  refine ⟨t3, ?_, (f1.wk rfl rfl).trans ((f2.wk rfl rfl).trans (f3.wk rfl rfl)), ⟨fb2.trans (f3.wk rfl rfl), ⟨fun r hr => ?_, fun r hr => ?_⟩, ?_, ?_, ?_, ?_⟩, ρ, r1, r2, ?_, ?_⟩
  · unfold x8_fillKnot
    rw [find_free N9 (jn k) r1 r2 r3 r4, bs, N9, gd_jn (by omega) (by omega)]
    simp only [nm]
    rw [show gN (sA s 809 (jn ρ) (vp_nar .boolean 1)) 812 = gN s 812 from rfl, N12, gd_jn (by omega) (by omega), hs1, (fbt.2 603 rfl), hf.2 603 b3, z3, gd_jn (by omega) (by omega), jn_cl (by omega), (fbt.1 603 rfl).2.2.1, (hf.1 603 a3).2.2.1, s3, s1]
    by_cases c : kS tm k = 4
    · rw [if_pos c] at k2
      rw [if_pos (show jn (kS tm k) = (4 : Int32) by rw [c]; rfl), k2, bs, k3]
    · rw [if_neg c] at k2
      rw [if_neg (jnl (x := 4) 4 rfl c (by omega) (by omega)), k2, bs, k3]
  · rw [v3]
    split
    · exact Or.inl rfl
    · rw [t29]
      split
      · exact Or.inr rfl
      · exact h01 r hr
  · have hm := mN_le (kH tm K)
    exact (hst r hr).to fun w hw => by rw [t38, v2b _ (row_far (by omega) hw), t8]
  · intro j hj hn hq
    rw [t312, t212]
    by_cases e : j = k
    · subst e; exact absurd hq q
    · rw [if_neg e]; exact hlt j (by omega) hn hq
  · intro j hj
    rcases kl j hj with e | ⟨hl, hg2⟩
    · subst e
      refine ⟨ρ, r1, by omega, by rw [t312, t212, if_pos rfl], by rw [v3, if_neg ρstay, t29, if_pos rfl], v2.to fun w _ => by rw [t38]⟩
    · obtain ⟨ρ', x1, x2, x3, x4, x5⟩ := hlv j hl
      have ne : ρ' ≠ ρ := by
        intro e
        rw [e, r3] at x4
        exact absurd x4 (by decide)
      have jk : j ≠ k := by have := hl.1; omega
      refine ⟨ρ', x1, x2, by rw [t312, t212, if_neg jk]; exact x3, by rw [v3, if_neg (stay j hl hg2 ρ' x3 x2), t29, if_neg ne]; exact x4, x5.to fun w hw => by rw [t38, v2b _ (row_far ne hw), t8]⟩
  · intro j j' hj hj' e
    rw [t312, t212, t212] at e
    rcases kl j hj with c | ⟨hl, -⟩
    · rcases kl j' hj' with c' | ⟨hl', -⟩
      · rw [c, c']
      · exfalso
        obtain ⟨ρ', x1, x2, x3, x4, -⟩ := hlv j' hl'
        rw [if_pos c, if_neg (by have := hl'.1; omega), x3] at e
        have : ρ = ρ' := (jn_inj (by omega) (by omega)).mp e
        rw [← this, r3] at x4
        exact absurd x4 (by decide)
    · rcases kl j' hj' with c' | ⟨hl', -⟩
      · exfalso
        obtain ⟨ρ', x1, x2, x3, x4, -⟩ := hlv j hl
        rw [if_pos c', if_neg (by have := hl.1; omega), x3] at e
        have : ρ' = ρ := (jn_inj (by omega) (by omega)).mp e
        rw [this, r3] at x4
        exact absurd x4 (by decide)
      · rw [if_neg (by have := hl.1; omega), if_neg (by have := hl'.1; omega)] at e
        exact hdi j j' hl hl' e
  · intro r x1 x2 x3
    rw [v3] at x3
    by_cases z : ∃ i, i < kN tm k ∧ kS tm (kP tm k i) ≠ 0 ∧ g (kP tm k i) = jn k ∧ (gA s 812 (kP tm k i)).toNatClampNeg = r
    · rw [if_pos z] at x3; exact absurd x3 (by decide)
    · rw [if_neg z, t29] at x3
      by_cases e : r = ρ
      · refine ⟨k, ⟨by omega, nd, q, ?_⟩, by rw [t312, t212, if_pos rfl, e]⟩
        by_cases c : k = K
        · exact Or.inl c
        · right
          obtain ⟨u, u1, u2, u3, u4, u5⟩ := mn_lu hK hk hM nd c
          have := u4.lt hK (show u < nK tm by omega)
          omega
      · rw [if_neg e] at x3
        obtain ⟨j, hj, ej⟩ := hor r x1 x2 x3
        have jk : j ≠ k := by have := hj.1; omega
        refine ⟨j, ⟨by have := hj.1; omega, hj.2.1, hj.2.2.1, ?_⟩, by rw [t312, t212, if_neg jk]; exact ej⟩
        have jK : j ≠ K := by have := hj.1; omega
        obtain ⟨u, u1, u2, u3, u4, u5⟩ := mn_lu hK hk hM hj.2.1 jK
        rcases hj.2.2.2 with y | y
        · exact Or.inl y
        · right
          rw [u1] at y ⊢
          by_cases c : u = k
          · exfalso
            subst c
            obtain ⟨q', i, i1, i2⟩ := u4
            exact z ⟨i, i1, by rw [i2]; exact hj.2.2.1, by rw [i2]; exact u2, by rw [i2, ej, jn_cl (by omega)]⟩
          · omega
  · rw [t312, t212, if_pos rfl]
  · exact v2.to fun w _ => by rw [t38]
