/-! The class's tables of a net, all of them. -/
theorem nwJ_N {t : St} {k n : Nat} {f : Nat → Int64} (h : k < 9000) : gN (nwJ t k n f) k = n ∧ gN (nwJ t k n f) 9000 = gN t 9000 + 1 ∧ gN (nwJ t k n f) 9001 = gN t 9001 + n := by
  refine ⟨?_, ?_, ?_⟩
  · show va_up (va_up (va_up t.2.2.2.2 k n) 9000 (gN t 9000 + 1)) 9001 (gN t 9001 + n) k = n
    rw [up_ne (by omega), up_ne (by omega), up_at]
  · show va_up (va_up (va_up t.2.2.2.2 k n) 9000 (gN t 9000 + 1)) 9001 (gN t 9001 + n) 9000 = _
    rw [up_ne (by omega), up_at]
  · show va_up (va_up (va_up t.2.2.2.2 k n) 9000 (gN t 9000 + 1)) 9001 (gN t 9001 + n) 9001 = _
    rw [up_at]
theorem fillFor_eq {tx tm : St} (hK : RK tx tm) (hQ : RQ tm) {K : Nat} (hk : K < nK tm) (h : RTb tx tm) : ∃ t', x8_fillFor tx (jn K) = some t' ∧ fx [801, 802, 803, 804, 805, 806, 807, 808, 809, 810, 811, 812, 813, 814] [808, 9000, 9001] tx t' ∧ RTb t' tm ∧ gI t' 805 = jn K ∧ TbK tm K t' ∧ gN t' 9001 + 2 * gN tx 808 ≤ gN tx 9001 + 2 * gN t' 808 ∧ gN t' 9000 + gN tx 808 ≤ gN tx 9000 + gN t' 808 := by
  have h250 := nK_lt hK
  obtain ⟨T0, hl, h5⟩ := h
  by_cases q : gI tx 805 = jn K
  · refine ⟨tx, ?_, fx.rfl, ⟨T0, hl, h5⟩, q, ?_, Nat.le_refl _, Nat.le_refl _⟩
    · unfold x8_fillFor
      rw [q, if_pos rfl]
    · rcases h5 with e | ⟨K', hk', e, hT⟩
      · rw [q] at e; exact absurd e (jn_ne1 (by omega))
      · have : K' = K := (jn_inj (by omega) (by omega)).mp (e.symm.trans q)
        subst this
        exact hT
  · obtain ⟨⟨n1, n2⟩, ⟨n9, n10, n11, n12, n13, n14⟩, i8, hi8, n8⟩ := T0
    have hH := kH_lt hK hk
    have hm := mN_le (kH tm K)
    have hW := wdsN_le hm
    obtain ⟨iW, hiW, eW⟩ := wdsN_pow (mN (kH tm K)) hm
    obtain ⟨⟨z3, z4, z5, z6, z7⟩, -, -, hall⟩ := id hK
    have h607 : gA tx 607 K = jn (kH tm K) := (hall K hk).2.2.2.2.2.2.2.2.1.trans (hall K hk).2.2.2.2.2.2.1
    -- the steps
    obtain ⟨t1, k1, f1, a3, a1, a2⟩ := rankSteps_eq (t := sI tx 805 (jn K)) hH n1 n2
    have ftx : fx [801, 802, 803, 805] [] tx t1 := (fx_sI rfl).trans (f1.wk rfl rfl)
    have t15 : gI t1 805 = jn K := (f1.1 805 rfl).1
    generalize ht2 : sI t1 804 (jn (wdsN (mN (kH tm K)))) = t2
    have f2 : fx [804] [] t1 t2 := by subst ht2; exact fx_sI rfl
    have ft2 : fx [801, 802, 803, 804, 805] [] tx t2 := (ftx.wk rfl rfl).trans (f2.wk rfl rfl)
    have T2 : TbR t2 (kH tm K) := by
      refine ⟨⟨(ft2.2 801 rfl).trans n1, (ft2.2 802 rfl).trans n2⟩, (f2.1 803 rfl).1.trans a3, fun r hr => ?_, fun s hs hb => ?_, ?_⟩
      · rw [(f2.1 801 rfl).2.2.1]; exact a1 r hr
      · rw [(f2.1 802 rfl).2.2.1]; exact a2 s hs hb
      · subst ht2; exact gI_at
    have p2 : 2 ^ i8 ≤ 1024 := by
      have := Nat.pow_le_pow_right (n := 2) (by omega) hi8
      exact this
    have p3 : 2 ^ iW ≤ 1024 := by
      have := Nat.pow_le_pow_right (n := 2) (by omega) hiW
      exact this
    -- from the pool on
    have J : ∀ t : St, fx [801, 802, 803, 804, 805, 808] [808, 9000, 9001] tx t → TbR t (kH tm K) → gI t 805 = jn K → (∃ i, i ≤ 10 ∧ gN t 808 = 56 * 2 ^ i) → 56 * wdsN (mN (kH tm K)) ≤ gN t 808 → gN t 9001 + 2 * gN tx 808 ≤ gN tx 9001 + 2 * gN t 808 → gN t 9000 + gN tx 808 ≤ gN tx 9000 + gN t 808 → ∃ t', x8_fillFor_J81 t = some t' ∧ fx [801, 802, 803, 804, 805, 806, 807, 808, 809, 810, 811, 812, 813, 814] [808, 9000, 9001] tx t' ∧ RTb t' tm ∧ gI t' 805 = jn K ∧ TbK tm K t' ∧ gN t' 9001 + 2 * gN tx 808 ≤ gN tx 9001 + 2 * gN t' 808 ∧ gN t' 9000 + gN tx 808 ≤ gN tx 9000 + gN t' 808 := by
      intro t ft hT e5 hp hN8 me1 me2
      obtain ⟨ip, hip, ep⟩ := hp
      have p4 : 2 ^ ip ≤ 1024 := by
        have := Nat.pow_le_pow_right (n := 2) (by omega) hip
        exact this
      -- rows of steps
      have l1 := lp_cnt (b := fun y : Int32 × St => x8_fillFor_B83 y.1 y.2) (fun i s => (jn i, s)) (mN (kH tm K))
        (fun i s => fx [808] [] t s ∧ ∀ r, r < i → RowF s (fun q => q.testBit r) (r * wdsN (mN (kH tm K))) (wdsN (mN (kH tm K))))
        (fun s => fx [808] [] t s ∧ ∀ r, r < mN (kH tm K) → RowF s (fun q => q.testBit r) (r * wdsN (mN (kH tm K))) (wdsN (mN (kH tm K)))) (by
          rintro i s hi ⟨f3, v1⟩
          obtain ⟨s', j1, j2, j3, j4⟩ := fillStep_eq (hT.fr f3) (show i < 16 by omega) (by rw [f3.2 808 rfl]; exact hN8)
          refine ⟨s', ?_, f3.trans j2, fun r hr => ?_⟩
          · dsimp only
            unfold x8_fillFor_B83
            rw [(f3.1 803 rfl).1, hT.2.1, if_neg (nle hi (by omega)), j1, bs]
            simp only [nm, jn_s]
          · by_cases e : r = i
            · subst e; exact j3
            · exact (v1 r (by omega)).to fun w hw => j4 _ (row_far e hw)) (by
          rintro s ⟨f3, hs⟩
          refine ⟨s, ?_, f3, hs⟩
          dsimp only
          unfold x8_fillFor_B83
          rw [(f3.1 803 rfl).1, hT.2.1, if_pos (lee (by omega))]) 0 t (by omega) ⟨fx.rfl, fun r hr => absurd hr (by omega)⟩
      obtain ⟨u1, j1, f3, v3⟩ := l1
      -- busy
      have N9 : gN u1 809 = 56 := (f3.2 809 rfl).trans ((ft.2 809 rfl).trans n9)
      have l2 := lp_cnt (b := fun y : Int32 × St => x8_fillFor_B104 y.1 y.2) (fun i s => (jn i, s)) 56
        (fun i s => fx [809] [] u1 s ∧ ∀ r, r < i → gA s 809 r = if r < 16 then 1 else 0)
        (fun s => fx [809] [] u1 s ∧ ∀ r, r < 56 → gA s 809 r = if r < 16 then 1 else 0) (by
          rintro i s hi ⟨f4, v4⟩
          have put : ∀ v : Int32, v = (if i < 16 then 1 else 0) → ∃ s', x8_fillFor_J126 s (jn i) (jn i) v = some (.inl (jn (i + 1), s')) ∧ fx [809] [] u1 s' ∧ ∀ r, r < i + 1 → gA s' 809 r = if r < 16 then 1 else 0 := by
            intro v hv
            refine ⟨sA s 809 (jn i) (vp_nar .boolean v), ?_, f4.trans (fx_sA rfl), fun r hr => ?_⟩
            · unfold x8_fillFor_J126
              rw [f4.2 809 rfl, N9, gd_jn (by omega) (by omega)]
              simp only [nm, jn_s]
            · rw [gA_sA, jn_cl (by omega)]
              by_cases e : r = i
              · subst e
                rw [upd_at, hv]
                split <;> rfl
              · rw [upd_ne e]; exact v4 r (by omega)
          dsimp only
          unfold x8_fillFor_B104
          rw [if_neg (jnge (x := 56) 56 rfl (by omega) (by omega) (by omega))]
          by_cases c : 16 ≤ i
          · rw [if_pos (jge (x := 16) 16 rfl c (by omega))]
            exact put 0 (by rw [if_neg (by omega)])
          · rw [if_neg (jnge (x := 16) 16 rfl c (by omega) (by omega))]
            exact put 1 (by rw [if_pos (by omega)])) (by
          rintro s hs
          exact ⟨s, by dsimp only; unfold x8_fillFor_B104; rw [if_pos (by decide)], hs⟩) 0 u1 (by omega) ⟨fx.rfl, fun r hr => absurd hr (by omega)⟩
      obtain ⟨u2, j2, f4, v4⟩ := l2
      have fu2 : fx [801, 802, 803, 804, 805, 808, 809] [808, 9000, 9001] tx u2 := (ft.wk rfl rfl).trans ((f3.wk rfl rfl).trans (f4.wk rfl rfl))
      obtain ⟨u3, j3, f5, M⟩ := markNeeded_eq hK n10 n11 hk fu2 rfl rfl ((f4.1 805 rfl).1.trans ((f3.1 805 rfl).1.trans e5))
      generalize hu4 : sI u3 807 0 = u4
      have f6 : fx [807] [] u3 u4 := by subst hu4; exact fx_sI rfl
      have u47 : gI u4 807 = 0 := by subst hu4; exact gI_at
      have fu4 : fx [801, 802, 803, 804, 805, 807, 808, 809, 810, 811] [808, 9000, 9001] tx u4 := (fu2.wk rfl rfl).trans ((f5.wk rfl rfl).trans (f6.wk rfl rfl))
      have fb : fx [807, 808, 809, 810, 811] [] t u4 := (f3.wk rfl rfl).trans ((f4.wk rfl rfl).trans ((f5.wk rfl rfl).trans (f6.wk rfl rfl)))
      have TB : TbR u4 (kH tm K) := hT.fr fb
      have u45 : gI u4 805 = jn K := (fb.1 805 rfl).1.trans e5
      have u49 : gA u4 809 = gA u2 809 := (f6.1 809 rfl).2.2.1.trans (f5.1 809 rfl).2.2.1
      have u48 : gB u4 808 = gB u1 808 := (f6.1 808 rfl).2.2.2.trans ((f5.1 808 rfl).2.2.2.trans (f4.1 808 rfl).2.2.2)
      have M' : Mn tm K 0 (gA u4 810) (gA u4 811) := by
        rw [(f6.1 810 rfl).2.2.1, (f6.1 811 rfl).2.2.1]; exact M
      have l3 := lp_cnt (b := fun y : Int32 × St => x8_fillFor_B144 y.1 y.2) (fun i s => (jn i, s)) (K + 1)
        (fun i s => FSt tm (kH tm K) K (gA u4 810) (gA u4 811) u4 i s ∧ CntS tm K i s)
        (fun s => FSt tm (kH tm K) K (gA u4 810) (gA u4 811) u4 (K + 1) s ∧ CntS tm K (K + 1) s) (by
          rintro i s hi ⟨F, C⟩
          exact knot_step hK hQ hk M' fu4 rfl rfl ⟨(fu4.2 809 rfl).trans n9, (fu4.2 810 rfl).trans n10, (fu4.2 811 rfl).trans n11, (fu4.2 812 rfl).trans n12, (fu4.2 813 rfl).trans n13, (fu4.2 814 rfl).trans n14⟩ rfl rfl u45 TB (by rw [fb.2 808 rfl]; exact hN8) (by rw [fb.2 808 rfl]; omega) F C (by omega)) (by
          rintro s ⟨F, C⟩
          refine ⟨s, ?_, F, C⟩
          dsimp only
          unfold x8_fillFor_B144
          rw [(F.1.1 805 rfl).1, u45, if_pos ((jn_lt (by omega) (by omega)).mpr (by omega))]) 0 u4 (by omega) ⟨⟨fx.rfl, ⟨fun r hr => by
            rw [u49, v4 r hr]
            split
            · exact Or.inr rfl
            · exact Or.inl rfl, fun r hr => (v3 r hr).to fun w _ => by rw [u48]⟩, fun j hj => absurd hj (by omega), fun j hj => absurd hj.1 (by omega), fun j j' hj => absurd hj.1 (by omega), fun r r1 r2 r3 => by
            rw [u49, v4 r r2, if_neg (by omega)] at r3
            exact absurd r3 (by decide)⟩, fun j hj => by
            rw [(fu4.1 813 rfl).2.2.1]; exact hl j hj, Or.inr ⟨u47, by rintro ⟨j, j1, -⟩; omega⟩⟩
      obtain ⟨u5, j5, F, C⟩ := l3
      have fbu := F.1
      -- where the net's row is
      have rowK : ∃ σ, σ < 56 ∧ gA u5 812 K = jn σ ∧ RowF u5 (rwF tm (kH tm K) K) (σ * wdsN (mN (kH tm K))) (wdsN (mN (kH tm K))) := by
        obtain ⟨-, ⟨-, hst⟩, hlt, hlv, -, -⟩ := F
        by_cases c : kS tm K = 0
        · have hr := fun x => rwF_letter hK hk Need.top c x
          exact ⟨_, by have := (hr 0).2; omega, hlt K (by omega) Need.top c, (hst _ (hr 0).2).cong fun x => (hr x).1.symm⟩
        · obtain ⟨ρ, x1, x2, x3, x4, x5⟩ := hlv K ⟨by omega, Need.top, c, Or.inl rfl⟩
          exact ⟨ρ, x2, x3, x5⟩
      obtain ⟨σ, σ1, σ2, σ3⟩ := rowK
      have σW := row_in (W := wdsN (mN (kH tm K))) σ1
      generalize hu6 : sI u5 806 (jn (σ * wdsN (mN (kH tm K)))) = u6
      have f7 : fx [806] [] u5 u6 := by subst hu6; exact fx_sI rfl
      have fall : fx [806, 807, 808, 809, 810, 811, 812, 813, 814] [] t u6 := (fb.wk rfl rfl).trans ((fbu.wk rfl rfl).trans (f7.wk rfl rfl))
      have fx6 : fx [801, 802, 803, 804, 805, 806, 807, 808, 809, 810, 811, 812, 813, 814] [808, 9000, 9001] tx u6 := (ft.wk rfl rfl).trans (fall.wk rfl rfl)
      have N8 : gN u6 808 = gN t 808 := fall.2 808 rfl
      have e65 : gI u6 805 = jn K := (fall.1 805 rfl).1.trans e5
      have ov : OverK tm K (K + 1) ↔ Over tm K := by
        constructor
        · rintro ⟨j, j1, j2, j3⟩; exact ⟨j, j2, j3⟩
        · rintro ⟨j, j2, j3⟩; exact ⟨j, by have := j2.le hK hk; omega, j2, j3⟩
      have TK : TbK tm K u6 := by
        refine ⟨hT.fr fall, by rw [N8]; exact hN8, ⟨σ * wdsN (mN (kH tm K)), by subst hu6; exact gI_at, σW, σ3.to fun w _ => by rw [(f7.1 808 rfl).2.2.2]⟩, ?_⟩
        rw [(f7.1 807 rfl).1, ← ov]
        exact C.2
      refine ⟨u6, ?_, fx6, ⟨⟨⟨(fx6.2 801 rfl).trans n1, (fx6.2 802 rfl).trans n2⟩, ⟨(fx6.2 809 rfl).trans n9, (fx6.2 810 rfl).trans n10, (fx6.2 811 rfl).trans n11, (fx6.2 812 rfl).trans n12, (fx6.2 813 rfl).trans n13, (fx6.2 814 rfl).trans n14⟩, ip, hip, by rw [N8, ep]⟩, fun j hj => by rw [(f7.1 813 rfl).2.2.1]; exact C.1 j hj, Or.inr ⟨K, hk, e65, TK⟩⟩, e65, TK, by rw [N8, fall.2 9001 rfl]; exact me1, by rw [N8, fall.2 9000 rfl]; exact me2⟩
      unfold x8_fillFor_J81
      rw [show (0 : Int32) = jn 0 from rfl, j1, bs, j2, bs, j3, bs, show jn 0 = (0 : Int32) from rfl]
      simp only [nm]
      rw [hu4, show (0 : Int32) = jn 0 from rfl, j5, bs, (fbu.1 805 rfl).1, u45, fbu.2 812 rfl, fu4.2 812 rfl, n12, gd_jn (by omega) (by omega), jn_cl (by omega), σ2, (fbu.1 804 rfl).1, TB.2.2.2.2, jn_mul, hu6]
    -- the pool's room
    have J50 : ∃ t', x8_fillFor_J50 t1 (jn (wdsN (mN (kH tm K)))) = some t' ∧ fx [801, 802, 803, 804, 805, 806, 807, 808, 809, 810, 811, 812, 813, 814] [808, 9000, 9001] tx t' ∧ RTb t' tm ∧ gI t' 805 = jn K ∧ TbK tm K t' ∧ gN t' 9001 + 2 * gN tx 808 ≤ gN tx 9001 + 2 * gN t' 808 ∧ gN t' 9000 + gN tx 808 ≤ gN tx 9000 + gN t' 808 := by
      have N82 : gN t2 808 = gN tx 808 := ft2.2 808 rfl
      unfold x8_fillFor_J50
      simp only [nm]
      rw [ht2, T2.2.2.2.2, show (56 : Int32) = jn 56 from rfl, jn_mul, N82, show Int32.ofNat (gN tx 808) = jn (gN tx 808) from rfl]
      by_cases c : 56 * wdsN (mN (kH tm K)) ≤ gN tx 808
      · rw [if_pos ((jn_le (by omega) (by omega)).mpr c)]
        exact J t2 (ft2.wk rfl rfl) T2 ((f2.1 805 rfl).1.trans t15) ⟨i8, hi8, N82.trans n8⟩ (by rw [N82]; exact c) (by rw [N82, ft2.2 9001 rfl]; exact Nat.le_refl _) (by rw [N82, ft2.2 9000 rfl]; exact Nat.le_refl _)
      · rw [if_neg (fun e => c ((jn_le (by omega) (by omega)).mp e))]
        have lt : 2 ^ i8 < 2 ^ iW := by rw [n8, eW] at c; omega
        have dbl : 2 * 2 ^ i8 ≤ 2 ^ iW := by
          have : i8 < iW := (Nat.pow_lt_pow_iff_right (by omega)).mp lt
          have := Nat.pow_le_pow_right (n := 2) (by omega) (show i8 + 1 ≤ iW by omega)
          rw [Nat.pow_succ] at this
          omega
        unfold nwl
        rw [if_neg (by
          rintro (e | e)
          · exact jn_neg (by omega) e
          · rw [jn_cl (by omega)] at e; omega), jn_cl (by omega)]
        have fj : fx [808] [808, 9000, 9001] t2 (nwJ t2 808 (56 * wdsN (mN (kH tm K))) (fun _ => 0)) := fx_nwJ rfl rfl rfl rfl
        obtain ⟨N83, N90, N91⟩ := nwJ_N (t := t2) (k := 808) (n := 56 * wdsN (mN (kH tm K))) (f := fun _ => 0) (by omega)
        refine J _ ((ft2.wk rfl rfl).trans (fj.wk rfl rfl)) (T2.fr fj) ((fj.1 805 rfl).1.trans ((f2.1 805 rfl).1.trans t15)) ⟨iW, hiW, by rw [N83, eW]⟩ (by rw [N83]; exact Nat.le_refl _) ?_ ?_
        · rw [N83, N91, ft2.2 9001 rfl, n8, eW]; omega
        · rw [N83, N90, ft2.2 9000 rfl, n8, eW]; omega
    obtain ⟨t', g1, g2⟩ := J50
    refine ⟨t', ?_, g2⟩
    unfold x8_fillFor
    rw [if_neg (fun e => q e.symm)]
    simp only [nm]
    rw [show gN (sI tx 805 (jn K)) 607 = gN tx 607 from rfl, z7, gd_jn (by omega) (by omega), show gA (sI tx 805 (jn K)) 607 = gA tx 607 from rfl, jn_cl (by omega), h607, k1, bs, a3]
    unfold wdsN at g1
    by_cases c : mN (kH tm K) ≤ 6
    · rw [if_pos c] at g1
      rw [if_neg (show ¬ (6 : Int32) < jn (mN (kH tm K)) from fun e => by have := (jn_lt (a := 6) (by omega) (by omega)).mp e; omega)]
      exact g1
    · rw [if_neg c] at g1
      rw [if_pos (jgt (x := 6) 6 rfl (by omega) (by omega)), show jn (mN (kH tm K)) - 6 = jn (mN (kH tm K) - 6) from jn_sub (a := mN (kH tm K)) (b := 6) (by omega), jn_shl1 _ (by omega)]
      exact g1
