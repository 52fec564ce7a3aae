/-! The class's tables: so many of the parts. -/
theorem fill814 {t : St} (h : gN t 814 = 9) (v : Int64) : ∃ t', j7_fill_d0a16_814 t v = some t' ∧ fx [814] [] t t' ∧ ∀ q, q < 9 → gB t' 814 q = v := by
  have l := lp_cnt (b := fun y : Int32 × St => j7_fill_d0a16_814_B6 v (jn 9) y.1 y.2) (fun i s => (jn i, s)) 9
    (fun i s => fx [814] [] t s ∧ ∀ q, q < i → gB s 814 q = v)
    (fun s => fx [814] [] t s ∧ ∀ q, q < 9 → gB s 814 q = v) (by
      rintro i s hi ⟨hf, v1⟩
      refine ⟨sB s 814 (jn i) v, ?_, hf.trans (fx_sB rfl), fun q hq => ?_⟩
      · dsimp only
        unfold j7_fill_d0a16_814_B6
        rw [if_neg (nle hi (by omega)), hf.2 814 rfl, h, gd_jn (by omega) (by omega)]
        simp only [nm, jn_s]
      · rw [gB_put (by omega)]
        by_cases e : q = i
        · rw [if_pos e]
        · rw [if_neg e]; exact v1 q (by omega)) (by
      rintro s hs
      exact ⟨s, by dsimp only; unfold j7_fill_d0a16_814_B6; rw [if_pos (lee (by omega))], hs⟩) 0 t (by omega) ⟨fx.rfl, fun q hq => absurd hq (by omega)⟩
  obtain ⟨s, k1, k2⟩ := l
  refine ⟨s, ?_, k2⟩
  unfold j7_fill_d0a16_814
  simp only [nm]
  rw [h, show Int32.ofNat 9 = jn 9 from rfl, show (0 : Int32) = jn 0 from rfl, k1, bs]
theorem some_one (v1 v2 v3 v4 : Int32) (v : Int64) (s : St) (h : gN s 814 = 9) : ∀ n, n ≤ 8 → ∃ s', lp (fun x : Int32 × St => x8_fillSome_B96 v1 v2 v3 v4 v x.1 x.2) (jn n, s) = some s' ∧ fx [814] [] s s' ∧ ∀ q, gB s' 814 q = if 1 ≤ q ∧ q ≤ n then gB s 814 q ||| (gB s 814 (q - 1) &&& v) else gB s 814 q := by
  intro n
  induction n generalizing s with
  | zero =>
    intro _
    exact ⟨s, lp_r (by dsimp only; unfold x8_fillSome_B96; rw [if_pos (by decide)]), fx.rfl, fun q => by rw [if_neg (by omega)]⟩
  | succ n ih =>
    intro hn
    have b : (fun x : Int32 × St => x8_fillSome_B96 v1 v2 v3 v4 v x.1 x.2) (jn (n + 1), s) = some (.inl (jn n, sB s 814 (jn (n + 1)) (gB s 814 (n + 1) ||| (gB s 814 n &&& v)))) := by
      dsimp only
      unfold x8_fillSome_B96
      have q : ¬ jn (n + 1) ≤ 0 := fun e => by have := (jn_le (b := 0) (by omega) (by omega)).mp e; omega
      rw [if_neg q, h, gd_jn (by omega) (by omega), show jn (n + 1) - 1 = jn n from jn_sub (a := n + 1) (b := 1) (by omega), gd_jn (by omega) (by omega), gd_jn (by omega) (by omega), jn_cl (by omega), jn_cl (by omega)]
      simp only [nm, dn_pred]
      rfl
    rw [lp_l b]
    obtain ⟨s', j1, j2, j3⟩ := ih (sB s 814 (jn (n + 1)) (gB s 814 (n + 1) ||| (gB s 814 n &&& v))) h (by omega)
    refine ⟨s', j1, (fx_sB rfl).trans j2, fun q => ?_⟩
    rw [j3 q]
    by_cases a : 1 ≤ q ∧ q ≤ n
    · rw [if_pos a, if_pos (by omega), gB_put (by omega), if_neg (by omega), gB_put (by omega), if_neg (by omega)]
    · rw [if_neg a, gB_put (by omega)]
      by_cases e : q = n + 1
      · subst e
        rw [if_pos rfl, if_pos (by omega)]
        rfl
      · rw [if_neg e, if_neg (by omega)]
theorem fillSome_eq {tx tm s : St} (hK : RK tx tm) {S T : List Nat} (hf : fx S T tx s) (hS : (S.elem 604 || S.elem 605 || S.elem 606 || S.elem 608) = false) (hT2 : (T.elem 604 || T.elem 605 || T.elem 606 || T.elem 608) = false) {H k ρ : Nat} (hT : TbR s H) (hN : 56 * wdsN (mN H) ≤ gN s 808) (h12 : gN s 812 = 330) (h14 : gN s 814 = 9) (hk : k < nK tm) (q4 : kS tm k = 4) (hρ : ρ < 56) (hr : gA s 812 k = jn ρ) (hp : ∀ i, i < kN tm k → ∃ σ, σ < 56 ∧ σ ≠ ρ ∧ gA s 812 (kP tm k i) = jn σ ∧ RowF s (rwF tm H (kP tm k i)) (σ * wdsN (mN H)) (wdsN (mN H))) : ∃ s', x8_fillSome s (jn k) = some s' ∧ fx [808, 814] [] s s' ∧ RowF s' (rwF tm H k) (ρ * wdsN (mN H)) (wdsN (mN H)) ∧ ∀ x, (x < ρ * wdsN (mN H) ∨ ρ * wdsN (mN H) + wdsN (mN H) ≤ x) → gB s' 808 x = gB s 808 x := by
  have h250 := nK_lt hK
  have hW := wdsN_le (mN_le H)
  have t4 : gI s 804 = jn (wdsN (mN H)) := hT.2.2.2.2
  simp only [Bool.or_eq_false_iff] at hS hT2
  obtain ⟨⟨⟨a4, a5⟩, a6⟩, a8⟩ := hS
  obtain ⟨⟨⟨b4, b5⟩, b6⟩, b8⟩ := hT2
  obtain ⟨⟨z3, z4, z5, z6, z7⟩, -, -, hall⟩ := id hK
  obtain ⟨s1, s2, s3, d1, d2, d3, g1, g2, g3, m1, m2, q1, q2⟩ := hall k hk
  obtain ⟨e1, e2, e3, e4, e5, e7, e8, e6, -⟩ := q2 (by omega)
  obtain ⟨y1, y2, y3⟩ := e7 q4
  generalize wdsN (mN H) = W at hW t4 hN hp ⊢
  have g0 : ∀ {α : Type} (x : Option α), gd (jn k) 330 x = x := fun x => gd_jn (by omega) (by omega)
  have ck : (jn k).toNatClampNeg = k := jn_cl (by omega)
  have ρW := row_in (W := W) hρ
  have A4 : gA s 604 k = jn (kN tm k) := (congrFun (hf.1 604 a4).2.2.1 k).trans (e1.trans m1)
  have A5 : gA s 605 k = jn (kD tm k) := (congrFun (hf.1 605 a5).2.2.1 k).trans (d3.trans d1)
  have l := lp_cnt (b := fun y : Int32 × St => x8_fillSome_B22 (jn k) (jn (kD tm k)) y.1 y.2) (fun i s => (jn i, s)) W
    (fun i u => fx [808, 814] [] s u ∧ (∀ w, w < i → ∀ j, j < 64 → wb (gB u 808 (ρ * W + w)) j = rwF tm H k (64 * w + j)) ∧ ∀ x, (x < ρ * W ∨ ρ * W + W ≤ x) → gB u 808 x = gB s 808 x)
    (fun u => fx [808, 814] [] s u ∧ (∀ w, w < W → ∀ j, j < 64 → wb (gB u 808 (ρ * W + w)) j = rwF tm H k (64 * w + j)) ∧ ∀ x, (x < ρ * W ∨ ρ * W + W ≤ x) → gB u 808 x = gB s 808 x) (by
      rintro w u hw ⟨f1, v1, v2⟩
      obtain ⟨u1, k1, f2, v3⟩ := fill814 (t := u) ((f1.2 814 rfl).trans h14) 0
      have N14 : gN u1 814 = 9 := (f2.2 814 rfl).trans ((f1.2 814 rfl).trans h14)
      -- over the parts
      have l1 := lp_cnt (b := fun y : Int32 × St => x8_fillSome_B50 (jn k) (jn (kD tm k)) (jn w) y.1 y.2) (fun i s => (jn i, s)) (kN tm k)
        (fun n z => fx [814] [] u z ∧ ∀ q j, q ≤ kD tm k → j < 64 → wb (gB z 814 q) j = decide (q ≤ cntB (fun i => rwF tm H (kP tm k i) (64 * w + j)) n))
        (fun z => fx [814] [] u z ∧ ∀ q j, q ≤ kD tm k → j < 64 → wb (gB z 814 q) j = decide (q ≤ cntB (fun i => rwF tm H (kP tm k i) (64 * w + j)) (kN tm k))) (by
          rintro n z hn ⟨f3, v4⟩
          obtain ⟨σ, σ1, σ2, σ3, σ4⟩ := hp n hn
          have σW := row_in (W := W) σ1
          have w3 := (e6 n hn).2.2
          have far := row_far (W := W) σ2 hw
          have fz : fx [808, 814] [] s z := f1.trans (f3.wk rfl rfl)
          have N14z : gN z 814 = 9 := (f3.2 814 rfl).trans ((f1.2 814 rfl).trans h14)
          have po : x6_partOf z (jn k) (jn n) = some (jn (kP tm k n)) := by
            have := part_eq hK hf (by rw [a6, a8]; rfl) (by rw [b6, b8]; rfl) hk (by omega) hn
            unfold x6_partOf at this ⊢
            rw [fz.2 606 rfl, fz.2 608 rfl, (fz.1 606 rfl).2.2.1, (fz.1 608 rfl).2.2.1]
            exact this
          obtain ⟨z', j1, j2, j3⟩ := some_one (jn k) (jn (kD tm k)) (jn w) (jn n) (gB z 808 (σ * W + w)) z N14z (kD tm k) (by omega)
          refine ⟨z', ?_, f3.trans j2, fun q j hq hj => ?_⟩
          · dsimp only
            unfold x8_fillSome_B50
            rw [fz.2 604 rfl, hf.2 604 b4, z4, g0, ck, (fz.1 604 rfl).2.2.1, A4, if_neg (nle hn (by omega)), po, bs, fz.2 812 rfl, h12, gd_jn (by omega) (by omega), jn_cl (by omega), (fz.1 812 rfl).2.2.1, σ3, (fz.1 804 rfl).1, t4, jn_mul, jn_add, fz.2 808 rfl, gd_jn (by omega) (by omega), jn_cl (by omega)]
            simp only [nm]
            rw [j1, bs, jn_s]
          · have fr : wb (gB z 808 (σ * W + w)) j = rwF tm H (kP tm k n) (64 * w + j) := by
              rw [(f3.1 808 rfl).2.2.2, v2 _ far]
              exact σ4 w hw j hj
            rw [j3 q, cnt_s]
            by_cases a : 1 ≤ q ∧ q ≤ kD tm k
            · rw [if_pos a, wb_or, wb_and, v4 q j hq hj, v4 (q - 1) j (by omega) hj, fr]
              cases rwF tm H (kP tm k n) (64 * w + j)
              · simp
              · have : (q ≤ cntB (fun i => rwF tm H (kP tm k i) (64 * w + j)) n + 1) ↔ (q ≤ cntB (fun i => rwF tm H (kP tm k i) (64 * w + j)) n ∨ q - 1 ≤ cntB (fun i => rwF tm H (kP tm k i) (64 * w + j)) n) := by omega
                rw [Bool.and_true, ← Bool.decide_or]
                exact decide_eq_decide.mpr this.symm
            · have : q = 0 := by omega
              subst this
              rw [if_neg a, v4 0 j hq hj]
              simp) (by
          rintro z ⟨f3, v4⟩
          have fz : fx [808, 814] [] s z := f1.trans (f3.wk rfl rfl)
          refine ⟨z, ?_, f3, v4⟩
          dsimp only
          unfold x8_fillSome_B50
          rw [fz.2 604 rfl, hf.2 604 b4, z4, g0, ck, (fz.1 604 rfl).2.2.1, A4, if_pos (lee (by omega))]) 0 (sB u1 814 (jn 0) (-1)) (by omega) ⟨f2.trans (fx_sB rfl), fun q j hq hj => by
        rw [gB_put (by omega)]
        by_cases e : q = 0
        · subst e
          rw [if_pos rfl, wb_m1 hj]
          simp
        · rw [if_neg e, v3 q (by omega), wb_0]
          have : ¬ q ≤ cntB (fun i => rwF tm H (kP tm k i) (64 * w + j)) 0 := by
            show ¬ q ≤ 0
            omega
          simp [this]⟩
      obtain ⟨z, k2, f3, v4⟩ := l1
      have fz : fx [808, 814] [] s z := f1.trans (f3.wk rfl rfl)
      have N14z : gN z 814 = 9 := (f3.2 814 rfl).trans ((f1.2 814 rfl).trans h14)
      refine ⟨sB z 808 (jn (ρ * W + w)) (gB z 814 (kD tm k)), ?_, fz.trans (fx_sB rfl), fun w' hw' j hj => ?_, fun x hx => ?_⟩
      · dsimp only
        unfold x8_fillSome_B22
        rw [(f1.1 804 rfl).1, t4, if_neg (nle hw (by omega)), k1, bs, N14]
        have g9 : ∀ {α : Type} (x : Option α), gd (0 : Int32) 9 x = x := fun x => gd_jn (a := 0) (by omega) (by omega)
        rw [g9]
        simp only [nm]
        rw [show lp (fun y : Int32 × St => x8_fillSome_B50 (jn k) (jn (kD tm k)) (jn w) y.1 y.2) ((0 : Int32), sB u1 814 0 (-1)) = some z from k2, bs, fz.2 812 rfl, h12, g0, N14z, gd_jn (by omega) (by omega), ck, (fz.1 812 rfl).2.2.1, hr, (fz.1 804 rfl).1, t4, jn_mul, jn_add, fz.2 808 rfl, gd_jn (by omega) (by omega), jn_cl (by omega), jn_s]
      · rw [gB_put (by omega)]
        by_cases e : w' = w
        · subst e
          rw [if_pos rfl, v4 _ j (Nat.le_refl _) hj]
          show _ = rch tm k (wd H (64 * w' + j))
          rw [rch_eq hK hk, if_neg (by omega)]
          unfold kE
          rw [if_neg (by omega), if_pos q4]
          rfl
        · rw [if_neg (by omega), (f3.1 808 rfl).2.2.2]; exact v1 w' (by omega) j hj
      · rw [gB_put (by omega), if_neg (by omega), (f3.1 808 rfl).2.2.2]
        exact v2 x hx) (by
      rintro u ⟨f1, hu⟩
      refine ⟨u, ?_, f1, hu⟩
      dsimp only
      unfold x8_fillSome_B22
      rw [(f1.1 804 rfl).1, t4, if_pos (lee (by omega))]) 0 s (by omega) ⟨fx.rfl, fun w hw => absurd hw (by omega), fun _ _ => rfl⟩
  obtain ⟨u, k1, f1, v1⟩ := l
  refine ⟨u, ?_, f1, v1⟩
  unfold x8_fillSome
  rw [hf.2 605 b5, z5, g0, h14, ck, A5, show Int32.ofNat 9 - 1 = jn 8 from rfl]
  simp only [nm]
  rw [if_neg (fun e => by have := (jn_lt (by omega) (by omega)).mp e; omega), show (0 : Int32) = jn 0 from rfl, k1, bs]
