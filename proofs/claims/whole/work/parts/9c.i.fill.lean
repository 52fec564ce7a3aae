/-! The class's tables: rows of steps and of knots. -/
theorem gB_put {t : St} {k q : Nat} {v : Int64} (hq : q < 2147483648) (r : Nat) : gB (sB t k (jn q) v) k r = if r = q then v else gB t k r := by
  show (va_up t.2.2.2.1 k (vp_updL (gB t k) (jn q).toNatClampNeg v)) k r = _
  rw [up_at, jn_cl hq]
  rfl
theorem fillStep_eq {t : St} {H r : Nat} (hT : TbR t H) (hr : r < 16) (hN : 56 * wdsN (mN H) ≤ gN t 808) : ∃ t', x8_fillStep t (jn r) = some t' ∧ fx [808] [] t t' ∧ RowF t' (fun q => q.testBit r) (r * wdsN (mN H)) (wdsN (mN H)) ∧ ∀ x, (x < r * wdsN (mN H) ∨ r * wdsN (mN H) + wdsN (mN H) ≤ x) → gB t' 808 x = gB t 808 x := by
  have hW := wdsN_le (mN_le H)
  have t4 : gI t 804 = jn (wdsN (mN H)) := hT.2.2.2.2
  generalize wdsN (mN H) = W at hW t4 hN ⊢
  have rW : r * W + W ≤ 16 * W := by
    have : (r + 1) * W ≤ 16 * W := Nat.mul_le_mul_right _ (by omega)
    rw [Nat.add_mul] at this
    omega
  have l := lp_cnt (b := fun y : Int32 × St => x8_fillStep_B2 (jn r) y.1 y.2) (fun i s => (jn i, s)) W
    (fun i s => fx [808] [] t s ∧ (∀ w, w < i → ∀ j, j < 64 → wb (gB s 808 (r * W + w)) j = (64 * w + j).testBit r) ∧ ∀ x, (x < r * W ∨ r * W + W ≤ x) → gB s 808 x = gB t 808 x)
    (fun s => fx [808] [] t s ∧ (∀ w, w < W → ∀ j, j < 64 → wb (gB s 808 (r * W + w)) j = (64 * w + j).testBit r) ∧ ∀ x, (x < r * W ∨ r * W + W ≤ x) → gB s 808 x = gB t 808 x) (by
      rintro i s hi ⟨hf, v1, v2⟩
      have put : ∀ v : Int64, (∀ j, j < 64 → wb v j = (64 * i + j).testBit r) → fx [808] [] t (sB s 808 (jn (r * W + i)) v) ∧ (∀ w, w < i + 1 → ∀ j, j < 64 → wb (gB (sB s 808 (jn (r * W + i)) v) 808 (r * W + w)) j = (64 * w + j).testBit r) ∧ ∀ x, (x < r * W ∨ r * W + W ≤ x) → gB (sB s 808 (jn (r * W + i)) v) 808 x = gB t 808 x := by
        intro v hv
        refine ⟨hf.trans (fx_sB rfl), fun w hw j hj => ?_, fun x hx => ?_⟩
        · rw [gB_put (by omega)]
          by_cases e : w = i
          · subst e
            rw [if_pos rfl]; exact hv j hj
          · rw [if_neg (by omega)]; exact v1 w (by omega) j hj
        · rw [gB_put (by omega), if_neg (by omega)]
          exact v2 x hx
      have N8 : gN s 808 = gN t 808 := hf.2 808 rfl
      have idx : jn r * jn W + jn i = jn (r * W + i) := by rw [jn_mul, jn_add]
      dsimp only
      unfold x8_fillStep_B2
      rw [(hf.1 804 rfl).1, t4, if_neg (nle hi (by omega)), idx]
      by_cases h6 : 6 ≤ r
      · rw [if_pos (jge (x := 6) 6 rfl h6 (by omega)), hasRank_eq s (by omega) h6 hr, bs]
        have go : ∀ v : Int64, x8_fillStep_J66 s (jn r) (jn i) (jn (r * W + i)) v = some (.inl (jn (i + 1), sB s 808 (jn (r * W + i)) v)) := by
          intro v
          unfold x8_fillStep_J66
          rw [N8, gd_jn (by omega) (by omega)]
          simp only [nm, jn_s]
        cases hb : i.testBit (r - 6) with
        | false =>
          rw [if_pos (show (if false = true then (1 : Int32) else 0) = 0 from rfl), go]
          exact ⟨_, rfl, put 0 fun j hj => by rw [wb_0, tb_word hj, if_neg (by omega), hb]⟩
        | true =>
          rw [if_neg (show ¬ (if true = true then (1 : Int32) else 0) = 0 by decide), go]
          exact ⟨_, rfl, put (-1) fun j hj => by rw [wb_m1 hj, tb_word hj, if_neg (by omega), hb]⟩
      · rw [if_neg (jnge (x := 6) 6 rfl h6 (by omega) (by omega)), gd_jn (by omega) (by omega), N8, gd_jn (by omega) (by omega), jn_cl (by omega)]
        simp only [nm, jn_s]
        exact ⟨_, rfl, put _ fun j hj => by rw [stL_bit r (by omega) j hj, tb_word hj, if_pos (by omega)]⟩) (by
      rintro s ⟨hf, hs⟩
      refine ⟨s, ?_, hf, hs⟩
      dsimp only
      unfold x8_fillStep_B2
      rw [(hf.1 804 rfl).1, t4, if_pos (lee (by omega))]) 0 t (by omega) ⟨fx.rfl, fun w hw => absurd hw (by omega), fun _ _ => rfl⟩
  obtain ⟨s, k1, k2, k3⟩ := l
  refine ⟨s, ?_, k2, k3⟩
  unfold x8_fillStep
  rw [show (0 : Int32) = jn 0 from rfl, k1, bs]
theorem cnt_any (f : Nat → Bool) (n : Nat) : decide (1 ≤ cntB f n) = anyB f n := by
  cases h : anyB f n with
  | true =>
    obtain ⟨i, h1, h2⟩ := anyB_t.mp h
    exact decide_eq_true (cntB_pos h1 h2)
  | false =>
    have := cntB_dn (g := f) (n := n) (m := 0) (fun i _ hi => by
      cases hf : f i with
      | false => rfl
      | true =>
        have : anyB f n = true := anyB_t.mpr ⟨i, hi, hf⟩
        rw [this] at h
        cases h)
    exact decide_eq_false (by omega)
theorem cnt_all (f : Nat → Bool) (n : Nat) : decide (n ≤ cntB f n) = !anyB (fun i => !f i) n := by
  cases h : anyB (fun i => !f i) n with
  | true =>
    obtain ⟨i, h1, h2⟩ := anyB_t.mp h
    have h3 : f i = false := by simpa using h2
    have : cntB f n + 1 ≤ n := by
      have e : n = cntB f n + cntB (fun i => !f i) n := by
        have : cntB (fun _ => true) n = cntB f n + cntB (fun i => !f i) n := smm_split fun i _ => by cases hf : f i <;> simp [hf]
        rw [cntB_all (fun _ _ => rfl)] at this
        exact this
      have := cntB_pos (g := fun i => !f i) h1 h2
      omega
    exact decide_eq_false (by omega)
  | false =>
    rw [cntB_all fun i hi => ?_]
    · exact decide_eq_true (Nat.le_refl _)
    · cases hf : f i with
      | true => rfl
      | false =>
        have : anyB (fun i => !f i) n = true := anyB_t.mpr ⟨i, hi, by rw [hf]; rfl⟩
        rw [this] at h
        cases h
/-- a row is at a place of the pool, told by its number -/
def AtRow (s : St) (F : Nat → Bool) (W p : Nat) : Prop := ∃ σ, σ < 56 ∧ gA s 812 p = jn σ ∧ RowF s F (σ * W) W
def rwF (tm : St) (H p q : Nat) : Bool := rch tm p (wd H q)
theorem row_far {σ ρ W : Nat} (h : σ ≠ ρ) {w : Nat} (hw : w < W) : σ * W + w < ρ * W ∨ ρ * W + W ≤ σ * W + w := by
  by_cases c : σ < ρ
  · left
    have : (σ + 1) * W ≤ ρ * W := Nat.mul_le_mul_right _ (by omega)
    rw [Nat.add_mul] at this
    omega
  · right
    have : (ρ + 1) * W ≤ σ * W := Nat.mul_le_mul_right _ (by omega)
    rw [Nat.add_mul] at this
    omega
theorem row_in {ρ W : Nat} (h : ρ < 56) : ρ * W + W ≤ 56 * W := by
  have : (ρ + 1) * W ≤ 56 * W := Nat.mul_le_mul_right _ (by omega)
  rw [Nat.add_mul] at this
  omega
theorem fillRow_eq {tx tm s : St} (hK : RK tx tm) {S T : List Nat} (hf : fx S T tx s) (hS : (S.elem 603 || S.elem 604 || S.elem 606 || S.elem 608) = false) (hT2 : (T.elem 603 || T.elem 604 || T.elem 606 || T.elem 608) = false) {H k ρ : Nat} (hT : TbR s H) (hN : 56 * wdsN (mN H) ≤ gN s 808) (h12 : gN s 812 = 330) (hk : k < nK tm) (q : kS tm k ≠ 0) (q4 : kS tm k ≠ 4) (hρ : ρ < 56) (hr : gA s 812 k = jn ρ) (hp : ∀ i, i < kN tm k → ∃ σ, σ < 56 ∧ σ ≠ ρ ∧ gA s 812 (kP tm k i) = jn σ ∧ RowF s (rwF tm H (kP tm k i)) (σ * wdsN (mN H)) (wdsN (mN H))) : ∃ s', x8_fillRow s (jn k) = some s' ∧ fx [808] [] s s' ∧ RowF s' (rwF tm H k) (ρ * wdsN (mN H)) (wdsN (mN H)) ∧ ∀ x, (x < ρ * wdsN (mN H) ∨ ρ * wdsN (mN H) + wdsN (mN H) ≤ x) → gB s' 808 x = gB s 808 x := by
  have h250 := nK_lt hK
  have hW := wdsN_le (mN_le H)
  have t4 : gI s 804 = jn (wdsN (mN H)) := hT.2.2.2.2
  simp only [Bool.or_eq_false_iff] at hS hT2
  obtain ⟨⟨⟨a3, a4⟩, a6⟩, a8⟩ := hS
  obtain ⟨⟨⟨b3, b4⟩, b6⟩, b8⟩ := hT2
  obtain ⟨⟨z3, z4, z5, z6, z7⟩, -, -, hall⟩ := id hK
  obtain ⟨s1, s2, s3, d1, d2, d3, g1, g2, g3, m1, m2, q1, q2⟩ := hall k hk
  obtain ⟨e1, e2, e3, e4, e5, e7, e8, e6, -⟩ := q2 q
  generalize wdsN (mN H) = W at hW t4 hN hp ⊢
  have g0 : ∀ {α : Type} (x : Option α), gd (jn k) 330 x = x := fun x => gd_jn (by omega) (by omega)
  have ck : (jn k).toNatClampNeg = k := jn_cl (by omega)
  have ρW := row_in (W := W) hρ
  have A3 : gA s 603 k = jn (kS tm k) := (congrFun (hf.1 603 a3).2.2.1 k).trans (s3.trans s1)
  have A4 : gA s 604 k = jn (kN tm k) := (congrFun (hf.1 604 a4).2.2.1 k).trans (e1.trans m1)
  -- the fold
  let fold : Bool → Nat → Nat → Bool := fun any n x => if any then anyB (fun i => rwF tm H (kP tm k i) x) n else !anyB (fun i => !rwF tm H (kP tm k i) x) n
  have go : ∀ (any : Bool), (any = true ↔ kS tm k = 1) → ∃ s', x8_fillRow_J30 s (jn k) (jn (ρ * W)) (if any then 1 else 0) = some s' ∧ fx [808] [] s s' ∧ RowF s' (rwF tm H k) (ρ * W) W ∧ ∀ x, (x < ρ * W ∨ ρ * W + W ≤ x) → gB s' 808 x = gB s 808 x := by
    intro any hany
    -- begun
    have l0 := lp_cnt (b := fun y : Int32 × St => x8_fillRow_B34 (jn k) (jn (ρ * W)) (if any then 1 else 0) y.1 y.2) (fun i s => (jn i, s)) W
      (fun i u => fx [808] [] s u ∧ (∀ w, w < i → ∀ j, j < 64 → wb (gB u 808 (ρ * W + w)) j = fold any 0 (64 * w + j)) ∧ ∀ x, (x < ρ * W ∨ ρ * W + W ≤ x) → gB u 808 x = gB s 808 x)
      (fun u => fx [808] [] s u ∧ (∀ w, w < W → ∀ j, j < 64 → wb (gB u 808 (ρ * W + w)) j = fold any 0 (64 * w + j)) ∧ ∀ x, (x < ρ * W ∨ ρ * W + W ≤ x) → gB u 808 x = gB s 808 x) (by
        rintro i u hi ⟨f1, v1, v2⟩
        have put : ∀ v : Int64, (∀ j, j < 64 → wb v j = fold any 0 (64 * i + j)) → ∃ u', x8_fillRow_J62 u (jn k) (jn (ρ * W)) (if any then 1 else 0) (jn i) (jn (ρ * W + i)) v = some (.inl (jn (i + 1), u')) ∧ fx [808] [] s u' ∧ (∀ w, w < i + 1 → ∀ j, j < 64 → wb (gB u' 808 (ρ * W + w)) j = fold any 0 (64 * w + j)) ∧ ∀ x, (x < ρ * W ∨ ρ * W + W ≤ x) → gB u' 808 x = gB s 808 x := by
          intro v hv
          refine ⟨sB u 808 (jn (ρ * W + i)) v, ?_, f1.trans (fx_sB rfl), fun w hw j hj => ?_, fun x hx => ?_⟩
          · unfold x8_fillRow_J62
            rw [f1.2 808 rfl, gd_jn (by omega) (by omega)]
            simp only [nm, jn_s]
          · rw [gB_put (by omega)]
            by_cases e : w = i
            · subst e
              rw [if_pos rfl]; exact hv j hj
            · rw [if_neg (by omega)]; exact v1 w (by omega) j hj
          · rw [gB_put (by omega), if_neg (by omega)]
            exact v2 x hx
        dsimp only
        unfold x8_fillRow_B34
        rw [(f1.1 804 rfl).1, t4, if_neg (nle hi (by omega)), jn_add]
        cases any with
        | true =>
          rw [if_neg (show ¬ (if true = true then (1 : Int32) else 0) = 0 by decide)]
          exact put 0 fun j hj => wb_0 j
        | false =>
          rw [if_pos (show (if false = true then (1 : Int32) else 0) = 0 from rfl)]
          exact put (-1) fun j hj => wb_m1 hj) (by
        rintro u ⟨f1, hu⟩
        refine ⟨u, ?_, f1, hu⟩
        dsimp only
        unfold x8_fillRow_B34
        rw [(f1.1 804 rfl).1, t4, if_pos (lee (by omega))]) 0 s (by omega) ⟨fx.rfl, fun w hw => absurd hw (by omega), fun _ _ => rfl⟩
    obtain ⟨u0, k0, f0, v0, v0b⟩ := l0
    -- part by part
    have l1 := lp_cnt (b := fun y : Int32 × St => x8_fillRow_B72 (jn k) (jn (ρ * W)) (if any then 1 else 0) y.1 y.2) (fun i s => (jn i, s)) (kN tm k)
      (fun n u => fx [808] [] s u ∧ (∀ w, w < W → ∀ j, j < 64 → wb (gB u 808 (ρ * W + w)) j = fold any n (64 * w + j)) ∧ ∀ x, (x < ρ * W ∨ ρ * W + W ≤ x) → gB u 808 x = gB s 808 x)
      (fun u => fx [808] [] s u ∧ (∀ w, w < W → ∀ j, j < 64 → wb (gB u 808 (ρ * W + w)) j = fold any (kN tm k) (64 * w + j)) ∧ ∀ x, (x < ρ * W ∨ ρ * W + W ≤ x) → gB u 808 x = gB s 808 x) (by
        rintro n u hn ⟨f1, v1, v2⟩
        obtain ⟨σ, σ1, σ2, σ3, σ4⟩ := hp n hn
        have σW := row_in (W := W) σ1
        have w3 := (e6 n hn).2.2
        have po : x6_partOf u (jn k) (jn n) = some (jn (kP tm k n)) := by
          have := part_eq hK hf (by rw [a6, a8]; rfl) (by rw [b6, b8]; rfl) hk q hn
          unfold x6_partOf at this ⊢
          rw [f1.2 606 rfl, f1.2 608 rfl, (f1.1 606 rfl).2.2.1, (f1.1 608 rfl).2.2.1]
          exact this
        have l2 := lp_cnt (b := fun y : Int32 × St => x8_fillRow_B111 (jn k) (jn (ρ * W)) (if any then 1 else 0) (jn n) (jn (σ * W)) y.1 y.2) (fun i s => (jn i, s)) W
          (fun i z => fx [808] [] s z ∧ (∀ w, w < W → ∀ j, j < 64 → wb (gB z 808 (ρ * W + w)) j = fold any (if w < i then n + 1 else n) (64 * w + j)) ∧ ∀ x, (x < ρ * W ∨ ρ * W + W ≤ x) → gB z 808 x = gB s 808 x)
          (fun z => fx [808] [] s z ∧ (∀ w, w < W → ∀ j, j < 64 → wb (gB z 808 (ρ * W + w)) j = fold any (n + 1) (64 * w + j)) ∧ ∀ x, (x < ρ * W ∨ ρ * W + W ≤ x) → gB z 808 x = gB s 808 x) (by
            rintro i z hi ⟨f2, y1, y2⟩
            have far := row_far (W := W) σ2 hi
            have from_ : ∀ j, j < 64 → wb (gB z 808 (σ * W + i)) j = rwF tm H (kP tm k n) (64 * i + j) := fun j hj => by
              rw [y2 _ far]; exact σ4 i hi j hj
            have put : ∀ v : Int64, (∀ j, j < 64 → wb v j = fold any (n + 1) (64 * i + j)) → fx [808] [] s (sB z 808 (jn (ρ * W + i)) v) ∧ (∀ w, w < W → ∀ j, j < 64 → wb (gB (sB z 808 (jn (ρ * W + i)) v) 808 (ρ * W + w)) j = fold any (if w < i + 1 then n + 1 else n) (64 * w + j)) ∧ ∀ x, (x < ρ * W ∨ ρ * W + W ≤ x) → gB (sB z 808 (jn (ρ * W + i)) v) 808 x = gB s 808 x := by
              intro v hv
              refine ⟨f2.trans (fx_sB rfl), fun w hw j hj => ?_, fun x hx => ?_⟩
              · rw [gB_put (by omega)]
                by_cases e : w = i
                · subst e
                  rw [if_pos rfl, if_pos (by omega)]; exact hv j hj
                · rw [if_neg (by omega), y1 w hw j hj]
                  by_cases c : w < i
                  · rw [if_pos c, if_pos (by omega)]
                  · rw [if_neg c, if_neg (by omega)]
              · rw [gB_put (by omega), if_neg (by omega)]
                exact y2 x hx
            have here : ∀ j, j < 64 → wb (gB z 808 (ρ * W + i)) j = fold any n (64 * i + j) := fun j hj => by
              rw [y1 i hi j hj, if_neg (by omega)]
            have N8 : gN z 808 = gN s 808 := f2.2 808 rfl
            dsimp only
            unfold x8_fillRow_B111
            rw [(f2.1 804 rfl).1, t4, if_neg (nle hi (by omega)), jn_add, jn_add, N8, gd_jn (by omega) (by omega), gd_jn (by omega) (by omega), gd_jn (by omega) (by omega), gd_jn (by omega) (by omega), gd_jn (by omega) (by omega), gd_jn (by omega) (by omega), jn_cl (by omega), jn_cl (by omega)]
            simp only [nm, jn_s]
            cases any with
            | true =>
              rw [if_neg (show ¬ (if true = true then (1 : Int32) else 0) = 0 by decide)]
              refine ⟨_, rfl, put _ fun j hj => ?_⟩
              rw [wb_or, here j hj, from_ j hj]
              rfl
            | false =>
              rw [if_pos (show (if false = true then (1 : Int32) else 0) = 0 from rfl)]
              refine ⟨_, rfl, put _ fun j hj => ?_⟩
              rw [wb_and, here j hj, from_ j hj]
              show (!anyB _ n && _) = !(anyB _ n || !rwF tm H (kP tm k n) (64 * i + j))
              cases anyB (fun i_1 => !rwF tm H (kP tm k i_1) (64 * i + j)) n <;> cases rwF tm H (kP tm k n) (64 * i + j) <;> rfl) (by
            rintro z ⟨f2, y1, y2⟩
            refine ⟨z, ?_, f2, fun w hw j hj => by rw [y1 w hw j hj, if_pos hw], y2⟩
            dsimp only
            unfold x8_fillRow_B111
            rw [(f2.1 804 rfl).1, t4, if_pos (lee (by omega))]) 0 u (by omega) ⟨f1, fun w hw j hj => by rw [if_neg (by omega)]; exact v1 w hw j hj, v2⟩
        obtain ⟨z, k2, f2, y1, y2⟩ := l2
        refine ⟨z, ?_, f2, y1, y2⟩
        dsimp only
        unfold x8_fillRow_B72
        rw [f1.2 604 rfl, hf.2 604 b4, z4, g0, ck, (f1.1 604 rfl).2.2.1, A4, if_neg (nle hn (by omega)), po, bs, f1.2 812 rfl, h12, gd_jn (by omega) (by omega), jn_cl (by omega), (f1.1 812 rfl).2.2.1, σ3, (f1.1 804 rfl).1, t4, jn_mul]
        simp only [nm]
        rw [show lp (fun y : Int32 × St => x8_fillRow_B111 (jn k) (jn (ρ * W)) (if any then 1 else 0) (jn n) (jn (σ * W)) y.1 y.2) ((0 : Int32), u) = some z from k2, bs, jn_s]) (by
        rintro u ⟨f1, hu⟩
        refine ⟨u, ?_, f1, hu⟩
        dsimp only
        unfold x8_fillRow_B72
        rw [f1.2 604 rfl, hf.2 604 b4, z4, g0, ck, (f1.1 604 rfl).2.2.1, A4, if_pos (lee (by omega))]) 0 u0 (by omega) ⟨f0, v0, v0b⟩
    obtain ⟨u1, k1, f1, v1, v2⟩ := l1
    refine ⟨u1, ?_, f1, fun w hw j hj => ?_, v2⟩
    · unfold x8_fillRow_J30
      rw [show lp (fun y : Int32 × St => x8_fillRow_B34 (jn k) (jn (ρ * W)) (if any then 1 else 0) y.1 y.2) ((0 : Int32), s) = some u0 from k0, bs, show lp (fun y : Int32 × St => x8_fillRow_B72 (jn k) (jn (ρ * W)) (if any then 1 else 0) y.1 y.2) ((0 : Int32), u0) = some u1 from k1, bs]
    · rw [v1 w hw j hj]
      show _ = rch tm k (wd H (64 * w + j))
      rw [rch_eq hK hk, if_neg q]
      unfold kE
      cases any with
      | true =>
        rw [if_pos (hany.mp rfl), cnt_any]
        rfl
      | false =>
        have n1 : kS tm k ≠ 1 := fun e => by have := hany.mpr e; cases this
        rw [if_neg n1, if_neg q4, cnt_all]
        rfl
  unfold x8_fillRow
  rw [h12, g0, ck, hr, t4, jn_mul, hf.2 603 b3, z3]
  simp only [nm]
  rw [g0, A3]
  by_cases a1 : kS tm k = 1
  · rw [if_pos (show jn (kS tm k) = (1 : Int32) by rw [a1]; rfl)]
    exact go true ⟨fun _ => a1, fun _ => rfl⟩
  · rw [if_neg (jnl (x := 1) 1 rfl a1 (by omega) (by omega))]
    exact go false ⟨(by intro e; cases e), fun e => absurd e a1⟩
