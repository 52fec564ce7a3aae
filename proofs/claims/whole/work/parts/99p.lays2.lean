/-! So-many-of: counted for 64 sets at once; the whole row of a knot. -/
theorem word_many {tx t : St} (hK : RK tx t) {k w : Nat} (hk : k < nK t) (hw : w < 1024) (hs4 : kS t k = 4) (hp : ∀ i j, i < kN t k → j < 64 → wb (gB t 17 (1024 * kP t k i + w)) j = rch t (kP t k i) (64 * w + j)) : ∃ v t', m_wordOf t (jn k) (jn w) = some (v, t') ∧ fx [27] [] t t' ∧ ∀ j, j < 64 → wb v j = decide (kE t k ≤ cntB (fun i => rch t (kP t k i) (64 * w + j)) (kN t k)) := by
  have h250 := nK_lt hK
  obtain ⟨-, -, ⟨p1, p2, p3, p4, p5, p6⟩, hall⟩ := hK
  obtain ⟨s1, s2, s3, d1, d2, d3, h1, h2, h3, m1, m2, q1, q2⟩ := hall k hk
  obtain ⟨e1, e2, e3, e4, e5, e7, -, e6, -⟩ := q2 (by omega)
  obtain ⟨e71, e72, e73⟩ := e7 hs4
  have g4 : ∀ {α : Type} (x : Option α), gd (jn k) 400 x = x := fun x => gd_jn (by omega) (by omega)
  have ck : (jn k).toNatClampNeg = k := jn_cl (by omega)
  have gB_sB : ∀ (s : St) (q : Nat) (v : Int64) (r : Nat), q < 9 → gB (sB s 27 (jn q) v) 27 r = if r = q then v else gB s 27 r := by
    intro s q v r hq
    show (va_up s.2.2.2.1 27 (vp_updL (gB s 27) (jn q).toNatClampNeg v)) 27 r = _
    rw [up_at, jn_cl (by omega)]
    rfl
  -- first: 0 of none
  have l0 := lp_cnt (b := fun x : Int32 × St => m_wordOf_B30 (jn k) (jn w) (jn (kF t k)) (jn (kF t k + kN t k)) x.1 x.2) (fun i s => (jn i, s)) 9
    (fun n s => fx [27] [] t s ∧ ∀ q, q < n → gB s 27 q = if q = 0 then -1 else 0)
    (fun s => fx [27] [] t s ∧ ∀ q, q < 9 → gB s 27 q = if q = 0 then -1 else 0) (by
      rintro i s hi ⟨hf, k1⟩
      dsimp only
      unfold m_wordOf_B30 m_wordOf_J55
      have q : ¬ (9 : Int32) ≤ jn i := fun e => by have := (jn_le (a := 9) (by omega) (by omega)).mp e; omega
      rw [if_neg q]
      by_cases e : i = 0
      · subst e
        rw [if_pos (show jn 0 = 0 from rfl), gd_jn (by omega) (by omega)]
        simp only [nm, jn_s]
        refine ⟨_, rfl, hf.trans (fx_sB rfl), ?_⟩
        intro q hq
        rw [gB_sB s 0 _ q (by omega)]
        have : q = 0 := by omega
        rw [if_pos this, if_pos this]
      · rw [if_neg (jn_nz e (by omega)), gd_jn (by omega) (by omega)]
        simp only [nm, jn_s]
        refine ⟨_, rfl, hf.trans (fx_sB rfl), ?_⟩
        intro q hq
        rw [gB_sB s i _ q (by omega)]
        by_cases e2 : q = i
        · rw [if_pos e2, if_neg (by omega)]
        · rw [if_neg e2]
          exact k1 q (by omega)) (by
      rintro s hs
      exact ⟨s, by dsimp only; unfold m_wordOf_B30; rw [if_pos (by decide)], hs⟩) 0 t (by omega) ⟨fx.rfl, fun q hq => absurd hq (by omega)⟩
  obtain ⟨t1, k1, f1, v1⟩ := l0
  -- one more part
  have one : ∀ (v : Int64) (v5 : Int32) (s : St), ∀ n, n ≤ 8 → ∃ s', lp (fun x : Int32 × St => m_wordOf_B96 (jn k) (jn w) (jn (kF t k + kN t k)) v5 v x.1 x.2) (jn n, s) = some s' ∧ fx [27] [] s s' ∧ ∀ q, gB s' 27 q = if 1 ≤ q ∧ q ≤ n then gB s 27 q ||| (gB s 27 (q - 1) &&& v) else gB s 27 q := by
    intro v v5 s n
    induction n generalizing s with
    | zero =>
      intro _
      exact ⟨s, lp_r (by dsimp only; unfold m_wordOf_B96; rw [if_pos (by decide)]), fx.rfl, fun q => by rw [if_neg (by omega)]⟩
    | succ n ih =>
      intro hn
      have b : (fun x : Int32 × St => m_wordOf_B96 (jn k) (jn w) (jn (kF t k + kN t k)) v5 v x.1 x.2) (jn (n + 1), s) = some (.inl (jn n, sB s 27 (jn (n + 1)) (gB s 27 (n + 1) ||| (gB s 27 n &&& v)))) := by
        dsimp only
        unfold m_wordOf_B96
        have q : ¬ jn (n + 1) ≤ 0 := fun e => by have := (jn_le (b := 0) (by omega) (by omega)).mp e; omega
        rw [if_neg q, gd_jn (by omega) (by omega), show jn (n + 1) - 1 = jn n from jn_sub (a := n + 1) (b := 1) (by omega), gd_jn (by omega) (by omega), gd_jn (by omega) (by omega), jn_cl (by omega), jn_cl (by omega)]
        have : jn (n + 1) + -1 = jn n := by
          rw [show jn (n + 1) = jn n + 1 from (jn_add n 1).symm, Int32.add_assoc]
          exact Int32.add_zero _
        simp only [nm, this]
      rw [lp_l b]
      obtain ⟨s', j1, j2, j3⟩ := ih (sB s 27 (jn (n + 1)) (gB s 27 (n + 1) ||| (gB s 27 n &&& v))) (by omega)
      refine ⟨s', j1, (fx_sB rfl).trans j2, fun q => ?_⟩
      rw [j3 q]
      by_cases a : 1 ≤ q ∧ q ≤ n
      · rw [if_pos a, if_pos (by omega), gB_sB _ _ _ _ (by omega), if_neg (by omega), gB_sB _ _ _ _ (by omega), if_neg (by omega)]
      · rw [if_neg a, gB_sB _ _ _ _ (by omega)]
        by_cases e : q = n + 1
        · subst e
          rw [if_pos rfl, if_pos (by omega)]
          rfl
        · rw [if_neg e, if_neg (by omega)]
  -- over the parts
  have loop : ∀ m i (s : St), i + m = kN t k → fx [27] [] t s → (∀ q j, q < 9 → j < 64 → wb (gB s 27 q) j = decide (q ≤ cntB (fun i => rch t (kP t k i) (64 * w + j)) i)) → ∃ s', lp (fun x : Int32 × St => m_wordOf_B65 (jn k) (jn w) (jn (kF t k + kN t k)) x.1 x.2) (jn (kF t k + i), s) = some s' ∧ fx [27] [] t s' ∧ ∀ q j, q < 9 → j < 64 → wb (gB s' 27 q) j = decide (q ≤ cntB (fun i => rch t (kP t k i) (64 * w + j)) (kN t k)) := by
    intro m
    induction m with
    | zero =>
      intro i s hi hf hv
      have : i = kN t k := by omega
      subst this
      exact ⟨s, lp_r (by dsimp only; unfold m_wordOf_B65; rw [if_pos (lee (by omega))]), hf, hv⟩
    | succ m ih =>
      intro i s hi hf hv
      have hi2 : i < kN t k := by omega
      obtain ⟨x1, x2, x3⟩ := e6 i hi2
      obtain ⟨s', j1, j2, j3⟩ := one (gB t 17 (1024 * kP t k i + w)) (jn (kF t k + i)) s 8 (by omega)
      have b : (fun x : Int32 × St => m_wordOf_B65 (jn k) (jn w) (jn (kF t k + kN t k)) x.1 x.2) (jn (kF t k + i), s) = some (.inl (jn (kF t k + (i + 1)), s')) := by
        dsimp only
        unfold m_wordOf_B65
        rw [if_neg (nle (by omega) (by omega)), gd_jn (by omega) (by omega), jn_cl (by omega), (hf.1 14 rfl).2.2.1, x2, show (1024 : Int32) = jn 1024 from rfl, jn_mul, jn_add, gd_jn (by omega) (by omega), jn_cl (by omega), (hf.1 17 rfl).2.2.2]
        simp only [nm]
        rw [show (8 : Int32) = jn 8 from rfl, j1, bs, show jn (kF t k + i) + 1 = jn (kF t k + (i + 1)) from jn_add (kF t k + i) 1]
      rw [lp_l b]
      refine ih (i + 1) s' (by omega) (hf.trans j2) ?_
      intro q j hq hj
      rw [j3 q, cnt_s]
      by_cases a : 1 ≤ q ∧ q ≤ 8
      · rw [if_pos a, wb_or, wb_and, hv q j hq hj, hv (q - 1) j (by omega) hj, hp i j hi2 hj]
        cases rch t (kP t k i) (64 * w + j)
        · simp
        · have : (q ≤ cntB (fun i => rch t (kP t k i) (64 * w + j)) i + 1) ↔ (q ≤ cntB (fun i => rch t (kP t k i) (64 * w + j)) i ∨ q - 1 ≤ cntB (fun i => rch t (kP t k i) (64 * w + j)) i) := by omega
          rw [Bool.and_true, ← Bool.decide_or]
          exact decide_eq_decide.mpr this.symm
      · have : q = 0 := by omega
        subst this
        rw [if_neg a, hv 0 j hq hj]
        simp
  obtain ⟨t2, k2, f2, v2⟩ := loop (kN t k) 0 t1 (by omega) f1 (fun q j hq hj => by
    rw [v1 q hq]
    by_cases e : q = 0
    · subst e
      rw [if_pos rfl, wb_m1 hj]
      simp
    · rw [if_neg e, wb_0]
      have : ¬ q ≤ cntB (fun i => rch t (kP t k i) (64 * w + j)) 0 := by
        show ¬ q ≤ 0
        omega
      simp [this])
  refine ⟨gB t2 27 (kD t k), t2, ?_, f2, fun j hj => ?_⟩
  · unfold m_wordOf
    simp only [nm, g4, ck]
    rw [s1, hs4, if_pos (by decide), e3, m1, jn_add, show (0 : Int32) = jn 0 from rfl, k1, bs, show jn (kF t k) = jn (kF t k + 0) from rfl, k2, bs, (f2.1 9 rfl).2.2.1, d1, gd_jn (by omega) (by omega), jn_cl (by omega)]
  · rw [v2 (kD t k) j (by omega) hj]
    unfold kE
    rw [if_neg (by omega), if_pos hs4]
theorem word_any {tx t : St} (hK : RK tx t) {k w : Nat} (hk : k < nK t) (hw : w < 1024) (hs0 : kS t k ≠ 0) (hp : ∀ i j, i < kN t k → j < 64 → wb (gB t 17 (1024 * kP t k i + w)) j = rch t (kP t k i) (64 * w + j)) : ∃ v t', m_wordOf t (jn k) (jn w) = some (v, t') ∧ fx [27] [] t t' ∧ ∀ j, j < 64 → wb v j = rch t k (64 * w + j) := by
  by_cases q : kS t k = 4
  · obtain ⟨v, t', k1, k2, k3⟩ := word_many hK hk hw q hp
    exact ⟨v, t', k1, k2, fun j hj => by rw [k3 j hj, rch_eq hK hk, if_neg hs0]⟩
  · obtain ⟨v, k1, k3⟩ := word_row hK hk hw hs0 q hp
    exact ⟨v, t, k1, fx.rfl, fun j hj => by rw [k3 j hj, rch_eq hK hk, if_neg hs0]⟩
theorem m_lays_eq {tx t : St} (hK : RK tx t) {k : Nat} (hk : k < nK t) (hR : RRp t k) : ∃ t', m_lays t (jn k) = some t' ∧ fx [17, 18, 27] [] t t' ∧ RRp t' (k + 1) ∧ ∀ j, gA t' 18 j = if j = k then -1 else gA t 18 j := by
  have h250 := nK_lt hK
  have hall := hK.2.2.2
  obtain ⟨s1, s2, s3, d1, d2, d3, h1, h2, h3, m1, m2, q1, q2⟩ := hall k hk
  have g4 : ∀ {α : Type} (x : Option α), gd (jn k) 400 x = x := fun x => gd_jn (by omega) (by omega)
  have ck : (jn k).toNatClampNeg = k := jn_cl (by omega)
  generalize ht0 : sA t 18 (jn k) (-1) = t0
  have f0 : fx [18] [] t t0 := by subst ht0; exact fx_sA rfl
  have a18 : ∀ j, gA t0 18 j = if j = k then -1 else gA t 18 j := by
    subst ht0
    intro j
    rw [gA_sA, ck]
    by_cases e : j = k
    · subst e; rw [upd_at, if_pos rfl]
    · rw [upd_ne e, if_neg e]
  have rt : ∀ s, fx [17, 18, 27] [] t s → rch s = rch t := fun s f => rch_to (f.1 8 rfl).2.2.1 (f.1 9 rfl).2.2.1 (f.1 10 rfl).2.2.1 (f.1 11 rfl).2.2.1 (f.1 12 rfl).2.2.1 (f.1 14 rfl).2.2.1
  -- the loop over the words
  have loop : ∀ (pat : Int64), (kS t k = 0 → kT t k < 6 → ∀ j, j < 64 → wb pat j = j.testBit (kT t k)) → ∃ t', m_lays_J40 t0 (jn k) pat = some t' ∧ fx [17, 27] [] t0 t' ∧ RRp t' (k + 1) := by
    intro pat hpat
    have l := lp_cnt (b := fun x : Int32 × St => m_lays_B44 (jn k) pat x.1 x.2) (fun i s => (jn i, s)) 1024
      (fun n s => fx [17, 27] [] t0 s ∧ (∀ w j, w < n → j < 64 → wb (gB s 17 (1024 * k + w)) j = rch t k (64 * w + j)) ∧ ∀ q, q < 1024 * k → gB s 17 q = gB t 17 q)
      (fun s => fx [17, 27] [] t0 s ∧ (∀ w j, w < 1024 → j < 64 → wb (gB s 17 (1024 * k + w)) j = rch t k (64 * w + j)) ∧ ∀ q, q < 1024 * k → gB s 17 q = gB t 17 q) (by
        rintro w s hw ⟨hf, v1, v2⟩
        have ft : fx [17, 18, 27] [] t s := (f0.wk rfl rfl).trans (hf.wk rfl rfl)
        have b8 : gA s 8 = gA t 8 := (ft.1 8 rfl).2.2.1
        have b10 : gA s 10 = gA t 10 := (ft.1 10 rfl).2.2.1
        -- a word is laid
        have lay : ∀ (s2 : St) (v : Int64), fx [27] [] s s2 → (∀ j, j < 64 → wb v j = rch t k (64 * w + j)) → ∃ s', m_lays_J120 s2 (jn k) pat (jn w) (jn (1024 * k + w)) v = some (.inl (jn (w + 1), s')) ∧ fx [17, 27] [] t0 s' ∧ (∀ w1 j, w1 < w + 1 → j < 64 → wb (gB s' 17 (1024 * k + w1)) j = rch t k (64 * w1 + j)) ∧ ∀ q, q < 1024 * k → gB s' 17 q = gB t 17 q := by
          intro s2 v hf2 hv
          unfold m_lays_J120
          rw [gd_jn (by omega) (by omega)]
          simp only [nm, jn_s]
          have gb : ∀ r, gB (sB s2 17 (jn (1024 * k + w)) v) 17 r = if r = 1024 * k + w then v else gB s 17 r := by
            intro r
            show (va_up s2.2.2.2.1 17 (vp_updL (gB s2 17) (jn (1024 * k + w)).toNatClampNeg v)) 17 r = _
            rw [up_at, jn_cl (by omega), (hf2.1 17 rfl).2.2.2]
            rfl
          refine ⟨_, rfl, (hf.trans (hf2.wk rfl rfl)).trans (fx_sB rfl), ?_, ?_⟩
          · intro w1 j hw1 hj
            rw [gb]
            by_cases e : w1 = w
            · subst e; rw [if_pos rfl]; exact hv j hj
            · rw [if_neg (by omega)]; exact v1 w1 j (by omega) hj
          · intro q hq
            rw [gb, if_neg (by omega)]
            exact v2 q hq
        dsimp only
        unfold m_lays_B44
        have q : ¬ (1024 : Int32) ≤ jn w := fun e => by have := (jn_le (a := 1024) (by omega) (by omega)).mp e; omega
        rw [if_neg q, show (1024 : Int32) = jn 1024 from rfl, jn_mul, jn_add]
        simp only [g4, ck]
        rw [b8, b10, s1]
        by_cases z : kS t k = 0
        · obtain ⟨t1, t2, -⟩ := q1 z
          rw [z, if_pos (show jn 0 = 0 from rfl), t1]
          have er : ∀ j, rch t k (64 * w + j) = (64 * w + j).testBit (kT t k) := fun j => by rw [rch_eq hK hk, if_pos z]
          by_cases y : 6 ≤ kT t k
          · have y' : (6 : Int32) ≤ jn (kT t k) := (jn_le (a := 6) (by omega) (by omega)).mpr y
            rw [if_pos y', isIn_eq s hw y (by omega), bs]
            cases hb : w.testBit (kT t k - 6) with
            | true =>
              rw [if_neg (show ¬ b01 true = 0 by decide)]
              exact lay s (-1) fx.rfl (fun j hj => by rw [wb_m1 hj, er, tb_high hj y, hb])
            | false =>
              rw [if_pos (show b01 false = 0 from rfl)]
              exact lay s 0 fx.rfl (fun j hj => by rw [wb_0, er, tb_high hj y, hb])
          · have y' : ¬ (6 : Int32) ≤ jn (kT t k) := fun e => y ((jn_le (a := 6) (by omega) (by omega)).mp e)
            rw [if_neg y']
            exact lay s pat fx.rfl (fun j hj => by rw [hpat z (by omega) j hj, er, tb_low hj (by omega)])
        · rw [if_neg (jn_nz z (by omega))]
          have hKs : RK tx s := hK.fr (S := []) (T := []) fx.rfl ft
          have eK : nK s = nK t := by unfold nK; rw [(ft.1 7 rfl).1]
          have eP : ∀ i, kP s k i = kP t k i := fun i => by unfold kP kF; rw [(ft.1 14 rfl).2.2.1, (ft.1 11 rfl).2.2.1]
          have eN : kN s k = kN t k := by unfold kN; rw [(ft.1 12 rfl).2.2.1]
          have eS : kS s k = kS t k := by unfold kS; rw [b8]
          obtain ⟨v, s2, j1, j2, j3⟩ := word_any hKs (k := k) (w := w) (by rw [eK]; exact hk) hw (by rw [eS]; exact z) (fun i j hi hj => by
            rw [eP, rt s ft]
            rw [eN] at hi
            have hp := kP_lt hK hk z hi
            rw [v2 _ (by omega)]
            exact hR _ w j hp hw hj)
          rw [j1, bs]
          exact lay s2 v j2 (fun j hj => by rw [j3 j hj, rt s ft])) (by
        rintro s hs
        exact ⟨s, by dsimp only; unfold m_lays_B44; rw [if_pos (by decide)], hs⟩) 0 t0 (by omega) ⟨fx.rfl, fun w j hw => absurd hw (by omega), fun q _ => by rw [(f0.1 17 rfl).2.2.2]⟩
    obtain ⟨t', k1, f1, v1, v2⟩ := l
    refine ⟨t', by unfold m_lays_J40; rw [show (0 : Int32) = jn 0 from rfl, k1, bs], f1, ?_⟩
    intro k' w j hk' hw hj
    rw [rt t' ((f0.wk rfl rfl).trans (f1.wk rfl rfl))]
    by_cases e : k' = k
    · subst e
      exact v1 w j hw hj
    · rw [v2 _ (by omega)]
      exact hR k' w j (by omega) hw hj
  have fin : ∀ t', fx [17, 27] [] t0 t' → (fx [17, 18, 27] [] t t' ∧ ∀ j, gA t' 18 j = if j = k then -1 else gA t 18 j) := fun t' f => ⟨(f0.wk rfl rfl).trans (f.wk rfl rfl), fun j => by rw [(f.1 18 rfl).2.2.1]; exact a18 j⟩
  unfold m_lays
  rw [gd_jn (by omega) (by omega)]
  simp only [nm, g4, ck]
  rw [ht0, (f0.1 8 rfl).2.2.1, (f0.1 10 rfl).2.2.1, s1]
  unfold m_lays_J39
  by_cases z : kS t k = 0
  · obtain ⟨t1, t2, -⟩ := q1 z
    rw [z, if_pos (show jn 0 = 0 from rfl), t1]
    by_cases y : 6 ≤ kT t k
    · have y' : (6 : Int32) ≤ jn (kT t k) := (jn_le (a := 6) (by omega) (by omega)).mpr y
      rw [if_pos y']
      obtain ⟨t', j1, j2, j3⟩ := loop 0 (fun _ h => absurd h (by omega))
      exact ⟨t', j1, (fin t' j2).1, j3, (fin t' j2).2⟩
    · have y' : ¬ (6 : Int32) ≤ jn (kT t k) := fun e => y ((jn_le (a := 6) (by omega) (by omega)).mp e)
      rw [if_neg y']
      obtain ⟨v, p1, p2⟩ := pattern_eq t0 (s := kT t k) (by omega)
      rw [p1, bs]
      obtain ⟨t', j1, j2, j3⟩ := loop v (fun _ _ j hj => p2 j hj)
      exact ⟨t', j1, (fin t' j2).1, j3, (fin t' j2).2⟩
  · rw [if_neg (jn_nz z (by omega))]
    obtain ⟨t', j1, j2, j3⟩ := loop 0 (fun h => absurd h z)
    exact ⟨t', j1, (fin t' j2).1, j3, (fin t' j2).2⟩
