/-! Events: the reference's table. -/
theorem m_first {tm t : St} {E T k : Nat} (h56 : gI t 56 = jn E) (hE : E ≤ 40) (h57 : gA t 57 = gA tm 57) (hk : k < 400) (hT : gA t 10 k = jn T) : ∀ m p, p + m = E → (lp (fun x => m_reachedOf_B11 t (jn k) x) (jn p)).bind (fun y38 => (Sum.elim (fun u41 => some (u41, t)) (fun _ => some ((99 : Int32), t))) y38) = some (jn (fe tm T m p), t) := by
  intro m
  induction m with
  | zero =>
    intro p hp
    rw [lp_r (y := .inr ()) (by unfold m_reachedOf_B11; rw [h56, if_pos ((jn_le (by omega) (by omega)).mpr (by omega))]), bs]
    rfl
  | succ m ih =>
    intro p hp
    unfold fe
    by_cases q : gA tm 57 p = jn T
    · rw [if_pos q, lp_r (y := .inl (jn p)) (by
        unfold m_reachedOf_B11
        rw [h56, if_neg (nle (by omega) (by omega)), gd_jn (by omega) (by omega), gd_jn hk (by omega), jn_cl (by omega), jn_cl (by omega), h57, hT, if_pos q]), bs]
      rfl
    · rw [if_neg q, lp_l (x := jn p) (x' := jn (p + 1)) (by
        unfold m_reachedOf_B11
        rw [h56, if_neg (nle (by omega) (by omega)), gd_jn (by omega) (by omega), gd_jn hk (by omega), jn_cl (by omega), jn_cl (by omega), h57, hT, if_neg q]
        simp only [nm, jn_s])]
      exact ih (p + 1) (by omega)
theorem foz_s (op : Nat → Nat → Nat) (z : Nat) (f : Nat → Nat) (n : Nat) : foz op z f (n + 1) = op (foz op z f n) (f n) := rfl
theorem V99 {E x : Nat} (h : EvV E x) (hE : E ≤ 40) : x ≤ 99 := by unfold EvV at h; omega
theorem m_row {tx tm s : St} (hK : RK tx tm) {E k p : Nat} (hE : E ≤ 40) (h56 : gI tm 56 = jn E) (hk : k < nK tm) (q : kS tm k ≠ 0) (hp : p ≤ E) (hf : fx [33, 59] [] tm s) (hv : ∀ j, j < k → ∀ x, x ≤ E → gA s 59 (42 * j + x) = jn (ev tm E j x)) : ∃ s', m_reachedOf_J63 s (jn k) (jn p) (jn p) (if kS tm k = 1 then 99 else 0) = some (jn (ev tm E k p), s') ∧ fx [33] [] s s' := by
  have h250 := nK_lt hK
  have hP := hK.2.2.1.2.1
  obtain ⟨s1, s2, s3, d1, d2, d3, h1, h2, h3, m1, m2, q1, q2⟩ := hK.2.2.2 k hk
  obtain ⟨e1, e2, e3, e4, e5, e7, e8, e6, -⟩ := q2 q
  have g4 : ∀ {α : Type} (x : Option α), gd (jn k) 400 x = x := fun x => gd_jn (by omega) (by omega)
  have ck : (jn k).toNatClampNeg = k := jn_cl (by omega)
  generalize hG : (fun (i : Nat) (x : Nat) => if E < x then 99 else ev tm E (kP tm k i) x) = G
  have Gp : ∀ i, G i p = ev tm E (kP tm k i) p := fun i => by rw [← hG]; exact if_neg (by omega)
  have GV : ∀ i x, i < kN tm k → EvV E (G i x) := by
    intro i x hi
    rw [← hG]
    dsimp only
    split
    · exact Or.inr rfl
    · exact ev_V hK hE _ x (by have := (e6 i hi).2.2; omega) (by omega)
  have chnb : ∀ i, i ≤ kN tm k → chn G p i ≤ 100 := by
    intro i hi
    cases i with
    | zero => show p ≤ 100; omega
    | succ i =>
      have := V99 (GV i (chn G p i) (by omega)) hE
      show G i (chn G p i) + 1 ≤ 100
      omega
  have l := lp_cnt (b := fun y : Int32 × Int32 × Int32 × St => m_reachedOf_B68 (jn k) (jn p) y.1 y.2.1 y.2.2.1 y.2.2.2) (fun i z => (z.1, z.2.1, jn i, z.2.2)) (kN tm k)
    (fun i z => fx [33] [] s z.2.2 ∧ z.1 = jn (if kS tm k = 2 then chn G p i else p) ∧ (kS tm k = 4 → ∀ j, j < i → gA z.2.2 33 j = jn (G j p)) ∧ (kS tm k = 1 → z.2.1 = jn (foz min 99 (fun i => G i p) i)) ∧ (kS tm k = 3 → z.2.1 = jn (foz max 0 (fun i => G i p) i)) ∧ (kS tm k = 2 → 1 ≤ i → z.2.1 = jn (chn G p i - 1)))
    (fun z => fx [33] [] s z.2 ∧ (kS tm k = 4 → ∀ j, j < kN tm k → gA z.2 33 j = jn (G j p)) ∧ (kS tm k = 1 → z.1 = jn (foz min 99 (fun i => G i p) (kN tm k))) ∧ (kS tm k = 3 → z.1 = jn (foz max 0 (fun i => G i p) (kN tm k))) ∧ (kS tm k = 2 → z.1 = jn (chn G p (kN tm k) - 1))) (by
      rintro i ⟨v3, v4, u⟩ hi ⟨f1, i1, i2, i3, i4, i5⟩
      dsimp only at f1 i1 i2 i3 i4 i5
      subst i1
      have ft : fx [33, 59] [] tm u := hf.trans (f1.wk rfl rfl)
      obtain ⟨w1, w2, w3⟩ := e6 i hi
      have fb : (if kS tm k = 2 then chn G p i else p) ≤ 100 := by
        split
        · exact chnb i (by omega)
        · omega
      generalize hfr : (if kS tm k = 2 then chn G p i else p) = fr at fb ⊢
      have Gb := V99 (GV i fr hi) hE
      have to116 : m_reachedOf_B68 (jn k) (jn p) (jn fr) v4 (jn i) u = m_reachedOf_J116 u (jn k) (jn p) v4 (jn i) (jn (G i fr)) := by
        unfold m_reachedOf_B68
        rw [g4, ck, (ft.1 12 rfl).2.2.1, m1, if_neg (nle hi (by omega)), (ft.1 56 rfl).1, h56]
        by_cases c : fr ≤ E
        · rw [if_pos ((jn_le (by omega) (by omega)).mpr c), g4, (ft.1 11 rfl).2.2.1, e3, jn_add, gd_jn (by omega) (by omega), jn_cl (by omega), (ft.1 14 rfl).2.2.1, w2, show (42 : Int32) = jn 42 from rfl, jn_mul, jn_add, gd_jn (by omega) (by omega), jn_cl (by omega), (f1.1 59 rfl).2.2.1, hv _ w3 fr c, ← hG]
          dsimp only
          rw [if_neg (show ¬ E < fr by omega)]
        · rw [if_neg (fun e => c ((jn_le (by omega) (by omega)).mp e)), ← hG]
          dsimp only
          rw [if_pos (show E < fr by omega)]
          rfl
      dsimp only
      rw [to116]
      have b8 : ∀ w, gA (sA u 33 (jn i) w) 8 k = jn (kS tm k) := by
        intro w
        show gA u 8 k = _
        rw [(ft.1 8 rfl).2.2.1, s1]
      have ii : ∀ V, (kS tm k = 1 → V = jn (foz min 99 (fun i => G i p) (i + 1))) → (kS tm k = 3 → V = jn (foz max 0 (fun i => G i p) (i + 1))) → (kS tm k = 2 → V = jn (chn G p (i + 1) - 1)) → ∃ z' : Int32 × Int32 × St, m_reachedOf_J183 (sA u 33 (jn i) (jn (G i fr))) (jn k) (jn p) (jn i) (jn (G i fr)) V = some (.inl (z'.1, z'.2.1, jn (i + 1), z'.2.2)) ∧ fx [33] [] s z'.2.2 ∧ z'.1 = jn (if kS tm k = 2 then chn G p (i + 1) else p) ∧ (kS tm k = 4 → ∀ j, j < i + 1 → gA z'.2.2 33 j = jn (G j p)) ∧ (kS tm k = 1 → z'.2.1 = jn (foz min 99 (fun i => G i p) (i + 1))) ∧ (kS tm k = 3 → z'.2.1 = jn (foz max 0 (fun i => G i p) (i + 1))) ∧ (kS tm k = 2 → 1 ≤ i + 1 → z'.2.1 = jn (chn G p (i + 1) - 1)) := by
        intro V h1 h3 h2
        refine ⟨(jn (if kS tm k = 2 then chn G p (i + 1) else p), V, sA u 33 (jn i) (jn (G i fr))), ?_, f1.trans (fx_sA rfl), rfl, fun a4 j hj => ?_, h1, h3, fun a _ => h2 a⟩
        · unfold m_reachedOf_J183
          rw [g4, ck, b8]
          by_cases a2 : kS tm k = 2
          · rw [if_pos (show jn (kS tm k) = (2 : Int32) by rw [a2]; rfl)]
            simp only [nm, jn_s]
            rw [if_pos a2, ← hfr, if_pos a2]
            rfl
          · rw [if_neg (jnl (x := 2) 2 rfl a2 (by omega) (by omega))]
            simp only [nm, jn_s]
            rw [if_neg a2]
        · show gA (sA u 33 (jn i) _) 33 j = _
          rw [gA_sA, jn_cl (by omega)]
          by_cases e : j = i
          · subst e
            rw [upd_at, ← hfr, if_neg (by omega)]
          · rw [upd_ne e]; exact i2 a4 j (by omega)
      unfold m_reachedOf_J116
      rw [gd_jn (by omega) (by omega)]
      simp only [nm]
      rw [g4, ck, b8]
      by_cases a1 : kS tm k = 1
      · have fre : fr = p := by rw [← hfr, if_neg (by omega)]
        have hvv := i3 a1
        have fb2 := V99 (fozmin_V (E := E) (f := fun i => G i p) (n := i) (fun j hj => GV j p (by omega))) hE
        rw [if_pos (show jn (kS tm k) = (1 : Int32) by rw [a1]; rfl), hvv]
        have gfr : G i fr = G i p := by rw [fre]
        by_cases c : foz min 99 (fun i => G i p) i ≤ G i fr
        · rw [if_pos ((jn_le (by omega) (by omega)).mpr c)]
          rw [gfr] at c
          exact ii _ (fun _ => by rw [foz_s, Nat.min_eq_left c]) (fun a => by omega) (fun a => by omega)
        · rw [if_neg (fun e => c ((jn_le (by omega) (by omega)).mp e))]
          exact ii _ (fun _ => by rw [foz_s, Nat.min_eq_right (show G i p ≤ foz min 99 (fun i => G i p) i by omega), gfr]) (fun a => by omega) (fun a => by omega)
      · rw [if_neg (jnl (x := 1) 1 rfl a1 (by omega) (by omega)), g4]
        by_cases a3 : kS tm k = 3
        · have fre : fr = p := by rw [← hfr, if_neg (by omega)]
          have hvv := i4 a3
          have fb2 : foz max 0 (fun i => G i p) i ≤ 99 := by
            have : ∀ j, j ≤ kN tm k → foz max 0 (fun i => G i p) j ≤ 99 := by
              intro j
              induction j with
              | zero => intro _; exact Nat.zero_le _
              | succ j ih =>
                intro hj
                have := ih (by omega)
                have := V99 (GV j p (by omega)) hE
                show max (foz max 0 (fun i => G i p) j) (G j p) ≤ 99
                omega
            exact this i (by omega)
          rw [if_pos (show jn (kS tm k) = (3 : Int32) by rw [a3]; rfl), hvv]
          have gfr : G i fr = G i p := by rw [fre]
          by_cases c : G i fr ≤ foz max 0 (fun i => G i p) i
          · rw [if_pos ((jn_le (by omega) (by omega)).mpr c)]
            rw [gfr] at c
            exact ii _ (fun a => by omega) (fun _ => by rw [foz_s, Nat.max_eq_left c]) (fun a => by omega)
          · rw [if_neg (fun e => c ((jn_le (by omega) (by omega)).mp e))]
            exact ii _ (fun a => by omega) (fun _ => by rw [foz_s, Nat.max_eq_right (show foz max 0 (fun i => G i p) i ≤ G i p by omega), gfr]) (fun a => by omega)
        · rw [if_neg (jnl (x := 3) 3 rfl a3 (by omega) (by omega))]
          refine ii _ (fun a => by omega) (fun a => by omega) (fun a2 => ?_)
          show jn (G i fr) = jn (G i (chn G p i) + 1 - 1)
          rw [← hfr, if_pos a2]
          rfl) (by
      rintro ⟨v3, v4, u⟩ ⟨f1, i1, i2, i3, i4, i5⟩
      have ft : fx [33, 59] [] tm u := hf.trans (f1.wk rfl rfl)
      refine ⟨(v4, u), ?_, f1, i2, i3, i4, fun a => i5 a e2⟩
      dsimp only
      unfold m_reachedOf_B68
      rw [g4, ck, (ft.1 12 rfl).2.2.1, m1, if_pos (lee (by omega))]) 0 (jn p, (if kS tm k = 1 then 99 else 0), s) (by omega) ⟨fx.rfl, by
        show jn p = jn _
        split
        · rfl
        · rfl, (fun _ j hj => absurd hj (by omega)), (fun a => by show (if kS tm k = 1 then (99 : Int32) else 0) = _; rw [if_pos a]; rfl), (fun a => by show (if kS tm k = 1 then (99 : Int32) else 0) = _; rw [if_neg (by omega)]; rfl), fun _ h => absurd h (by omega)⟩
  obtain ⟨⟨v, u⟩, k1, k2, k3, k4, k5, k6⟩ := l
  dsimp only at k2 k3 k4 k5 k6
  have ft : fx [33, 59] [] tm u := hf.trans (k2.wk rfl rfl)
  unfold m_reachedOf_J63
  rw [show ((jn p, (if kS tm k = 1 then (99 : Int32) else 0), (0 : Int32), s) : Int32 × Int32 × Int32 × St) = (jn p, (if kS tm k = 1 then (99 : Int32) else 0), jn 0, s) from rfl, k1, bs, g4]
  dsimp only
  rw [ck, (ft.1 8 rfl).2.2.1, s1, ev_eq hK hk, if_neg q]
  have Ge : ∀ i, i < kN tm k → G i p = ev tm E (kP tm k i) p := fun i _ => Gp i
  by_cases a4 : kS tm k = 4
  · rw [if_pos (show jn (kS tm k) = (4 : Int32) by rw [a4]; rfl), g4, g4, (ft.1 12 rfl).2.2.1, m1, (ft.1 9 rfl).2.2.1, d1, show jn (kD tm k) - 1 = jn (kD tm k - 1) from jn_sub (a := kD tm k) (b := 1) (e7 a4).1]
    obtain ⟨w, s', j1, j2, j3⟩ := m_sorted_eq (t := u) (n := kN tm k) (by omega) (w := kD tm k - 1) (by have := e7 a4; omega)
    refine ⟨s', ?_, k2.trans j2⟩
    rw [j1, bs, if_neg (by omega), if_neg (by omega), if_neg (by omega)]
    have := kth_uniq (kth_cong (g := fun i => jn (ev tm E (kP tm k i) p)) (fun i hi => by rw [k3 a4 i hi, Ge i hi]) j3) (fk_kth (f := fun i => ev tm E (kP tm k i) p) (by have := e7 a4; omega) (fun i hi => by
      have := V99 (GV i p hi) hE
      rw [Ge i hi] at this
      exact this))
    rw [this]
  · refine ⟨u, ?_, k2⟩
    rw [if_neg (jnl (x := 4) 4 rfl a4 (by omega) (by omega))]
    by_cases a1 : kS tm k = 1
    · rw [if_pos a1, k4 a1, foz_cong Ge]
    · rw [if_neg a1]
      by_cases a2 : kS tm k = 2
      · rw [if_pos a2, k6 a2, ← hG]
      · rw [if_neg a2, if_pos (by omega), k5 (by omega), foz_cong Ge]
theorem m_reachedOf_eq {tx tm s : St} (hK : RK tx tm) {E k p : Nat} (hE : E ≤ 40) (h56 : gI tm 56 = jn E) (hk : k < nK tm) (hp : p ≤ E) (hf : fx [33, 59] [] tm s) (hv : ∀ j, j < k → ∀ x, x ≤ E → gA s 59 (42 * j + x) = jn (ev tm E j x)) : ∃ s', m_reachedOf s (jn k) (jn p) = some (jn (ev tm E k p), s') ∧ fx [33] [] s s' := by
  have h250 := nK_lt hK
  obtain ⟨s1, s2, s3, d1, d2, d3, h1, h2, h3, m1, m2, q1, q2⟩ := hK.2.2.2 k hk
  have g4 : ∀ {α : Type} (x : Option α), gd (jn k) 400 x = x := fun x => gd_jn (by omega) (by omega)
  have ck : (jn k).toNatClampNeg = k := jn_cl (by omega)
  unfold m_reachedOf
  rw [g4, ck, (hf.1 8 rfl).2.2.1, s1]
  by_cases q : kS tm k = 0
  · rw [if_pos (show jn (kS tm k) = 0 by rw [q]; rfl)]
    refine ⟨s, ?_, fx.rfl⟩
    rw [ev_eq hK hk, if_pos q]
    exact m_first ((hf.1 56 rfl).1.trans h56) hE (hf.1 57 rfl).2.2.1 (by omega) ((congrFun (hf.1 10 rfl).2.2.1 k).trans (q1 q).1) (E - p) p (by omega)
  · obtain ⟨s', k1, k2⟩ := m_row hK hE h56 hk q hp hf hv
    refine ⟨s', ?_, k2⟩
    rw [if_neg (jn_nz q (by omega)), g4]
    by_cases a1 : kS tm k = 1
    · rw [if_pos a1] at k1
      rw [if_pos (show jn (kS tm k) = (1 : Int32) by rw [a1]; rfl)]
      exact k1
    · rw [if_neg a1] at k1
      rw [if_neg (jnl (x := 1) 1 rfl a1 (by omega) (by omega))]
      exact k1
