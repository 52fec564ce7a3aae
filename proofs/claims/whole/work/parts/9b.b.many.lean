/-! The least time with many hands. -/
def opS (s : Nat) (v x : Int32) : Int32 := if s = 2 then v + x else if s = 1 then (if x < v then x else v) else (if v < x then x else v)
def fo (op : Int32 → Int32 → Int32) (f : Nat → Int32) : Nat → Int32
  | 0 => f 0
  | n + 1 => op (fo op f n) (f (n + 1))
def TvOk (tm : St) (arr : Nat → Int32) (k : Nat) : Prop := if kS tm k = 0 then arr k = gA tm 1 (kT tm k) else if kS tm k = 4 then Kth (fun i => arr (kP tm k i)) (kN tm k) (kD tm k - 1) (arr k) else arr k = fo (opS (kS tm k)) (fun i => arr (kP tm k i)) (kN tm k - 1)
theorem fo_cong {op : Int32 → Int32 → Int32} {f g : Nat → Int32} {n : Nat} (h : ∀ i, i ≤ n → f i = g i) : fo op f n = fo op g n := by
  induction n with
  | zero => exact h 0 (Nat.le_refl _)
  | succ n ih =>
    show op (fo op f n) (f (n + 1)) = op (fo op g n) (g (n + 1))
    rw [ih (fun i hi => h i (by omega)), h (n + 1) (Nat.le_refl _)]
theorem tv_cong {tx tm : St} (hK : RK tx tm) {a b : Nat → Int32} {k : Nat} (hk : k < nK tm) (e : ∀ j, j ≤ k → a j = b j) (h : TvOk tm a k) : TvOk tm b k := by
  unfold TvOk at *
  by_cases q : kS tm k = 0
  · rw [if_pos q] at h ⊢
    rw [← e k (Nat.le_refl _)]; exact h
  · have hp : ∀ i, i < kN tm k → a (kP tm k i) = b (kP tm k i) := fun i hi => e _ (Nat.le_of_lt (kP_lt hK hk q hi))
    rw [if_neg q] at h ⊢
    by_cases q4 : kS tm k = 4
    · rw [if_pos q4] at h ⊢
      rw [← e k (Nat.le_refl _)]
      exact kth_cong hp h
    · rw [if_neg q4] at h ⊢
      have n2 : 2 ≤ kN tm k := (((hK.2.2.2 k hk).2.2.2.2.2.2.2.2.2.2.2.2 q).2.2.2.2.2.2.1 q4).1
      rw [← e k (Nat.le_refl _), h]
      exact fo_cong fun i hi => hp i (by omega)
theorem tv_uniq {tx tm : St} (hK : RK tx tm) {a b : Nat → Int32} {K : Nat} (hK2 : K ≤ nK tm) (ha : ∀ k, k < K → TvOk tm a k) (hb : ∀ k, k < K → TvOk tm b k) : ∀ k, k < K → a k = b k := by
  intro k
  induction k using Nat.strongRecOn with
  | _ k ih =>
    intro hk
    have h1 := ha k hk
    have h2 := hb k hk
    unfold TvOk at h1 h2
    by_cases q : kS tm k = 0
    · rw [if_pos q] at h1 h2
      rw [h1, h2]
    · have hp : ∀ i, i < kN tm k → a (kP tm k i) = b (kP tm k i) := fun i hi => by
        have := kP_lt hK (show k < nK tm by omega) q hi
        exact ih _ this (by omega)
      rw [if_neg q] at h1 h2
      by_cases q4 : kS tm k = 4
      · rw [if_pos q4] at h1 h2
        exact kth_uniq (kth_cong hp h1) h2
      · rw [if_neg q4] at h1 h2
        have n2 : 2 ≤ kN tm k := (((hK.2.2.2 k (by omega)).2.2.2.2.2.2.2.2.2.2.2.2 q).2.2.2.2.2.2.1 q4).1
        rw [h1, h2]
        exact fo_cong fun i hi => hp i (by omega)
theorem upd_tv {tx tm : St} (hK : RK tx tm) {a : Nat → Int32} {v : Int32} {k i : Nat} (hk : k < nK tm) (hi : k < i) (h : TvOk tm a k) : TvOk tm (upd a i v) k := tv_cong hK hk (fun j hj => (upd_ne (by omega)).symm) h
/-- the reference -/
theorem many_row {t : St} {n k : Nat} (hk : k < 400) (hn : n ≤ 9) {tx tm : St} (hK : RK tx tm) (hkK : k < nK tm) (q : kS tm k ≠ 0) (hf : fx [32, 33] [] tm t) : ∃ v t', lp (fun y : Int32 × Int32 × St => m_many_B55 (jn n) (jn k) y.1 y.2.1 y.2.2) (0, 0, t) = some (v, t') ∧ fx [33] [] t t' ∧ (∀ i, i < kN tm k → gA t' 33 i = gA t 32 (kP tm k i)) ∧ (kS tm k ≠ 4 → v = fo (opS (kS tm k)) (fun i => gA t 32 (kP tm k i)) (kN tm k - 1)) := by
  have h250 := nK_lt hK
  obtain ⟨s1, s2, s3, d1, d2, d3, h1, h2, h3, m1, m2, q1, q2⟩ := hK.2.2.2 k hkK
  obtain ⟨e1, e2, e3, e4, e5, e7, e8, e6, -⟩ := q2 q
  have g4 : ∀ {α : Type} (x : Option α), gd (jn k) 400 x = x := fun x => gd_jn (by omega) (by omega)
  have ck : (jn k).toNatClampNeg = k := jn_cl (by omega)
  have hP := hK.2.2.1.2.1
  have l := lp_cnt (b := fun y : Int32 × Int32 × St => m_many_B55 (jn n) (jn k) y.1 y.2.1 y.2.2) (fun i s => (s.1, jn i, s.2)) (kN tm k)
    (fun i s => fx [33] [] t s.2 ∧ (∀ j, j < i → gA s.2 33 j = gA t 32 (kP tm k j)) ∧ (i = 0 → s.1 = 0) ∧ (1 ≤ i → kS tm k ≠ 4 → s.1 = fo (opS (kS tm k)) (fun i => gA t 32 (kP tm k i)) (i - 1)))
    (fun s => fx [33] [] t s.2 ∧ (∀ j, j < kN tm k → gA s.2 33 j = gA t 32 (kP tm k j)) ∧ (1 ≤ kN tm k → kS tm k ≠ 4 → s.1 = fo (opS (kS tm k)) (fun i => gA t 32 (kP tm k i)) (kN tm k - 1))) (by
      rintro i ⟨v, s⟩ hi ⟨f1, i1, i2, i3⟩
      dsimp only at f1 i1 i2 i3
      have ft : fx [32, 33] [] tm s := hf.trans (f1.wk rfl rfl)
      obtain ⟨w1, w2, w3⟩ := e6 i hi
      have b8 : gA (sA s 33 (jn i) (gA t 32 (kP tm k i))) 8 k = jn (kS tm k) := by
        show gA s 8 k = _
        rw [(ft.1 8 rfl).2.2.1, s1]
      have ii : ∀ V, (kS tm k ≠ 4 → V = if i = 0 then gA t 32 (kP tm k 0) else opS (kS tm k) v (gA t 32 (kP tm k i))) → ∃ s' : Int32 × St, (some (.inl (V, jn (i + 1), sA s 33 (jn i) (gA t 32 (kP tm k i)))) : Option ((Int32 × Int32 × St) ⊕ (Int32 × St))) = some (.inl (s'.1, jn (i + 1), s'.2)) ∧ fx [33] [] t s'.2 ∧ (∀ j, j < i + 1 → gA s'.2 33 j = gA t 32 (kP tm k j)) ∧ (i + 1 = 0 → s'.1 = 0) ∧ (1 ≤ i + 1 → kS tm k ≠ 4 → s'.1 = fo (opS (kS tm k)) (fun i => gA t 32 (kP tm k i)) (i + 1 - 1)) := by
        intro V hV
        refine ⟨(V, sA s 33 (jn i) (gA t 32 (kP tm k i))), rfl, f1.trans (fx_sA rfl), fun j hj => ?_, fun e => by omega, fun _ hs4 => ?_⟩
        · show gA (sA s 33 (jn i) _) 33 j = _
          rw [gA_sA, jn_cl (by omega)]
          by_cases e : j = i
          · subst e; rw [upd_at]
          · rw [upd_ne e]; exact i1 j (by omega)
        · show V = _
          rw [hV hs4, show i + 1 - 1 = i from rfl]
          by_cases e : i = 0
          · subst e; rw [if_pos rfl]; rfl
          · rw [if_neg e, i3 (by omega) hs4]
            cases i with
            | zero => omega
            | succ i => rfl
      dsimp only
      unfold m_many_B55
      rw [g4, ck, (ft.1 12 rfl).2.2.1, m1, if_neg (nle hi (by omega)), g4, (ft.1 11 rfl).2.2.1, e3, jn_add, gd_jn (by omega) (by omega), jn_cl (by omega), (ft.1 14 rfl).2.2.1, w2, gd_jn (by omega) (by omega), jn_cl (by omega), (f1.1 32 rfl).2.2.1]
      simp only [nm]
      rw [gd_jn (by omega) (by omega), g4, b8]
      by_cases a2 : kS tm k = 2
      · rw [if_pos (show jn (kS tm k) = (2 : Int32) by rw [a2]; rfl), jn_s]
        refine ii _ fun _ => ?_
        by_cases e : i = 0
        · subst e
          rw [i2 rfl, if_pos rfl]
          exact Int32.zero_add _
        · rw [if_neg e]
          unfold opS
          rw [if_pos a2]
      · rw [if_neg (jnl (x := 2) 2 rfl a2 (by omega) (by omega))]
        by_cases e : i = 0
        · subst e
          rw [if_pos (show jn 0 = 0 from rfl), jn_s]
          exact ii _ fun _ => by rw [if_pos rfl]
        · rw [if_neg (jn_nz e (by omega)), g4]
          have hop : ∀ V, V = opS (kS tm k) v (gA t 32 (kP tm k i)) → (kS tm k ≠ 4 → V = if i = 0 then gA t 32 (kP tm k 0) else opS (kS tm k) v (gA t 32 (kP tm k i))) := fun V hV _ => by rw [if_neg e]; exact hV
          have oS : opS (kS tm k) v (gA t 32 (kP tm k i)) = if kS tm k = 1 then (if gA t 32 (kP tm k i) < v then gA t 32 (kP tm k i) else v) else (if v < gA t 32 (kP tm k i) then gA t 32 (kP tm k i) else v) := by
            unfold opS
            rw [if_neg a2]
          by_cases a1 : kS tm k = 1
          · rw [if_pos (show jn (kS tm k) = (1 : Int32) by rw [a1]; rfl)]
            rw [if_pos a1] at oS
            by_cases c : v ≤ gA t 32 (kP tm k i)
            · rw [if_pos c, jn_s]
              refine ii _ (hop _ ?_)
              rw [oS, if_neg (by rw [il_lt]; rw [il_le] at c; omega)]
            · rw [if_neg c, jn_s]
              refine ii _ (hop _ ?_)
              rw [oS, if_pos (by rw [il_lt]; rw [il_le] at c; omega)]
          · rw [if_neg (jnl (x := 1) 1 rfl a1 (by omega) (by omega))]
            rw [if_neg a1] at oS
            by_cases c : gA t 32 (kP tm k i) ≤ v
            · rw [if_pos c, jn_s]
              refine ii _ (hop _ ?_)
              rw [oS, if_neg (by rw [il_lt]; rw [il_le] at c; omega)]
            · rw [if_neg c, jn_s]
              refine ii _ (hop _ ?_)
              rw [oS, if_pos (by rw [il_lt]; rw [il_le] at c; omega)]) (by
      rintro ⟨v, s⟩ ⟨f1, i1, i2, i3⟩
      have ft : fx [32, 33] [] tm s := hf.trans (f1.wk rfl rfl)
      refine ⟨(v, s), ?_, f1, i1, i3⟩
      dsimp only
      unfold m_many_B55
      rw [g4, ck, (ft.1 12 rfl).2.2.1, m1, if_pos (lee (by omega))]) 0 (0, t) (by omega) ⟨fx.rfl, fun j hj => absurd hj (by omega), fun _ => rfl, fun h => absurd h (by omega)⟩
  obtain ⟨⟨v, t'⟩, k1, k2, k3, k4⟩ := l
  exact ⟨v, t', k1, k2, k3, k4 e2⟩
theorem m_many_B {tx tm : St} (hK : RK tx tm) {n k r : Nat} {t : St} (hn : n ≤ 9) (hr : gA tm 16 n = jn r) (hrK : r < nK tm) (hk : k ≤ r) (hf : fx [32, 33] [] tm t) (hv : ∀ j, j < k → TvOk tm (gA t 32) j) : ∃ t', m_many_B16 (jn n) (jn k) t = some (.inl (jn (k + 1), t')) ∧ fx [32, 33] [] tm t' ∧ ∀ j, j < k + 1 → TvOk tm (gA t' 32) j := by
  have h250 := nK_lt hK
  obtain ⟨s1, s2, s3, d1, d2, d3, h1, h2, h3, m1, m2, q1, q2⟩ := hK.2.2.2 k (by omega)
  have g4 : ∀ {α : Type} (x : Option α), gd (jn k) 400 x = x := fun x => gd_jn (by omega) (by omega)
  have ck : (jn k).toNatClampNeg = k := jn_cl (by omega)
  have fin : ∀ (s : St) (v : Int32), fx [33] [] t s → TvOk tm (upd (gA t 32) k v) k → ∃ t', m_many_J211 s (jn n) (jn k) (jn k) v = some (.inl (jn (k + 1), t')) ∧ fx [32, 33] [] tm t' ∧ ∀ j, j < k + 1 → TvOk tm (gA t' 32) j := by
    intro s v fs h
    refine ⟨sA s 32 (jn k) v, ?_, (hf.trans (fs.wk rfl rfl)).trans (fx_sA rfl), fun j hj => ?_⟩
    · unfold m_many_J211
      rw [gd_jn (by omega) (by omega)]
      simp only [nm, jn_s]
    · rw [gA_sA, ck, (fs.1 32 rfl).2.2.1]
      by_cases e : j = k
      · rw [e]; exact h
      · exact upd_tv hK (by omega) (by omega) (hv j (by omega))
  unfold m_many_B16
  rw [gd_jn (by omega) (by omega), jn_cl (by omega), (hf.1 16 rfl).2.2.1, hr, if_neg (fun e => by have := (jn_lt (by omega) (by omega)).mp e; omega), g4, ck, (hf.1 8 rfl).2.2.1, s1]
  by_cases q : kS tm k = 0
  · obtain ⟨t1, t2, t3, n0, -⟩ := q1 q
    rw [if_pos (show jn (kS tm k) = 0 by rw [q]; rfl), g4, (hf.1 10 rfl).2.2.1, t1, gd_jn (by omega) (by omega), jn_cl (by omega), (hf.1 1 rfl).2.2.1]
    unfold m_many_J50
    rw [lp_r (y := (gA tm 1 (kT tm k), t)) (by
      dsimp only
      unfold m_many_B55
      rw [g4, ck, (hf.1 12 rfl).2.2.1, m1, n0, if_pos (by decide)]), bs, g4]
    dsimp only
    rw [ck, (hf.1 8 rfl).2.2.1, s1, if_neg (by rw [q]; decide)]
    refine fin t _ fx.rfl ?_
    unfold TvOk
    rw [if_pos q, upd_at]
  · rw [if_neg (jn_nz q (by omega))]
    obtain ⟨v, s, k1, k2, k3, k4⟩ := many_row (t := t) (n := n) (k := k) (by omega) hn hK (by omega) q hf
    have ft : fx [32, 33] [] tm s := hf.trans (k2.wk rfl rfl)
    obtain ⟨e1, e2, e3, e4, e5, e7, e8, e6, -⟩ := q2 q
    unfold m_many_J50
    rw [k1, bs, g4]
    dsimp only
    rw [ck, (ft.1 8 rfl).2.2.1, s1]
    have ne : ∀ i, i < kN tm k → upd (gA t 32) k (0 : Int32) (kP tm k i) = gA t 32 (kP tm k i) := fun i hi => upd_ne (by have := (e6 i hi).2.2; omega)
    by_cases q4 : kS tm k = 4
    · rw [if_pos (show jn (kS tm k) = (4 : Int32) by rw [q4]; rfl), g4, g4, (ft.1 12 rfl).2.2.1, m1, (ft.1 9 rfl).2.2.1, d1, show jn (kD tm k) - 1 = jn (kD tm k - 1) from jn_sub (a := kD tm k) (b := 1) (e7 q4).1]
      obtain ⟨w, s', j1, j2, j3⟩ := m_sorted_eq (t := s) (n := kN tm k) (by omega) (w := kD tm k - 1) (by have := e7 q4; omega)
      rw [j1, bs]
      refine fin s' w (k2.trans j2) ?_
      unfold TvOk
      rw [if_neg q, if_pos q4, upd_at]
      refine kth_cong (fun i hi => ?_) j3
      rw [k3 i hi]
      exact (upd_ne (by have := (e6 i hi).2.2; omega)).symm
    · rw [if_neg (jnl (x := 4) 4 rfl q4 (by omega) (by omega))]
      refine fin s v k2 ?_
      unfold TvOk
      rw [if_neg q, if_neg q4, upd_at, k4 q4]
      exact fo_cong fun i hi => (upd_ne (by have := (e6 i (by have := e8 q4; omega)).2.2; omega)).symm
/-- the class -/
theorem some_time {tx tm : St} (hK : RK tx tm) (hM : gN tx 612 = 330 ∧ gN tx 613 = 8) {k : Nat} {t : St} (hk : k < nK tm) (q4 : kS tm k = 4) (hf : fx [612, 613] [] tx t) : ∃ v t', x6_someTime t (jn k) = some (v, t') ∧ fx [613] [] t t' ∧ Kth (fun i => gA t 612 (kP tm k i)) (kN tm k) (kD tm k - 1) v := by
  have h250 := nK_lt hK
  obtain ⟨⟨z3, z4, z5, z6, z7⟩, -, ⟨p1, p2, p3, p4, p5, p6⟩, hall⟩ := id hK
  obtain ⟨s1, s2, s3, d1, d2, d3, h1, h2, h3, m1, m2, q1, q2⟩ := hall k hk
  obtain ⟨e1, e2, e3, e4, e5, e7, e8, e6, -⟩ := q2 (by omega)
  have g3 : ∀ {α : Type} (x : Option α), gd (jn k) 330 x = x := fun x => gd_jn (by omega) (by omega)
  have ck : (jn k).toNatClampNeg = k := jn_cl (by omega)
  have n8 := (e7 q4).2.2
  have l := lp_cnt (b := fun y : Int32 × St => x6_someTime_B17 (jn k) (jn (kN tm k)) y.1 y.2) (fun i s => (jn i, s)) (kN tm k)
    (fun i s => fx [613] [] t s ∧ ∀ j, j < i → gA s 613 j = gA t 612 (kP tm k j))
    (fun s => fx [613] [] t s ∧ ∀ j, j < kN tm k → gA s 613 j = gA t 612 (kP tm k j)) (by
      rintro i s hi ⟨f1, i1⟩
      have ft : fx [612, 613] [] tx s := hf.trans (f1.wk rfl rfl)
      obtain ⟨w1, w2, w3⟩ := e6 i hi
      refine ⟨sA s 613 (jn i) (gA t 612 (kP tm k i)), ?_, f1.trans (fx_sA rfl), fun j hj => ?_⟩
      · dsimp only
        unfold x6_someTime_B17 x6_partOf
        rw [if_neg (nle hi (by omega)), (ft.2 606 rfl), z6, g3, ck, (ft.1 606 rfl).2.2.1, e4, e3, jn_add, ft.2 608 rfl, gd_jn (by omega) (by omega), jn_cl (by omega), (ft.1 608 rfl).2.2.1, w1, w2, bs, ft.2 612 rfl, hM.1, gd_jn (by omega) (by omega), ft.2 613 rfl, hM.2, gd_jn (by omega) (by omega), jn_cl (by omega), (f1.1 612 rfl).2.2.1]
        simp only [nm, jn_s]
      · rw [gA_sA, jn_cl (by omega)]
        by_cases e : j = i
        · subst e; rw [upd_at]
        · rw [upd_ne e]; exact i1 j (by omega)) (by
      rintro s hs
      exact ⟨s, by dsimp only; unfold x6_someTime_B17; rw [if_pos (lee (by omega))], hs⟩) 0 t (by omega) ⟨fx.rfl, fun j hj => absurd hj (by omega)⟩
  obtain ⟨s, k1, k2, k3⟩ := l
  have ft : fx [612, 613] [] tx s := hf.trans (k2.wk rfl rfl)
  obtain ⟨w, s', j1, j2, j3⟩ := rising613_eq (t := s) n8 ((ft.2 613 rfl).trans hM.2) (w := kD tm k - 1) (by have := e7 q4; omega)
  rw [show kD tm k - 1 + 1 = kD tm k by have := e7 q4; omega] at j1
  refine ⟨w, s', ?_, k2.trans j2, kth_cong (fun i hi => k3 i hi) j3⟩
  unfold x6_someTime
  rw [hf.2 604 rfl, z4, g3, ck, (hf.1 604 rfl).2.2.1, e1, m1, hf.2 613 rfl, hM.2, show Int32.ofNat 8 = jn 8 from rfl]
  simp only [nm]
  rw [if_neg (fun e => by have := (jn_lt (by omega) (by omega)).mp e; omega), show (0 : Int32) = jn 0 from rfl, k1, bs, ft.2 605 rfl, z5, g3, (ft.1 605 rfl).2.2.1, d3, d1, j1, bs]
theorem row_time {tx tm : St} (hK : RK tx tm) (hM : gN tx 612 = 330 ∧ gN tx 613 = 8) {k : Nat} {t : St} (hk : k < nK tm) (q : kS tm k ≠ 0) (hf : fx [612, 613] [] tx t) : ∃ v t', x6_rowTime t (jn k) = some (v, t') ∧ fx [613] [] t t' ∧ TvOk tm (upd (gA t 612) k v) k := by
  have h250 := nK_lt hK
  obtain ⟨⟨z3, z4, z5, z6, z7⟩, -, ⟨p1, p2, p3, p4, p5, p6⟩, hall⟩ := id hK
  obtain ⟨s1, s2, s3, d1, d2, d3, h1, h2, h3, m1, m2, q1, q2⟩ := hall k hk
  obtain ⟨e1, e2, e3, e4, e5, e7, e8, e6, -⟩ := q2 q
  have g3 : ∀ {α : Type} (x : Option α), gd (jn k) 330 x = x := fun x => gd_jn (by omega) (by omega)
  have ck : (jn k).toNatClampNeg = k := jn_cl (by omega)
  unfold x6_rowTime
  rw [hf.2 603 rfl, z3, g3, ck, (hf.1 603 rfl).2.2.1, s3, s1]
  by_cases q4 : kS tm k = 4
  · obtain ⟨v, t', k1, k2, k3⟩ := some_time hK hM hk q4 hf
    refine ⟨v, t', ?_, k2, ?_⟩
    · rw [if_pos (show jn (kS tm k) = (4 : Int32) by rw [q4]; rfl), k1, bs]
    · unfold TvOk
      rw [if_neg q, if_pos q4, upd_at]
      exact kth_cong (fun i hi => (upd_ne (by have := (e6 i hi).2.2; omega)).symm) k3
  · have po : ∀ i, i < kN tm k → x6_partOf t (jn k) (jn i) = some (jn (kP tm k i)) := by
      intro i hi
      obtain ⟨w1, w2, w3⟩ := e6 i hi
      unfold x6_partOf
      rw [hf.2 606 rfl, z6, g3, ck, (hf.1 606 rfl).2.2.1, e4, e3, jn_add, hf.2 608 rfl, gd_jn (by omega) (by omega), jn_cl (by omega), (hf.1 608 rfl).2.2.1, w1, w2]
    have n2 := (e8 q4).1
    have l := lp_cnt (b := fun y : Int32 × Int32 => x6_rowTime_B30 t (jn k) y.1 y.2) (fun i s => (s, jn i)) (kN tm k)
      (fun i s => 1 ≤ i ∧ s = fo (opS (kS tm k)) (fun i => gA t 612 (kP tm k i)) (i - 1))
      (fun s => s = fo (opS (kS tm k)) (fun i => gA t 612 (kP tm k i)) (kN tm k - 1)) (by
        rintro i s hi ⟨i0, rfl⟩
        have w3 := (e6 i hi).2.2
        have ii : ∀ V, V = opS (kS tm k) (fo (opS (kS tm k)) (fun i => gA t 612 (kP tm k i)) (i - 1)) (gA t 612 (kP tm k i)) → ∃ s', (some (.inl (V, jn (i + 1))) : Option ((Int32 × Int32) ⊕ Int32)) = some (.inl (s', jn (i + 1))) ∧ 1 ≤ i + 1 ∧ s' = fo (opS (kS tm k)) (fun i => gA t 612 (kP tm k i)) (i + 1 - 1) := by
          intro V hV
          refine ⟨V, rfl, by omega, ?_⟩
          rw [hV]
          cases i with
          | zero => omega
          | succ i => rfl
        generalize fo (opS (kS tm k)) (fun i => gA t 612 (kP tm k i)) (i - 1) = v at ii ⊢
        dsimp only
        unfold x6_rowTime_B30
        rw [hf.2 604 rfl, z4, g3, ck, (hf.1 604 rfl).2.2.1, e1, m1, if_neg (nle hi (by omega)), po i hi, bs, hf.2 612 rfl, hM.1, gd_jn (by omega) (by omega), jn_cl (by omega), hf.2 603 rfl, z3]
        simp only [nm]
        rw [g3, (hf.1 603 rfl).2.2.1, s3, s1]
        unfold opS at ii
        by_cases a2 : kS tm k = 2
        · rw [if_pos a2] at ii
          rw [if_pos (show jn (kS tm k) = (2 : Int32) by rw [a2]; rfl), jn_s]
          exact ii _ rfl
        · rw [if_neg a2] at ii
          rw [if_neg (jnl (x := 2) 2 rfl a2 (by omega) (by omega)), g3]
          by_cases a1 : kS tm k = 1
          · rw [if_pos a1] at ii
            rw [if_pos (show jn (kS tm k) = (1 : Int32) by rw [a1]; rfl), jn_s]
            exact ii _ rfl
          · rw [if_neg a1] at ii
            rw [if_neg (jnl (x := 1) 1 rfl a1 (by omega) (by omega)), jn_s]
            exact ii _ rfl) (by
        rintro s ⟨-, hs⟩
        exact ⟨s, by dsimp only; unfold x6_rowTime_B30; rw [hf.2 604 rfl, z4, g3, ck, (hf.1 604 rfl).2.2.1, e1, m1, if_pos (lee (by omega))], hs⟩) 1 (gA t 612 (kP tm k 0)) (by omega) ⟨Nat.le_refl _, rfl⟩
    obtain ⟨v, k1, k2⟩ := l
    refine ⟨v, t, ?_, fx.rfl, ?_⟩
    · rw [if_neg (jnl (x := 4) 4 rfl q4 (by omega) (by omega)), show (0 : Int32) = jn 0 from rfl, po 0 (by omega), bs, hf.2 612 rfl, hM.1, gd_jn (by have := (e6 0 (by omega)).2.2; omega) (by have := (e6 0 (by omega)).2.2; omega), jn_cl (by have := (e6 0 (by omega)).2.2; omega)]
      simp only [nm]
      rw [show (1 : Int32) = jn 1 from rfl, k1, bs]
    · unfold TvOk
      rw [if_neg q, if_neg q4, upd_at, k2]
      exact fo_cong fun i hi => (upd_ne (by have := (e6 i (by omega)).2.2; omega)).symm
theorem op_many {tx tm : St} (hH : RH tx tm) (hK : RK tx tm) (hN : RN tx tm) (hM : gN tx 612 = 330 ∧ gN tx 613 = 8) (a1 : Int32) : ∃ r tx' tm', x11_many tx a1 = some (r, tx') ∧ m_many tm a1 = some (r, tm') := by
  have h250 := nK_lt hK
  rcases pre_many hK hN a1 with ⟨r, k1, k2⟩ | ⟨n, r, hn, hr, e16, e602, rfl⟩
  · exact ⟨r, tx, tm, k1, k2⟩
  have lm := lp_cnt (b := fun y : Int32 × St => m_many_B16 (jn n) y.1 y.2) (fun i s => (jn i, s)) (r + 1)
    (fun i s => fx [32, 33] [] tm s ∧ ∀ j, j < i → TvOk tm (gA s 32) j)
    (fun s => fx [32, 33] [] tm s ∧ ∀ j, j < r + 1 → TvOk tm (gA s 32) j) (by
      rintro i s hi ⟨f1, h1⟩
      exact m_many_B hK hn e16 hr (by omega) f1 h1) (by
      rintro s ⟨f1, h1⟩
      refine ⟨s, ?_, f1, h1⟩
      dsimp only
      unfold m_many_B16
      rw [gd_jn (by omega) (by omega), jn_cl (by omega), (f1.1 16 rfl).2.2.1, e16, if_pos ((jn_lt (by omega) (by omega)).mpr (by omega))]) 0 tm (by omega) ⟨fx.rfl, fun j hj => absurd hj (by omega)⟩
  have lx := lp_cnt (b := fun y : Int32 × St => x6_timeByMany_B2 (jn r) y.1 y.2) (fun i s => (jn i, s)) (r + 1)
    (fun i s => fx [612, 613] [] tx s ∧ ∀ j, j < i → TvOk tm (gA s 612) j)
    (fun s => fx [612, 613] [] tx s ∧ ∀ j, j < r + 1 → TvOk tm (gA s 612) j) (by
      rintro i s hi ⟨f1, h1⟩
      obtain ⟨⟨z3, z4, z5, z6, z7⟩, -, ⟨p1, p2, p3, p4, p5, p6⟩, hall⟩ := id hK
      obtain ⟨s1, s2, s3, d1, d2, d3, g1, g2, g5, m1, m2, q1, q2⟩ := hall i (by omega)
      have g3 : ∀ {α : Type} (x : Option α), gd (jn i) 330 x = x := fun x => gd_jn (by omega) (by omega)
      have ck : (jn i).toNatClampNeg = i := jn_cl (by omega)
      have fin : ∀ (u : St) (v : Int32), fx [613] [] s u → TvOk tm (upd (gA s 612) i v) i → ∃ t', x6_timeByMany_J40 u (jn r) (jn i) (jn i) v = some (.inl (jn (i + 1), t')) ∧ fx [612, 613] [] tx t' ∧ ∀ j, j < i + 1 → TvOk tm (gA t' 612) j := by
        intro u v fu h
        have fu2 : fx [612, 613] [] tx u := f1.trans (fu.wk rfl rfl)
        refine ⟨sA u 612 (jn i) v, ?_, fu2.trans (fx_sA rfl), fun j hj => ?_⟩
        · unfold x6_timeByMany_J40
          rw [fu2.2 612 rfl, hM.1, g3]
          simp only [nm, jn_s]
        · rw [gA_sA, ck, (fu.1 612 rfl).2.2.1]
          by_cases e : j = i
          · rw [e]; exact h
          · exact upd_tv hK (by omega) (by omega) (h1 j (by omega))
      dsimp only
      unfold x6_timeByMany_B2
      rw [if_neg (fun e => by have := (jn_lt (by omega) (by omega)).mp e; omega), f1.2 603 rfl, z3, g3, ck, (f1.1 603 rfl).2.2.1, s3, s1]
      by_cases q : kS tm i = 0
      · obtain ⟨t1, t2, t3, n0, -⟩ := q1 q
        rw [if_pos (show jn (kS tm i) = 0 by rw [q]; rfl), f1.2 604 rfl, z4, g3, (f1.1 604 rfl).2.2.1, t3, t1, show x5_get s (jn (kT tm i)) 1 = _ from x5_at (w := 1) ((f1.2 500 rfl).trans hH.1) t2 (by omega), bs, (f1.1 500 rfl).2.2.1, (hH.2 (kT tm i) 1 t2 (by omega)).1]
        refine fin s _ fx.rfl ?_
        unfold TvOk
        rw [if_pos q, upd_at]
      · rw [if_neg (jn_nz q (by omega))]
        obtain ⟨v, u, k1, k2, k3⟩ := row_time hK hM (k := i) (t := s) (by omega) q f1
        rw [k1, bs]
        exact fin u v k2 k3) (by
      rintro s hs
      exact ⟨s, by dsimp only; unfold x6_timeByMany_B2; rw [if_pos ((jn_lt (by omega) (by omega)).mpr (by omega))], hs⟩) 0 tx (by omega) ⟨fx.rfl, fun j hj => absurd hj (by omega)⟩
  obtain ⟨sm, m1, m2, m3⟩ := lm
  obtain ⟨sx, x1, x2, x3⟩ := lx
  have e : gA sx 612 r = gA sm 32 r := tv_uniq hK (K := r + 1) (by omega) x3 m3 r (by omega)
  refine ⟨gA sm 32 r, sx, sm, ?_, ?_⟩
  · unfold x11_many x6_timeByMany
    rw [noNet_T hn, bs, if_pos rfl, hN.1, gd_jn (by omega) (by omega), jn_cl (by omega), e602]
    simp only [nm]
    rw [if_pos (jn_nn (by omega)), show (0 : Int32) = jn 0 from rfl, x1, bs, x2.2 612 rfl, hM.1, gd_jn (by omega) (by omega), jn_cl (by omega), bs, e]
  · unfold m_many
    rw [why_ok hn e16 (by omega), bs, if_pos rfl, show (0 : Int32) = jn 0 from rfl, m1, bs, gd_jn (by omega) (by omega), jn_cl (by omega), (m2.1 16 rfl).2.2.1, e16, gd_jn (by omega) (by omega), jn_cl (by omega)]
