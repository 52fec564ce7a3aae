/-! The start: both sides agree. -/
theorem m_puts_eq {t : St} {x : Nat} (v : Int32) (hx : x ≤ 4513) : ∃ t', m_puts t (jn x) v = some t' ∧ fx [34] [] t t' ∧ (∀ i, i < 7 → gA t' 34 (7 * x + i) = if i = 0 then v else 0) ∧ ∀ j, ¬ (7 * x ≤ j ∧ j < 7 * x + 7) → gA t' 34 j = gA t 34 j := by
  have h := lp_cnt (b := fun y : Int32 × St => m_puts_B2 (jn x) v y.1 y.2) (fun i s => (jn i, s)) 7
    (fun n s => fx [34] [] t s ∧ (∀ i, i < n → gA s 34 (7 * x + i) = if i = 0 then v else 0) ∧ ∀ j, ¬ (7 * x ≤ j ∧ j < 7 * x + 7) → gA s 34 j = gA t 34 j)
    (fun s => fx [34] [] t s ∧ (∀ i, i < 7 → gA s 34 (7 * x + i) = if i = 0 then v else 0) ∧ ∀ j, ¬ (7 * x ≤ j ∧ j < 7 * x + 7) → gA s 34 j = gA t 34 j) (by
      rintro i s hi ⟨hf, h1, h2⟩
      have key : ∀ w, ∃ s', m_puts_J27 s (jn x) v (jn i) (jn (7 * x + i)) w = some (.inl (jn (i + 1), s')) ∧ fx [34] [] t s' ∧ (∀ i1, i1 < i + 1 → gA s' 34 (7 * x + i1) = if i1 = i then w else if i1 = 0 then v else 0) ∧ ∀ j, ¬ (7 * x ≤ j ∧ j < 7 * x + 7) → gA s' 34 j = gA t 34 j := by
        intro w
        unfold m_puts_J27
        rw [gd_jn (by omega) (by omega)]
        simp only [nm, jn_s]
        refine ⟨_, rfl, hf.trans (fx_sA rfl), ?_, ?_⟩
        · intro i1 hi1
          rw [gA_sA, jn_cl (by omega)]
          by_cases e : i1 = i
          · subst e; rw [upd_at, if_pos rfl]
          · rw [upd_ne (by omega), if_neg e]; exact h1 i1 (by omega)
        · intro j hj
          rw [gA_sA, jn_cl (by omega), upd_ne (by omega)]
          exact h2 j hj
      dsimp only
      unfold m_puts_B2
      have q : ¬ (7 : Int32) ≤ jn i := fun e => by have := (jn_le (a := 7) (by omega) (by omega)).mp e; omega
      rw [if_neg q, show (7 : Int32) = jn 7 from rfl, jn_mul, jn_add]
      by_cases e : i = 0
      · subst e
        rw [if_pos (by decide)]
        obtain ⟨s', k, k1, k2, k3⟩ := key v
        refine ⟨s', k, k1, fun i1 hi1 => ?_, k3⟩
        rw [k2 i1 hi1]
        split <;> rfl
      · rw [if_neg (jn_nz e (by omega))]
        obtain ⟨s', k, k1, k2, k3⟩ := key 0
        refine ⟨s', k, k1, fun i1 hi1 => ?_, k3⟩
        rw [k2 i1 hi1]
        by_cases e2 : i1 = i
        · subst e2
          rw [if_pos rfl, if_neg e]
        · rw [if_neg e2]) (by
      rintro s hs
      exact ⟨s, by dsimp only; unfold m_puts_B2; rw [if_pos (by decide)], hs⟩) 0 t (by omega) ⟨fx.rfl, fun i hi => absurd hi (by omega), fun j _ => rfl⟩
  obtain ⟨s, k, k1⟩ := h
  exact ⟨s, by unfold m_puts; rw [show (0 : Int32) = jn 0 from rfl, k, bs], k1⟩
theorem m_init_eq : ∃ tm, m_init tM0 = some tm ∧ fx [0, 1, 2, 16, 34] [] tM0 tm ∧ (∀ s, s < 16 → gA tm 0 s = 1 ∧ gA tm 1 s = 1 ∧ gA tm 2 s = 500) ∧ (∀ n, n < 10 → gA tm 16 n = -1) ∧ (∀ i, i < 7 → gA tm 34 (7 * 4500 + i) = 0) ∧ ∀ i, i < 7 → gA tm 34 (7 * 4501 + i) = if i = 0 then 1 else 0 := by
  have h1 := lp_cnt (b := fun x : Int32 × St => m_init_B447 x.1 x.2) (fun i s => (jn i, s)) 16
    (fun n s => fx [0, 1, 2] [] tM0 s ∧ ∀ i, i < n → gA s 0 i = 1 ∧ gA s 1 i = 1 ∧ gA s 2 i = 500)
    (fun s => fx [0, 1, 2] [] tM0 s ∧ ∀ i, i < 16 → gA s 0 i = 1 ∧ gA s 1 i = 1 ∧ gA s 2 i = 500) (by
      rintro i s hi ⟨hf, h1⟩
      dsimp only
      unfold m_init_B447
      have q : ¬ (16 : Int32) ≤ jn i := fun e => by have := (jn_le (a := 16) (by omega) (by omega)).mp e; omega
      have g : ∀ {α : Type} (x : Option α), gd (jn i) 16 x = x := fun x => gd_jn hi (by omega)
      rw [if_neg q]
      simp only [g, nm, jn_s]
      refine ⟨_, rfl, ((hf.trans (fx_sA rfl)).trans (fx_sA rfl)).trans (fx_sA rfl), ?_⟩
      intro i1 hi1
      show upd (gA s 0) (jn i).toNatClampNeg 1 i1 = 1 ∧ upd (gA s 1) (jn i).toNatClampNeg 1 i1 = 1 ∧ upd (gA s 2) (jn i).toNatClampNeg 500 i1 = 500
      rw [jn_cl (by omega)]
      by_cases e : i1 = i
      · subst e
        rw [upd_at, upd_at, upd_at]
        exact ⟨rfl, rfl, rfl⟩
      · rw [upd_ne e, upd_ne e, upd_ne e]
        exact h1 i1 (by omega)) (by
      rintro s hs
      exact ⟨s, by dsimp only; unfold m_init_B447; rw [if_pos (by decide)], hs⟩) 0 tM0 (by omega) ⟨fx.rfl, fun i hi => absurd hi (by omega)⟩
  obtain ⟨s1, k1, f1, v1⟩ := h1
  have h2 := lp_cnt (b := fun x : Int32 × St => m_init_B484 x.1 x.2) (fun i s => (jn i, s)) 10
    (fun n s => fx [16] [] s1 s ∧ ∀ i, i < n → gA s 16 i = -1)
    (fun s => fx [16] [] s1 s ∧ ∀ i, i < 10 → gA s 16 i = -1) (by
      rintro i s hi ⟨hf, h1⟩
      dsimp only
      unfold m_init_B484
      have q : ¬ (10 : Int32) ≤ jn i := fun e => by have := (jn_le (a := 10) (by omega) (by omega)).mp e; omega
      rw [if_neg q, gd_jn hi (by omega)]
      simp only [nm, jn_s]
      refine ⟨_, rfl, hf.trans (fx_sA rfl), ?_⟩
      intro i1 hi1
      rw [gA_sA, jn_cl (by omega)]
      by_cases e : i1 = i
      · subst e; rw [upd_at]
      · rw [upd_ne e]; exact h1 i1 (by omega)) (by
      rintro s hs
      exact ⟨s, by dsimp only; unfold m_init_B484; rw [if_pos (by decide)], hs⟩) 0 s1 (by omega) ⟨fx.rfl, fun i hi => absurd hi (by omega)⟩
  obtain ⟨s2, k2, f2, v2⟩ := h2
  obtain ⟨s3, k3, f3, v3, w3⟩ := m_puts_eq (t := s2) (x := 4500) 0 (by omega)
  obtain ⟨s4, k4, f4, v4, w4⟩ := m_puts_eq (t := s3) (x := 4501) 1 (by omega)
  refine ⟨s4, ?_, (((f1.wk rfl rfl).trans (f2.wk rfl rfl)).trans (f3.wk rfl rfl)).trans (f4.wk rfl rfl), ?_, ?_, ?_, v4⟩
  · unfold m_init
    rw [show ((0 : Int32), tM0) = (jn 0, tM0) from rfl, k1, bs, show ((0 : Int32), s1) = (jn 0, s1) from rfl, k2, bs, show m_puts s2 4500 0 = _ from k3, bs, show m_puts s3 4501 1 = _ from k4, bs]
  · intro s hs
    rw [(f4.1 0 rfl).2.2.1, (f4.1 1 rfl).2.2.1, (f4.1 2 rfl).2.2.1, (f3.1 0 rfl).2.2.1, (f3.1 1 rfl).2.2.1, (f3.1 2 rfl).2.2.1, (f2.1 0 rfl).2.2.1, (f2.1 1 rfl).2.2.1, (f2.1 2 rfl).2.2.1]
    exact v1 s hs
  · intro n hn
    rw [(f4.1 16 rfl).2.2.1, (f3.1 16 rfl).2.2.1]
    exact v2 n hn
  · intro i hi
    rw [w4 _ (by omega), v3 i hi]
    split <;> rfl
theorem hsF_val : ∀ s, s < 16 → ∀ w, w < 5 → hsF 16 (5 * s + w) = if w = 0 then 1 else if w = 1 then 1 else if w = 2 then 500 else 0 := by decide +kernel
/-- both sides, at the start -/
theorem start_ok : ∃ tm, m_init tM0 = some tm ∧ RH tX0 tm ∧ RT tX0 tm ∧ RI tX0 tm ∧ RE tX0 tm ∧ RB tX0 tm ∧ RK tX0 tm ∧ RN tX0 tm ∧ RP tX0 tm ∧ RG tX0 tm ∧ RF tX0 tm ∧ RJ tX0 tm ∧ RR tX0 tm ∧ gN tX0 611 = 330 ∧ RW tX0 ∧ nK tm = 0 := by
  obtain ⟨tm, k, f, v1, v2, v3, v4⟩ := m_init_eq
  have i5 : gI tm 5 = 0 := (f.1 5 rfl).1
  have i7 : gI tm 7 = 0 := (f.1 7 rfl).1
  have i13 : gI tm 13 = 0 := (f.1 13 rfl).1
  have i45 : gI tm 45 = 0 := (f.1 45 rfl).1
  have i50 : gI tm 50 = 0 := (f.1 50 rfl).1
  have i54 : gI tm 54 = 0 := (f.1 54 rfl).1
  have i56 : gI tm 56 = 0 := (f.1 56 rfl).1
  have a3 : gA tm 3 = fun _ => 0 := (f.1 3 rfl).2.2.1
  have a4 : gA tm 4 = fun _ => 0 := (f.1 4 rfl).2.2.1
  have a60 : gA tm 60 = fun _ => 0 := (f.1 60 rfl).2.2.1
  have a66 : gA tm 66 = fun _ => 0 := (f.1 66 rfl).2.2.1
  have hnK : nK tm = 0 := by unfold nK; rw [i7]; rfl
  have hnP : nP tm = 0 := by unfold nP; rw [i13]; rfl
  have hnG : nG tm = 0 := by unfold nG; rw [i45]; rfl
  refine ⟨tm, k, ⟨rfl, ?_⟩, ⟨rfl, 0, by omega, rfl, i5, fun i hi => absurd hi (by omega)⟩, ⟨rfl, 0, by omega, rfl, i54, fun i hi => absurd hi (by omega)⟩, ⟨rfl, rfl, 0, by omega, rfl, i56, fun i hi => absurd hi (by omega)⟩, ⟨rfl, rfl, ?_⟩, ⟨⟨rfl, rfl, rfl, rfl, rfl⟩, ⟨?_, by omega, ?_⟩, ⟨?_, by omega, ?_, by omega, ?_, ?_⟩, fun q hq => absurd hq (by omega)⟩, ⟨rfl, ?_⟩, ⟨rfl, 0, by omega, rfl, i50, fun i hi => absurd hi (by omega)⟩, ⟨⟨?_, by omega, ?_⟩, fun i hi => absurd hi (by omega), ?_, ?_, ?_⟩, ⟨rfl, rfl, ?_, ?_, ?_, ?_⟩, ⟨⟨rfl, rfl, rfl⟩, ?_⟩, fun q w j hq => absurd hq (by omega), rfl, ⟨rfl, rfl, rfl, by show 601 ≤ 8414; omega⟩, hnK⟩
  · intro s w hs hw
    have e : gA tX0 500 (5 * s + w) = hsF 16 (5 * s + w) := rfl
    rw [e, hsF_val s hs w hw]
    obtain ⟨x0, x1, x2⟩ := v1 s hs
    rcases (show w = 0 ∨ w = 1 ∨ w = 2 ∨ w = 3 ∨ w = 4 by omega) with rfl | rfl | rfl | rfl | rfl
    · rw [x0]; exact ⟨rfl, 1, by decide, by decide, rfl⟩
    · rw [x1]; exact ⟨rfl, 1, by decide, by decide, rfl⟩
    · rw [x2]; exact ⟨rfl, 500, by decide, by decide, rfl⟩
    · rw [a3]; exact ⟨rfl, 0, by decide, by decide, rfl⟩
    · rw [a4]; exact ⟨rfl, 0, by decide, by decide, rfl⟩
  · intro m hm
    exact ⟨0, by omega, rfl, by rw [a60]; rfl, fun i hi => absurd hi (by omega)⟩
  · rw [hnK, i7]; rfl
  · rw [i7]; rfl
  · rw [hnP, i13]; rfl
  · rw [i13]; rfl
  · show 512 ≤ 512; omega
  · show 512 ≤ 40000; omega
  · intro n hn
    refine ⟨?_, Or.inl (v2 n hn)⟩
    rw [v2 n hn]
    rcases (show n = 0 ∨ n = 1 ∨ n = 2 ∨ n = 3 ∨ n = 4 ∨ n = 5 ∨ n = 6 ∨ n = 7 ∨ n = 8 ∨ n = 9 by omega) with rfl | rfl | rfl | rfl | rfl | rfl | rfl | rfl | rfl | rfl <;> rfl
  · rw [hnG, i45]; rfl
  · rw [i45]; rfl
  · rw [hnG]; rfl
  · rw [hnG]; rfl
  · rw [hnG]
    intro set hset
    have : set = 0 := by simpa using hset
    subst this
    exact ⟨rfl, rfl⟩
  · intro i hi
    exact ((v3 i (by omega))).symm ▸ rfl
  · exact v3 6 (by omega)
  · intro i hi
    have e := v4 i (by omega)
    rw [show 31507 + i = 7 * 4501 + i by omega, e]
    show upd (fun _ => 0) 0 1 i = _
    by_cases q : i = 0
    · subst q; rfl
    · rw [upd_ne q, if_neg q]
  · exact v4 6 (by omega)
  · intro i hi
    rw [a66]
    exact ⟨rfl, Or.inl rfl, fun e => absurd e (show ¬ (0 : Int32) = 1 by decide)⟩
