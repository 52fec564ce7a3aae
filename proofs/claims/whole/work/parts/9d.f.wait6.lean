/-! The pool's bound is kept by a new net. -/
def NetsOf (t0 : St) : Prop := ∀ n, n < 10 → gA t0 16 n = -1 ∨ ∃ k, k < nK t0 ∧ gA t0 16 n = jn k
def MIv (t0 : St) (n : Nat) (x : Int32 × Int32 × St) : Prop := ∃ due i L R, x.1 = jn due ∧ x.2.1 = jn i ∧ due ≤ 2 ∧ i ≤ n ∧ gI x.2.2 5 = jn n ∧ gA x.2.2 16 = gA t0 16 ∧ Cor t0 (i + min due 1) x.2.2 L R [] ∧ (due = 1 → R (4 * L) ≠ []) ∧ ∀ l, l ≤ L → gA x.2.2 24 l = 0 ∨ gA x.2.2 24 l = 1
theorem J144_l {t : St} {v1 v2 v4 : Int32} {x' : Int32 × Int32 × St} (h : m_reads_J144 t v1 v2 v4 = some (.inl x')) : v4 = 0 ∧ x' = (v1, v2 + 1, t) := by
  unfold m_reads_J144 at h
  by_cases c : v4 = 0
  · rw [if_pos c] at h
    simp only [nm] at h
    exact ⟨c, (Sum.inl.inj (Option.some.inj h)).symm⟩
  · rw [if_neg c] at h
    cases Option.some.inj h
theorem J144_r {t : St} {v1 v2 v4 : Int32} {y : (Int32 × St) ⊕ (Int32 × St)} (h : m_reads_J144 t v1 v2 v4 = some (.inr y)) : ∃ f s, y = .inl (f, s) ∧ f ≠ 0 := by
  unfold m_reads_J144 at h
  by_cases c : v4 = 0
  · rw [if_pos c] at h
    simp only [nm] at h
    cases Option.some.inj h
  · rw [if_neg c] at h
    exact ⟨v4, t, (Sum.inr.inj (Option.some.inj h)).symm, c⟩
theorem reads_body {due i n : Nat} {t : St} (hd : due ≤ 2) (h5 : gI t 5 = jn n) (hn : n ≤ 80) (hi : i ≤ n) {r : (Int32 × Int32 × St) ⊕ ((Int32 × St) ⊕ (Int32 × St))} (h : m_reads_B14 (jn due) (jn i) t = some r) : (n ≤ i ∧ r = .inr (.inr (jn due, t))) ∨ (i < n ∧ r = .inl (jn due, jn (i + 1), t)) ∨ (i < n ∧ ∃ ch, (due = 2 ∧ ∃ w, gd (gI (sI t 25 (jn i)) 19) 9 (m_reads_J144 (sA (sI t 25 (jn i)) 23 (gI (sI t 25 (jn i)) 19) (jn i)) 0 (jn i) w) = some r) ∨ (due = 0 ∧ ∃ q, m_opensPart (sI t 25 (jn i)) ch (jn i) = some q ∧ m_reads_J144 q.2 (if ch = 91 then 2 else if ch = 40 then 0 else 1) (jn i) q.1 = some r) ∨ (due = 1 ∧ ∃ q, m_goesOn (sI t 25 (jn i)) ch (jn i) = some q ∧ m_reads_J144 q.2 (if ch = 41 ∨ ch = 93 then 1 else 0) (jn i) q.1 = some r)) := by
  unfold m_reads_B14 at h
  rw [h5] at h
  by_cases c : n ≤ i
  · rw [if_pos ((jn_le (by omega) (by omega)).mpr c)] at h
    exact Or.inl ⟨c, (Option.some.inj h).symm⟩
  · rw [if_neg (fun e => c ((jn_le (by omega) (by omega)).mp e))] at h
    have h2 := (gd_some h).2
    simp only [nm] at h2
    generalize gA t 6 (jn i).toNatClampNeg = ch at h2
    right
    by_cases c32 : ch = 32
    · rw [if_pos c32, jn_s] at h2
      exact Or.inl ⟨by omega, (Option.some.inj h2).symm⟩
    · rw [if_neg c32] at h2
      right
      refine ⟨by omega, ch, ?_⟩
      rcases (show due = 2 ∨ due = 0 ∨ due = 1 by omega) with e | e | e
      · subst e
        left
        rw [if_pos (show jn 2 = 2 from rfl)] at h2
        obtain ⟨q, k1, k2⟩ := bd_some h2
        by_cases z : q = 0
        · rw [if_pos z] at k2
          unfold m_reads_J64 at k2
          simp only [nm] at k2
          exact ⟨rfl, 1, k2⟩
        · rw [if_neg z] at k2
          unfold m_reads_J64 at k2
          simp only [nm] at k2
          exact ⟨rfl, 0, k2⟩
      · subst e
        right
        left
        rw [if_neg (show ¬ jn 0 = 2 by decide), if_pos (show jn 0 = 0 from rfl)] at h2
        obtain ⟨q, k1, k2⟩ := bd_some h2
        refine ⟨rfl, q, k1, ?_⟩
        unfold m_reads_J114 at k2
        by_cases c91 : ch = 91
        · rw [if_pos c91] at k2 ⊢
          exact k2
        · rw [if_neg c91] at k2 ⊢
          by_cases c40 : ch = 40
          · rw [if_pos c40] at k2 ⊢
            exact k2
          · rw [if_neg c40] at k2 ⊢
            exact k2
      · subst e
        right
        right
        rw [if_neg (show ¬ jn 1 = 2 by decide), if_neg (show ¬ jn 1 = 0 by decide)] at h2
        obtain ⟨q, k1, k2⟩ := bd_some h2
        refine ⟨rfl, q, k1, ?_⟩
        unfold m_reads_J138 m_reads_J143 at k2
        by_cases c41 : ch = 41
        · rw [if_pos c41] at k2
          rw [if_pos (Or.inl c41)]
          exact k2
        · rw [if_neg c41] at k2
          by_cases c93 : ch = 93
          · rw [if_pos c93] at k2
            rw [if_pos (Or.inr c93)]
            exact k2
          · rw [if_neg c93] at k2
            rw [if_neg (fun e => e.elim c41 c93)]
            exact k2
theorem stepR {t0 : St} {n : Nat} (hn : n ≤ 80) (hN : NetsOf t0) {x x' : Int32 × Int32 × St} (I : MIv t0 n x) (h : m_reads_B14 x.1 x.2.1 x.2.2 = some (.inl x')) : MIv t0 n x' := by
  obtain ⟨due, i, L, R, e1, e2, hd, hi, h5, h16, hC, hne, hb⟩ := I
  obtain ⟨x1, x2, t⟩ := x
  dsimp only at e1 e2 h5 h16 hC hne hb h
  subst e1
  subst e2
  have f0 : fx [25] [] t (sI t 25 (jn i)) := fx_sI rfl
  have hC0 : Cor t0 (i + min due 1) (sI t 25 (jn i)) L R [] := hC.fr f0
  have hb0 : ∀ l, l ≤ L → gA (sI t 25 (jn i)) 24 l = 0 ∨ gA (sI t 25 (jn i)) 24 l = 1 := hb
  rcases reads_body hd h5 hn hi h with ⟨-, e⟩ | ⟨lt, e⟩ | ⟨lt, ch, ⟨e, w, e3⟩ | ⟨e, q, k1, k2⟩ | ⟨e, q, k1, k2⟩⟩
  · cases e
  · have := Sum.inl.inj e
    subst this
    exact ⟨due, i + 1, L, R, rfl, rfl, hd, by omega, h5, h16, hC.up (by omega) (by omega), hne, hb⟩
  · subst e
    have e4 := J144_l (gd_some e3).2
    obtain ⟨-, rfl⟩ := e4
    have f1 : fx [23] [] (sI t 25 (jn i)) (sA (sI t 25 (jn i)) 23 (gI (sI t 25 (jn i)) 19) (jn i)) := fx_sA rfl
    refine ⟨0, i + 1, L, R, rfl, jn_s i, by omega, by omega, (f1.1 5 rfl).1.trans h5, (f1.1 16 rfl).2.2.1.trans h16, (hC0.fr f1).up (by omega) (by omega), fun h => by omega, fun l hl => ?_⟩
    show gA _ 24 l = 0 ∨ gA _ 24 l = 1
    rw [(f1.1 24 rfl).2.2.1]
    exact hb0 l hl
  · subst e
    obtain ⟨e4, rfl⟩ := J144_l k2
    obtain ⟨q1, q2⟩ := q
    dsimp only at e4
    subst e4
    obtain ⟨fq, cs⟩ := opensPartR (A := i) hC0 (by omega) h16 hN hb0 k1
    have h5q : gI q2 5 = jn n := (fq.1 5 rfl).1.trans h5
    have h16q : gA q2 16 = gA t0 16 := (fq.1 16 rfl).2.2.1.trans h16
    rcases cs with ⟨c1, R', g1, g2⟩ | ⟨c1, c2, R', g1, g2⟩ | ⟨c1, c2, R', g1, g2, g3⟩
    · rw [if_pos c1]
      exact ⟨2, i + 1, L + 1, R', rfl, jn_s i, by omega, by omega, h5q, h16q, g1.up (by omega) (by omega), fun h => by omega, g2⟩
    · rw [if_neg c1, if_pos c2]
      exact ⟨0, i + 1, L + 1, R', rfl, jn_s i, by omega, by omega, h5q, h16q, g1.up (by omega) (by omega), fun h => by omega, g2⟩
    · rw [if_neg c1, if_neg c2]
      exact ⟨1, i + 1, L, R', rfl, jn_s i, by omega, by omega, h5q, h16q, g1.up (by omega) (by omega), fun _ => g2, g3⟩
  · subst e
    obtain ⟨e4, rfl⟩ := J144_l k2
    obtain ⟨q1, q2⟩ := q
    dsimp only at e4
    subst e4
    obtain ⟨fq, L', R', hl, g⟩ := goesOnR (A := i + 1) hC0 (by omega) (hne rfl) hb0 k1
    have h5q : gI q2 5 = jn n := (fq.1 5 rfl).1.trans h5
    have h16q : gA q2 16 = gA t0 16 := (fq.1 16 rfl).2.2.1.trans h16
    have hbq : ∀ l, l ≤ L' → gA q2 24 l = 0 ∨ gA q2 24 l = 1 := fun l hl2 => by
      rw [(fq.1 24 rfl).2.2.1]; exact hb0 l (by omega)
    by_cases c : ch = 41 ∨ ch = 93
    · rw [if_pos c] at g ⊢
      exact ⟨1, i + 1, L', R', rfl, jn_s i, by omega, by omega, h5q, h16q, g.1.up (by omega) (by omega), fun _ => g.2, hbq⟩
    · rw [if_neg c] at g ⊢
      exact ⟨0, i + 1, L', R', rfl, jn_s i, by omega, by omega, h5q, h16q, g.up (by omega) (by omega), fun h => by omega, hbq⟩
def FinR (t0 : St) (n : Nat) (y : (Int32 × St) ⊕ (Int32 × St)) : Prop := (∃ f s, y = .inl (f, s) ∧ f ≠ 0) ∨ ∃ d i s, y = .inr (d, s) ∧ MIv t0 n (d, i, s)
theorem finR {t0 : St} {n : Nat} (hn : n ≤ 80) {x : Int32 × Int32 × St} {y : (Int32 × St) ⊕ (Int32 × St)} (I : MIv t0 n x) (h : m_reads_B14 x.1 x.2.1 x.2.2 = some (.inr y)) : FinR t0 n y := by
  have I0 := I
  obtain ⟨due, i, L, R, e1, e2, hd, hi, h5, h16, hC, hne, hb⟩ := I
  obtain ⟨x1, x2, t⟩ := x
  dsimp only at e1 e2 h5 h16 hC hne hb h
  subst e1
  subst e2
  rcases reads_body hd h5 hn hi h with ⟨-, e⟩ | ⟨lt, e⟩ | ⟨lt, ch, ⟨e, w, e3⟩ | ⟨e, q, k1, k2⟩ | ⟨e, q, k1, k2⟩⟩
  · have := Sum.inr.inj e
    subst this
    exact Or.inr ⟨_, _, _, rfl, I0⟩
  · cases e
  · exact Or.inl (J144_r (gd_some e3).2)
  · exact Or.inl (J144_r k2)
  · exact Or.inl (J144_r k2)
theorem Cor.start {tx tm q : St} (hK : RK tx tm) (h19 : gI q 19 = jn 0) (hf : fx [19, 20, 24] [] tm q) (h20 : ∀ x, x < 4 → gA q 20 x = 0) (h24 : gA q 24 0 = 0) : Cor tm 0 q 0 (fun _ => []) [] := by
  have h250 := nK_lt hK
  have eK : nK q = nK tm := nK_fr hf
  have eP : nP q = nP tm := nP_fr hf
  have hP := hK.2.2.1.2.1
  have nw : ∀ j, ¬ WB (4 * (0 + 1)) (fun _ => []) [] j := by
    rintro j (h | ⟨x, -, h⟩)
    · exact List.not_mem_nil h
    · exact List.not_mem_nil h
  have p0 : ∀ f : Nat → Nat, potN f (4 * (0 + 1)) (fun _ => []) [] = 0 := fun f => rfl
  have n0 : entN (4 * (0 + 1)) (fun _ => []) [] = 0 := rfl
  have s0 : sqN q 0 = 0 := by
    show 0 + (if gA q 24 0 = 1 then 1 else 0) = 0
    rw [h24]
    rfl
  have old := OldK.fx hf
  refine ⟨⟨h19, by omega, fun x hx => ⟨(h20 x (by omega)).trans rfl, fun i hi => absurd hi (Nat.not_lt_zero i)⟩⟩, ⟨by rw [eK, (hf.1 7 rfl).1]; exact hK.2.1.1, by rw [eP, (hf.1 13 rfl).1]; exact hK.2.2.1.1, by omega, h250, by omega, by omega⟩, fun u hu => ?_, fun j hj => absurd hj (nw j), ⟨by rw [p0, s0]; omega, by omega, by omega⟩, fun K k1 k2 => ⟨fun _ => false, fun j j1 j2 => by omega, by
    have := cntB_dn (g := fun _ => false) (n := K) (m := 0) (fun _ _ _ => rfl)
    omega⟩⟩
  rw [eK] at hu
  obtain ⟨s1, s2, s3, d1, d2, d3, g1, g2, g3, m1, m2, q1, q2⟩ := hK.2.2.2 u hu
  obtain ⟨p1, p2, p3⟩ := old.s hu
  rw [p1, p2, p3, eP]
  refine ⟨fun z => ?_, fun h => by omega⟩
  obtain ⟨e1, e2, e3, e4, e5, -⟩ := q2 z
  exact e5
