/-! What waits: the whole run. -/
theorem some_fst {α β : Type} {a c : α} {b d : β} (h : (some (a, b) : Option (α × β)) = some (c, d)) : a = c ∧ b = d := ⟨congrArg Prod.fst (Option.some.inj h), congrArg Prod.snd (Option.some.inj h)⟩
theorem opensPartR {t0 : St} {A : Nat} {t t' : St} {L : Nat} {R : Nat → List Nat} (h : Cor t0 A t L R []) (hA : A + 2 ≤ 81) (h16 : gA t 16 = gA t0 16) (hN : ∀ n, n < 10 → gA t0 16 n = -1 ∨ ∃ k, k < nK t0 ∧ gA t0 16 n = jn k) (hb : ∀ l, l ≤ L → gA t 24 l = 0 ∨ gA t 24 l = 1) {ch v2 : Int32} (hs : m_opensPart t ch v2 = some (0, t')) : fx [7, 8, 9, 10, 11, 12, 13, 14, 15, 19, 20, 21, 22, 23, 24, 25] [] t t' ∧ ((ch = 91 ∧ ∃ R', Cor t0 (A + 2) t' (L + 1) R' [] ∧ ∀ l, l ≤ L + 1 → gA t' 24 l = 0 ∨ gA t' 24 l = 1) ∨ (ch ≠ 91 ∧ ch = 40 ∧ ∃ R', Cor t0 A t' (L + 1) R' [] ∧ ∀ l, l ≤ L + 1 → gA t' 24 l = 0 ∨ gA t' 24 l = 1) ∨ (ch ≠ 91 ∧ ch ≠ 40 ∧ ∃ R', Cor t0 (A + 2) t' L R' [] ∧ R' (4 * L) ≠ [] ∧ ∀ l, l ≤ L → gA t' 24 l = 0 ∨ gA t' 24 l = 1)) := by
  have h8 := h.1.2.1
  have h19 := h.1.1
  -- brackets
  have op : ∀ (b : Bool) (w1 : Int32), w1 = (if b then 1 else 0) → ¬ gI t 19 = 8 → m_opensPart_J126 t v2 w1 = some (0, t') → fx [7, 8, 9, 10, 11, 12, 13, 14, 15, 19, 20, 21, 22, 23, 24, 25] [] t t' ∧ ∃ R', Cor t0 (if b then A + 2 else A) t' (L + 1) R' [] ∧ ∀ l, l ≤ L + 1 → gA t' 24 l = 0 ∨ gA t' 24 l = 1 := by
    intro b w1 hw n8 hh
    have L8 : L < 8 := by
      by_cases c : L = 8
      · subst c; exact absurd h19 n8
      · omega
    obtain ⟨t1, k1, e19, h1, f1, v24⟩ := opensR h L8 b hA
    unfold m_opensPart_J126 at hh
    rw [hw, k1, bs] at hh
    have hh2 := (gd_some hh).2
    simp only [nm] at hh2
    obtain ⟨-, e⟩ := some_fst hh2
    subst e
    have f2 : fx [22] [] t1 (sA t1 22 (gI t1 19) v2) := fx_sA rfl
    refine ⟨(f1.wk rfl rfl).trans (f2.wk rfl rfl), _, h1.fr f2, fun l hl => ?_⟩
    rw [(f2.1 24 rfl).2.2.1, v24]
    by_cases c : l = L + 1
    · rw [if_pos c]
      cases b
      · exact Or.inl rfl
      · exact Or.inr rfl
    · rw [if_neg c]
      exact hb l (by omega)
  have J103 : m_opensPart_J103 t ch v2 = some (0, t') → (ch = 40 ∨ ch = 91) → fx [7, 8, 9, 10, 11, 12, 13, 14, 15, 19, 20, 21, 22, 23, 24, 25] [] t t' ∧ ((ch = 91 ∧ ∃ R', Cor t0 (A + 2) t' (L + 1) R' [] ∧ ∀ l, l ≤ L + 1 → gA t' 24 l = 0 ∨ gA t' 24 l = 1) ∨ (ch ≠ 91 ∧ ch = 40 ∧ ∃ R', Cor t0 A t' (L + 1) R' [] ∧ ∀ l, l ≤ L + 1 → gA t' 24 l = 0 ∨ gA t' 24 l = 1) ∨ (ch ≠ 91 ∧ ch ≠ 40 ∧ ∃ R', Cor t0 (A + 2) t' L R' [] ∧ R' (4 * L) ≠ [] ∧ ∀ l, l ≤ L → gA t' 24 l = 0 ∨ gA t' 24 l = 1)) := by
    intro hh hc
    unfold m_opensPart_J103 at hh
    by_cases n8 : gI t 19 = 8
    · rw [if_pos n8] at hh
      exact absurd (some_fst hh).1 (by decide)
    · rw [if_neg n8] at hh
      by_cases e : ch = 91
      · rw [if_pos e] at hh
        obtain ⟨g1, g2⟩ := op true 1 rfl n8 hh
        exact ⟨g1, Or.inl ⟨e, g2⟩⟩
      · rw [if_neg e] at hh
        obtain ⟨g1, g2⟩ := op false 0 rfl n8 hh
        exact ⟨g1, Or.inr (Or.inl ⟨e, hc.elim id (fun z => absurd z e), g2⟩)⟩
  unfold m_opensPart at hs
  rw [m_in_eq, m_in_eq, bs] at hs
  by_cases l1 : (97 : Int32) ≤ ch ∧ ch ≤ 112
  · rw [if_pos l1, if_neg (by decide)] at hs
    obtain ⟨⟨q, t1⟩, k1, hs1⟩ := bd_some hs
    dsimp only at hs1
    have hs2 := (gd_some hs1).2
    simp only [nm] at hs2
    have hs3 := (gd_some hs2).2
    obtain ⟨t4, k4, hs4⟩ := bd_some hs3
    have e4 := (some_fst hs4).2
    subst e4
    obtain ⟨rfl, h2, f2⟩ := letterR h hA k1 (t2 := sA (sA t1 10 q (ch - 97)) 15 q ((1 : Int32) <<< ((ch - 97) &&& 31))) ((fx_sA rfl).trans (fx_sA rfl))
    obtain ⟨t5, k5, h5, f5⟩ := toRowR h2 (r := 0) (by omega)
    rw [show m_toRow _ 0 (jn (nK t)) = some t5 from k5] at k4
    have : t5 = t4 := Option.some.inj k4
    subst this
    refine ⟨(f2.wk rfl rfl).trans (f5.wk rfl rfl), Or.inr (Or.inr ⟨?_, ?_, _, h5, ?_, fun l hl => ?_⟩)⟩
    · intro e; subst e; exact absurd l1.1 (by decide)
    · intro e; subst e; exact absurd l1.1 (by decide)
    · rw [show 4 * L = 4 * L + 0 from rfl, setR_at]; exact app_ne
    · rw [(f5.1 24 rfl).2.2.1, (f2.1 24 rfl).2.2.1]; exact hb l hl
  · rw [if_neg l1, if_pos rfl, bs] at hs
    by_cases l2 : (48 : Int32) ≤ ch ∧ ch ≤ 57
    · rw [if_pos l2, if_neg (by decide)] at hs
      have hs1 := gd_some hs
      have hs2 := hs1.2
      have g2 : (ch - 48).toNatClampNeg < 10 := Nat.lt_of_not_le fun e => hs1.1 (Or.inr e)
      have hs2' := hs2
      by_cases c : gA t 16 (ch - 48).toNatClampNeg = -1
      · rw [if_pos c] at hs2'
        exact absurd (some_fst hs2').1 (by decide)
      · rw [if_neg c] at hs2'
        have hs3 := (gd_some hs2').2
        obtain ⟨t4, k4, hs4⟩ := bd_some hs3
        have e4 := (some_fst hs4).2
        subst e4
        rw [h16] at c k4
        rcases hN (ch - 48).toNatClampNeg g2 with e | ⟨k, hk, e⟩
        · exact absurd e c
        · rw [e] at k4
          have hr : rootB t0 k = true := anyB_t.mpr ⟨_, g2, decide_eq_true e⟩
          obtain ⟨t5, k5, h5, f5⟩ := toRowR (digitR h hA hk hr) (r := 0) (by omega)
          rw [show m_toRow _ 0 (jn k) = some t5 from k5] at k4
          have : t5 = t4 := Option.some.inj k4
          subst this
          refine ⟨f5.wk rfl rfl, Or.inr (Or.inr ⟨?_, ?_, _, h5, ?_, fun l hl => ?_⟩)⟩
          · intro e; subst e; exact absurd l2.2 (by decide)
          · intro e; subst e; exact absurd l2.1 (by decide)
          · rw [show 4 * L = 4 * L + 0 from rfl, setR_at]; exact app_ne
          · rw [(f5.1 24 rfl).2.2.1]; exact hb l hl
    · rw [if_neg l2, if_pos rfl] at hs
      by_cases l3 : ch = 40
      · rw [if_pos l3] at hs
        exact J103 hs (Or.inl l3)
      · rw [if_neg l3] at hs
        by_cases l4 : ch = 91
        · rw [if_pos l4] at hs
          exact J103 hs (Or.inr l4)
        · rw [if_neg l4] at hs
          exact absurd (some_fst hs).1 (by decide)
theorem goesOnR {t0 : St} {A : Nat} {t t' : St} {L : Nat} {R : Nat → List Nat} (h : Cor t0 A t L R []) (hA : A + 1 ≤ 81) (hne : R (4 * L) ≠ []) (hb : ∀ l, l ≤ L → gA t 24 l = 0 ∨ gA t 24 l = 1) {ch v2 : Int32} (hs : m_goesOn t ch v2 = some (0, t')) : fx [7, 8, 9, 10, 11, 12, 13, 14, 15, 19, 20, 21, 25] [] t t' ∧ ∃ L' R', L' ≤ L ∧ if ch = 41 ∨ ch = 93 then Cor t0 (A + 1) t' L' R' [] ∧ R' (4 * L') ≠ [] else Cor t0 A t' L' R' [] := by
  unfold m_goesOn at hs
  simp only [nm] at hs
  generalize ht1 : sI t 25 v2 = t1 at hs
  have f0 : fx [25] [] t t1 := by subst ht1; exact fx_sI rfl
  have h1 : Cor t0 A t1 L R [] := h.fr f0
  have h19 := h1.1.1
  have hb1 : ∀ l, l ≤ L → gA t1 24 l = 0 ∨ gA t1 24 l = 1 := fun l hl => by rw [(f0.1 24 rfl).2.2.1]; exact hb l hl
  have up : ∀ r t2, r ≤ 3 → mF r t1 = some t2 → ∃ R', Cor t0 A t2 L R' [] ∧ R' (4 * L + r) ≠ [] ∧ fx [7, 8, 9, 10, 11, 12, 13, 14, 15, 20, 21] [] t1 t2 := by
    intro r t2 hr e
    obtain ⟨t3, R', k1, k2, k3, k4⟩ := endsF h1 hne r hr
    rw [e] at k1
    have := Option.some.inj k1
    subst this
    exact ⟨R', k2, k3, k4⟩
  have J72 : m_goesOn_J72 t1 ch = some (0, t') → fx [7, 8, 9, 10, 11, 12, 13, 14, 15, 19, 20, 21, 25] [] t t' ∧ ∃ L' R', L' ≤ L ∧ if ch = 41 ∨ ch = 93 then Cor t0 (A + 1) t' L' R' [] ∧ R' (4 * L') ≠ [] else Cor t0 A t' L' R' [] := by
    intro hh
    have J84 : m_goesOn_J84 t1 ch = some (0, t') → (ch = 44 ∨ ch = 93) → fx [7, 8, 9, 10, 11, 12, 13, 14, 15, 19, 20, 21, 25] [] t t' ∧ ∃ L' R', L' ≤ L ∧ if ch = 41 ∨ ch = 93 then Cor t0 (A + 1) t' L' R' [] ∧ R' (4 * L') ≠ [] else Cor t0 A t' L' R' [] := by
      intro hj hc
      by_cases l0 : L = 0
      · subst l0
        unfold m_goesOn_J84 at hj
        rw [h19, if_pos (by decide)] at hj
        exact absurd (some_fst hj).1 (by decide)
      · obtain ⟨L', rfl⟩ : ∃ L', L = L' + 1 := ⟨L - 1, by omega⟩
        have h8 := h1.1.2.1
        rcases hb1 (L' + 1) (Nat.le_refl _) with e24 | e24
        · unfold m_goesOn_J84 at hj
          rw [h19, if_neg (jnle (x := 0) 0 rfl (by omega) (by omega)), gd_jn (by omega) (by omega), jn_cl (by omega), e24, if_pos rfl] at hj
          exact absurd (some_fst hj).1 (by decide)
        · obtain ⟨t3, R3, k3, h3, n3, f3⟩ := endsF h1 hne 3 (by omega)
          rw [goes_net ch k3 h19 (by omega) e24] at hj
          have h319 := h3.1.1
          by_cases c44 : ch = 44
          · rw [if_pos c44] at hj
            have hj2 := (gd_some hj).2
            split at hj2
            · exact absurd (some_fst hj2).1 (by decide)
            · have e := (some_fst hj2).2
              subst e
              refine ⟨(f0.wk rfl rfl).trans (f3.wk rfl rfl), L' + 1, R3, Nat.le_refl _, ?_⟩
              rw [if_neg (by subst c44; decide)]
              exact h3
          · rw [if_neg c44] at hj
            have c93 : ch = 93 := hc.elim (fun z => absurd z c44) id
            obtain ⟨⟨q, t4⟩, k4, hj2⟩ := bd_some hj
            obtain ⟨e1, e2⟩ := some_fst hj2
            dsimp only at e1 e2
            subst e1
            subst e2
            obtain ⟨R4, h4, n4, f4⟩ := squaresR h3 hA n3 (by rw [(f3.1 24 rfl).2.2.1]; exact e24) k4
            refine ⟨(f0.wk rfl rfl).trans ((f3.wk rfl rfl).trans (f4.wk rfl rfl)), L', R4, by omega, ?_⟩
            rw [if_pos (Or.inr c93)]
            exact ⟨h4, n4⟩
    unfold m_goesOn_J72 at hh
    by_cases c44 : ch = 44
    · rw [if_pos c44] at hh
      exact J84 hh (Or.inl c44)
    · rw [if_neg c44] at hh
      by_cases c93 : ch = 93
      · rw [if_pos c93] at hh
        exact J84 hh (Or.inr c93)
      · rw [if_neg c93] at hh
        exact absurd (some_fst hh).1 (by decide)
  by_cases c38 : ch = 38
  · rw [if_pos c38] at hs
    have e := (some_fst hs).2
    subst e
    refine ⟨f0.wk rfl rfl, L, R, Nat.le_refl _, ?_⟩
    rw [if_neg (by subst c38; decide)]
    exact h1
  · rw [if_neg c38] at hs
    by_cases c62 : ch = 62
    · rw [if_pos c62] at hs
      obtain ⟨t2, k2, hs2⟩ := bd_some hs
      have e := (some_fst hs2).2
      subst e
      rw [endsBoth_F] at k2
      obtain ⟨R', g1, g2, g3⟩ := up 1 _ (by omega) k2
      refine ⟨(f0.wk rfl rfl).trans (g3.wk rfl rfl), L, R', Nat.le_refl _, ?_⟩
      rw [if_neg (by subst c62; decide)]
      exact g1
    · rw [if_neg c62] at hs
      by_cases c124 : ch = 124
      · rw [if_pos c124] at hs
        obtain ⟨t2, k2, hs2⟩ := bd_some hs
        have e := (some_fst hs2).2
        subst e
        rw [endsChain_F] at k2
        obtain ⟨R', g1, g2, g3⟩ := up 2 _ (by omega) k2
        refine ⟨(f0.wk rfl rfl).trans (g3.wk rfl rfl), L, R', Nat.le_refl _, ?_⟩
        rw [if_neg (by subst c124; decide)]
        exact g1
      · rw [if_neg c124] at hs
        by_cases c41 : ch = 41
        · rw [if_pos c41] at hs
          by_cases l0 : gI t1 19 ≤ 0
          · rw [if_pos l0] at hs
            exact J72 hs
          · rw [if_neg l0] at hs
            have hs2 := (gd_some hs).2
            by_cases s0 : gA t1 24 (gI t1 19).toNatClampNeg = 0
            · rw [if_pos s0] at hs2
              obtain ⟨⟨k, t2⟩, k2, hs3⟩ := bd_some hs2
              obtain ⟨t3, k3, hs4⟩ := bd_some hs3
              have e := (some_fst hs4).2
              subst e
              rw [endsNet_E] at k2
              obtain ⟨k', t2', R', g1, g2, g3⟩ := ER h1 hne
              rw [k2] at g1
              obtain ⟨e1, e2⟩ := some_fst g1
              subst e1
              subst e2
              have lpos : L ≠ 0 := fun e => by
                subst e
                rw [h19] at l0
                exact l0 (by decide)
              obtain ⟨L', rfl⟩ : ∃ L', L = L' + 1 := ⟨L - 1, by omega⟩
              obtain ⟨t5, R5, k5, h5, n5, f5⟩ := closesR g2
              dsimp only at k3
              rw [k5] at k3
              have := Option.some.inj k3
              subst this
              refine ⟨(f0.wk rfl rfl).trans ((g3.wk rfl rfl).trans (f5.wk rfl rfl)), L', R5, by omega, ?_⟩
              rw [if_pos (Or.inl c41)]
              exact ⟨h5.up (by omega) hA, n5⟩
            · rw [if_neg s0] at hs2
              exact J72 hs2
        · rw [if_neg c41] at hs
          exact J72 hs
