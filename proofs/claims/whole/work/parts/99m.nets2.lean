/-! More calls of a net: refused alike on both sides, or worked. -/
theorem pre_wayAt {tx tm : St} (hK : RK tx tm) (hN : RN tx tm) (a1 a2 : Int32) : (∃ r, x11_wayAt tx a1 a2 = some (r, tx) ∧ m_wayAt tm a1 a2 = some (r, tm)) ∨ ∃ n k, n ≤ 9 ∧ k < nK tm ∧ gA tm 16 n = jn k ∧ gA tx 602 n = jn k ∧ a1 = jn n ∧ ∃ i, i < 2147483648 ∧ a2 = jn i := by
  have h250 := nK_lt hK
  unfold x11_wayAt m_wayAt m_wayAt_J11 m_whyWays
  rcases io a1 0 9 with ⟨n, ln, un, rfl⟩ | nn
  · by_cases ga : 0 ≤ a2
    · obtain ⟨i, hi, rfl⟩ := ex_jn ga
      have gb : ¬ jn i < 0 := jn_neg hi
      obtain ⟨i1, i2⟩ := hN.2 n (by omega)
      rcases i2 with i2 | ⟨k, hk, i2⟩
      · refine Or.inl ⟨-3, ?_, ?_⟩
        · simp only [noNet_T un, if_pos ga, bs, if_true, nm]
          rw [hN.1, gd_jn (by omega) (by omega), jn_cl (by omega), i1, i2]
          rfl
        · simp only [if_neg gb, bs, why_no un i2, if_true]
          rfl
      · exact Or.inr ⟨n, k, un, hk, i2, i1.trans i2, rfl, i, hi, rfl⟩
    · have gb : a2 < 0 := by
        rw [Int32.le_iff_toInt_le] at ga
        rw [Int32.lt_iff_toInt_lt]
        omega
      refine Or.inl ⟨-2, ?_, ?_⟩
      · simp only [noNet_T un, bs, if_true, if_neg ga]
      · simp only [if_pos gb, bs, why_wrong un]
        rfl
  · refine Or.inl ⟨-2, ?_, ?_⟩
    · simp only [noNet_F nn, bs, o0]
    · by_cases gb : a2 < 0
      · simp only [if_pos gb, bs, why_bad nn]
        rfl
      · simp only [if_neg gb, bs, why_bad nn]
        rfl

theorem pre_least {tx tm : St} (hK : RK tx tm) (hN : RN tx tm) (a1 a2 : Int32) : (∃ r, x11_least tx a1 a2 = some (r, tx) ∧ m_least tm a1 a2 = some (r, tm)) ∨ ∃ n k, n ≤ 9 ∧ k < nK tm ∧ gA tm 16 n = jn k ∧ gA tx 602 n = jn k ∧ a1 = jn n ∧ ∃ w, 0 ≤ w ∧ w ≤ 1 ∧ a2 = jn w := by
  have h250 := nK_lt hK
  unfold x11_least x11_leastWay m_least m_whyWays
  rcases io a1 0 9 with ⟨n, ln, un, rfl⟩ | nn
  · rcases io a2 0 1 with ⟨w, l1, u1, rfl⟩ | n1
    · have e1 : ∀ t, x11_outside t (jn w) 0 1 = some 0 := oT l1 u1 (by decide)
      have f1 : ∀ t, m_in t (jn w) 0 1 = some 1 := iT l1 u1 (by decide)
      obtain ⟨i1, i2⟩ := hN.2 n (by omega)
      rcases i2 with i2 | ⟨k, hk, i2⟩
      · refine Or.inl ⟨-3, ?_, ?_⟩
        · simp only [noNet_T un, e1, bs, if_true, nm]
          rw [hN.1, gd_jn (by omega) (by omega), jn_cl (by omega), i1, i2]
          rfl
        · simp only [f1, bs, why_no un i2, if_true]
          rfl
      · exact Or.inr ⟨n, k, un, hk, i2, i1.trans i2, rfl, w, l1, u1, rfl⟩
    · have e1 : ∀ t, x11_outside t a2 0 1 = some 1 := oF n1
      have f1 : ∀ t, m_in t a2 0 1 = some 0 := iF n1
      refine Or.inl ⟨-2, ?_, ?_⟩
      · simp only [noNet_T un, e1, bs, if_true, o0]
        rfl
      · simp only [f1, bs, why_wrong un]
        rfl
  · refine Or.inl ⟨-2, ?_, ?_⟩
    · simp only [noNet_F nn, bs, o0]
      rfl
    · simp only [m_in_eq, bs, why_bad nn]
      rfl

theorem pre_frontAt {tx tm : St} (hK : RK tx tm) (hN : RN tx tm) (a1 a2 a3 : Int32) : (∃ r, x11_frontAt tx a1 a2 a3 = some (r, tx) ∧ m_frontAt tm a1 a2 a3 = some (r, tm)) ∨ ∃ n k, n ≤ 9 ∧ k < nK tm ∧ gA tm 16 n = jn k ∧ gA tx 602 n = jn k ∧ a1 = jn n ∧ (∃ i, i < 2147483648 ∧ a2 = jn i) ∧ ∃ w, 0 ≤ w ∧ w ≤ 1 ∧ a3 = jn w := by
  have h250 := nK_lt hK
  unfold x11_frontAt m_frontAt m_frontAt_J19 m_frontAt_J20 m_whyChance
  rcases io a1 0 9 with ⟨n, ln, un, rfl⟩ | nn
  · by_cases gb : a2 < 0
    · refine Or.inl ⟨-2, ?_, ?_⟩
      · simp only [noNet_T un, bs, if_true, if_pos gb]
      · simp only [if_pos gb, bs, why_wrong un]
        rfl
    · have ga : 0 ≤ a2 := by
        rw [Int32.lt_iff_toInt_lt] at gb
        rw [Int32.le_iff_toInt_le]
        omega
      obtain ⟨i, hi, rfl⟩ := ex_jn ga
      rcases io a3 0 1 with ⟨w, l1, u1, rfl⟩ | n1
      · have e1 : ∀ t, x11_outside t (jn w) 0 1 = some 0 := oT l1 u1 (by decide)
        have f1 : ∀ t, m_in t (jn w) 0 1 = some 1 := iT l1 u1 (by decide)
        obtain ⟨i1, i2⟩ := hN.2 n (by omega)
        rcases i2 with i2 | ⟨k, hk, i2⟩
        · refine Or.inl ⟨-3, ?_, ?_⟩
          · simp only [noNet_T un, if_neg gb, e1, bs, if_true, nm]
            rw [hN.1, gd_jn (by omega) (by omega), jn_cl (by omega), i1, i2]
            rfl
          · simp only [if_neg gb, f1, o0, bs, why_no un i2, if_true]
            rfl
        · exact Or.inr ⟨n, k, un, hk, i2, i1.trans i2, rfl, ⟨i, hi, rfl⟩, w, l1, u1, rfl⟩
      · have e1 : ∀ t, x11_outside t a3 0 1 = some 1 := oF n1
        have f1 : ∀ t, m_in t a3 0 1 = some 0 := iF n1
        refine Or.inl ⟨-2, ?_, ?_⟩
        · simp only [noNet_T un, if_neg gb, e1, bs, if_true, o0]
        · simp only [if_neg gb, f1, bs, z0, if_true, why_wrong un]
          rfl
  · refine Or.inl ⟨-2, ?_, ?_⟩
    · simp only [noNet_F nn, bs, o0]
    · by_cases gb : a2 < 0
      · simp only [if_pos gb, bs, why_bad nn]
        rfl
      · by_cases gc : jn 0 ≤ a3 ∧ a3 ≤ jn 1
        · have f1 : ∀ t, m_in t a3 0 1 = some 1 := fun t => by rw [m_in_eq]; exact congrArg some (if_pos gc)
          simp only [if_neg gb, f1, bs, o0, why_bad nn]
          rfl
        · have f1 : ∀ t, m_in t a3 0 1 = some 0 := iF gc
          simp only [if_neg gb, f1, bs, z0, if_true, why_bad nn]
          rfl

theorem pre_game {tx tm : St} (hK : RK tx tm) (hN : RN tx tm) (hP : RP tx tm) (a1 : Int32) : (∃ r, x11_game tx a1 = some (r, tx) ∧ m_game tm a1 = some (r, tm)) ∨ ∃ n k, n ≤ 9 ∧ k < nK tm ∧ gA tm 16 n = jn k ∧ gA tx 602 n = jn k ∧ a1 = jn n ∧ ¬ gI tm 50 = 0 ∧ gI tx 302 = gI tm 50 := by
  have h250 := nK_lt hK
  obtain ⟨-, p, -, p1, p2, -⟩ := hP
  unfold x11_game m_game
  rcases io a1 0 9 with ⟨n, ln, un, rfl⟩ | nn
  · obtain ⟨i1, i2⟩ := hN.2 n (by omega)
    rcases i2 with i2 | ⟨k, hk, i2⟩
    · refine Or.inl ⟨-3, ?_, ?_⟩
      · simp only [noNet_T un, bs, if_true, nm]
        rw [hN.1, gd_jn (by omega) (by omega), jn_cl (by omega), i1, i2]
        rfl
      · simp only [bs, why_no un i2, if_true]
        rfl
    · by_cases q : gI tm 50 = 0
      · refine Or.inl ⟨-3, ?_, ?_⟩
        · simp only [noNet_T un, bs, if_true, nm]
          rw [hN.1, gd_jn (by omega) (by omega), jn_cl (by omega), i1, i2, if_neg (jn_neg (by omega)), p1, ← p2, if_pos q]
        · simp only [bs, why_ok un i2 (show k < 2147483648 by omega), if_true, if_pos q]
      · exact Or.inr ⟨n, k, un, hk, i2, i1.trans i2, rfl, q, p1.trans p2.symm⟩
  · refine Or.inl ⟨-2, ?_, ?_⟩
    · simp only [noNet_F nn, bs, o0]
    · simp only [bs, why_bad nn]
      rfl

theorem pre_worst {tx tm : St} (hK : RK tx tm) (hN : RN tx tm) (hI : RI tx tm) (a1 a2 a3 : Int32) : (∃ r, x11_worst tx a1 a2 a3 = some (r, tx) ∧ m_worst tm a1 a2 a3 = some (r, tm)) ∨ ∃ n k, n ≤ 9 ∧ k < nK tm ∧ gA tm 16 n = jn k ∧ gA tx 602 n = jn k ∧ a1 = jn n ∧ (∃ i c, i ≤ c ∧ c ≤ 6 ∧ gI tm 54 = jn c ∧ gI tx 1007 = jn c ∧ a2 = jn i) ∧ ∃ w, 0 ≤ w ∧ w ≤ 1 ∧ a3 = jn w := by
  have h250 := nK_lt hK
  obtain ⟨-, c, hc6, c1, c2, -⟩ := hI
  unfold x11_worst m_worst m_worst_J27 m_worst_J28 m_whyWays
  rw [c1, c2]
  rcases io a1 0 9 with ⟨n, ln, un, rfl⟩ | nn
  · rcases io a2 0 c (by decide) (by omega) with ⟨i, l0, u0, rfl⟩ | n0
    · have e0 : ∀ t, x11_outside t (jn i) 0 (jn c) = some 0 := oT l0 u0 (by omega)
      have f0 : ∀ t, m_in t (jn i) 0 (jn c) = some 1 := iT l0 u0 (by omega)
      rcases io a3 0 1 with ⟨w, l1, u1, rfl⟩ | n1
      · have e1 : ∀ t, x11_outside t (jn w) 0 1 = some 0 := oT l1 u1 (by decide)
        have f1 : ∀ t, m_in t (jn w) 0 1 = some 1 := iT l1 u1 (by decide)
        obtain ⟨i1, i2⟩ := hN.2 n (by omega)
        rcases i2 with i2 | ⟨k, hk, i2⟩
        · refine Or.inl ⟨-3, ?_, ?_⟩
          · simp only [noNet_T un, e0, e1, bs, if_true, nm]
            rw [hN.1, gd_jn (by omega) (by omega), jn_cl (by omega), i1, i2]
            rfl
          · simp only [f0, f1, o0, bs, why_no un i2, if_true]
            rfl
        · exact Or.inr ⟨n, k, un, hk, i2, i1.trans i2, rfl, ⟨i, c, u0, hc6, rfl, rfl, rfl⟩, w, l1, u1, rfl⟩
      · have e1 : ∀ t, x11_outside t a3 0 1 = some 1 := oF n1
        have f1 : ∀ t, m_in t a3 0 1 = some 0 := iF n1
        refine Or.inl ⟨-2, ?_, ?_⟩
        · simp only [noNet_T un, e0, e1, bs, if_true, o0]
        · simp only [f0, f1, bs, z0, o0, if_true, why_wrong un]
          rfl
    · have e0 : ∀ t, x11_outside t a2 0 (jn c) = some 1 := oF n0
      have f0 : ∀ t, m_in t a2 0 (jn c) = some 0 := iF n0
      refine Or.inl ⟨-2, ?_, ?_⟩
      · simp only [noNet_T un, e0, bs, if_true, o0]
      · simp only [f0, bs, z0, if_true, why_wrong un]
        rfl
  · refine Or.inl ⟨-2, ?_, ?_⟩
    · simp only [noNet_F nn, bs, o0]
    · rcases io a2 0 c (by decide) (by omega) with ⟨i, l0, u0, rfl⟩ | n0
      · have f0 : ∀ t, m_in t (jn i) 0 (jn c) = some 1 := iT l0 u0 (by omega)
        rcases io a3 0 1 with ⟨w, l1, u1, rfl⟩ | n1
        · have f1 : ∀ t, m_in t (jn w) 0 1 = some 1 := iT l1 u1 (by decide)
          simp only [f0, f1, bs, o0, why_bad nn]
          rfl
        · have f1 : ∀ t, m_in t a3 0 1 = some 0 := iF n1
          simp only [f0, f1, bs, o0, z0, if_true, why_bad nn]
          rfl
      · have f0 : ∀ t, m_in t a2 0 (jn c) = some 0 := iF n0
        simp only [f0, bs, z0, if_true, why_bad nn]
        rfl

theorem pre_may {tx tm : St} (hK : RK tx tm) (hN : RN tx tm) (a1 a2 a3 : Int32) : (∃ r, x11_may tx a1 a2 a3 = some (r, tx) ∧ m_may tm a1 a2 a3 = some (r, tm)) ∨ ∃ n k, n ≤ 9 ∧ k < nK tm ∧ gA tm 16 n = jn k ∧ gA tx 602 n = jn k ∧ a1 = jn n ∧ ∃ s m, s ≤ 255 ∧ m ≤ 255 ∧ a2 = jn s ∧ a3 = jn m ∧ jn s &&& jn m = 0 := by
  have h250 := nK_lt hK
  unfold x11_may m_may m_whyWays x11_noMarks m_isMarks
  rcases io a1 0 9 with ⟨n, ln, un, rfl⟩ | nn
  · rcases io a2 0 255 with ⟨i, l0, u0, rfl⟩ | n0
    · have e0 : ∀ t, x11_outside t (jn i) 0 255 = some 0 := oT l0 u0 (by decide)
      have f0 : ∀ t, m_in t (jn i) 0 255 = some 1 := iT l0 u0 (by decide)
      rcases io a3 0 255 with ⟨w, l1, u1, rfl⟩ | n1
      · have e1 : ∀ t, x11_outside t (jn w) 0 255 = some 0 := oT l1 u1 (by decide)
        have f1 : ∀ t, m_in t (jn w) 0 255 = some 1 := iT l1 u1 (by decide)
        by_cases q : jn i &&& jn w = 0
        · obtain ⟨i1, i2⟩ := hN.2 n (by omega)
          rcases i2 with i2 | ⟨k, hk, i2⟩
          · refine Or.inl ⟨-3, ?_, ?_⟩
            · simp only [noNet_T un, e0, e1, if_pos q, bs, if_true, nm]
              rw [hN.1, gd_jn (by omega) (by omega), jn_cl (by omega), i1, i2]
              rfl
            · simp only [f0, f1, o0, if_pos q, bs, why_no un i2, if_true]
              rfl
          · exact Or.inr ⟨n, k, un, hk, i2, i1.trans i2, rfl, i, w, u0, u1, rfl, rfl, q⟩
        · refine Or.inl ⟨-2, ?_, ?_⟩
          · simp only [noNet_T un, e0, e1, if_neg q, bs, if_true, o0]
          · simp only [f0, f1, bs, o0, if_neg q, if_true, why_wrong un]
            rfl
      · have e1 : ∀ t, x11_outside t a3 0 255 = some 1 := oF n1
        have f1 : ∀ t, m_in t a3 0 255 = some 0 := iF n1
        refine Or.inl ⟨-2, ?_, ?_⟩
        · simp only [noNet_T un, e0, e1, bs, if_true, o0]
        · simp only [f0, f1, bs, z0, o0, if_true, why_wrong un]
          rfl
    · have e0 : ∀ t, x11_outside t a2 0 255 = some 1 := oF n0
      have f0 : ∀ t, m_in t a2 0 255 = some 0 := iF n0
      refine Or.inl ⟨-2, ?_, ?_⟩
      · simp only [noNet_T un, e0, bs, if_true, o0]
      · simp only [f0, bs, z0, if_true, why_wrong un]
        rfl
  · refine Or.inl ⟨-2, ?_, ?_⟩
    · simp only [noNet_F nn, bs, o0]
    · obtain ⟨z, hz⟩ : ∃ z, (m_in tm a2 0 255).bind (fun q1 => if q1 = 0 then some (0 : Int32) else (m_in tm a3 0 255).bind (fun q5 => if q5 = 0 then some 0 else if a2 &&& a3 = 0 then some 1 else some 0)) = some z := by
        rcases io a2 0 255 with ⟨i, l0, u0, rfl⟩ | n0
        · have f0 : ∀ t, m_in t (jn i) 0 255 = some 1 := iT l0 u0 (by decide)
          rcases io a3 0 255 with ⟨w, l1, u1, rfl⟩ | n1
          · have f1 : ∀ t, m_in t (jn w) 0 255 = some 1 := iT l1 u1 (by decide)
            by_cases q : jn i &&& jn w = 0
            · exact ⟨1, by simp only [f0, f1, bs, o0, if_pos q]⟩
            · exact ⟨0, by simp only [f0, f1, bs, o0, if_neg q]⟩
          · have f1 : ∀ t, m_in t a3 0 255 = some 0 := iF n1
            exact ⟨0, by simp only [f0, f1, bs, o0, z0, if_true]⟩
        · have f0 : ∀ t, m_in t a2 0 255 = some 0 := iF n0
          exact ⟨0, by simp only [f0, bs, z0, if_true]⟩
      rw [hz]
      simp only [bs, why_bad nn]
      rfl

theorem pre_ask {tx tm : St} (hK : RK tx tm) (hN : RN tx tm) (a1 a2 a3 : Int32) : (∃ r, x11_ask tx a1 a2 a3 = some (r, tx) ∧ m_ask tm a1 a2 a3 = some (r, tm)) ∨ ∃ n k, n ≤ 9 ∧ k < nK tm ∧ gA tm 16 n = jn k ∧ gA tx 602 n = jn k ∧ a1 = jn n ∧ ∃ s m, s ≤ 255 ∧ m ≤ 255 ∧ a2 = jn s ∧ a3 = jn m ∧ jn s &&& jn m = 0 := by
  have h250 := nK_lt hK
  unfold x11_ask m_ask m_whyWays x11_noMarks m_isMarks
  rcases io a1 0 9 with ⟨n, ln, un, rfl⟩ | nn
  · rcases io a2 0 255 with ⟨i, l0, u0, rfl⟩ | n0
    · have e0 : ∀ t, x11_outside t (jn i) 0 255 = some 0 := oT l0 u0 (by decide)
      have f0 : ∀ t, m_in t (jn i) 0 255 = some 1 := iT l0 u0 (by decide)
      rcases io a3 0 255 with ⟨w, l1, u1, rfl⟩ | n1
      · have e1 : ∀ t, x11_outside t (jn w) 0 255 = some 0 := oT l1 u1 (by decide)
        have f1 : ∀ t, m_in t (jn w) 0 255 = some 1 := iT l1 u1 (by decide)
        by_cases q : jn i &&& jn w = 0
        · obtain ⟨i1, i2⟩ := hN.2 n (by omega)
          rcases i2 with i2 | ⟨k, hk, i2⟩
          · refine Or.inl ⟨-3, ?_, ?_⟩
            · simp only [noNet_T un, e0, e1, if_pos q, bs, if_true, nm]
              rw [hN.1, gd_jn (by omega) (by omega), jn_cl (by omega), i1, i2]
              rfl
            · simp only [f0, f1, o0, if_pos q, bs, why_no un i2, if_true]
              rfl
          · exact Or.inr ⟨n, k, un, hk, i2, i1.trans i2, rfl, i, w, u0, u1, rfl, rfl, q⟩
        · refine Or.inl ⟨-2, ?_, ?_⟩
          · simp only [noNet_T un, e0, e1, if_neg q, bs, if_true, o0]
          · simp only [f0, f1, bs, o0, if_neg q, if_true, why_wrong un]
            rfl
      · have e1 : ∀ t, x11_outside t a3 0 255 = some 1 := oF n1
        have f1 : ∀ t, m_in t a3 0 255 = some 0 := iF n1
        refine Or.inl ⟨-2, ?_, ?_⟩
        · simp only [noNet_T un, e0, e1, bs, if_true, o0]
        · simp only [f0, f1, bs, z0, o0, if_true, why_wrong un]
          rfl
    · have e0 : ∀ t, x11_outside t a2 0 255 = some 1 := oF n0
      have f0 : ∀ t, m_in t a2 0 255 = some 0 := iF n0
      refine Or.inl ⟨-2, ?_, ?_⟩
      · simp only [noNet_T un, e0, bs, if_true, o0]
      · simp only [f0, bs, z0, if_true, why_wrong un]
        rfl
  · refine Or.inl ⟨-2, ?_, ?_⟩
    · simp only [noNet_F nn, bs, o0]
    · obtain ⟨z, hz⟩ : ∃ z, (m_in tm a2 0 255).bind (fun q1 => if q1 = 0 then some (0 : Int32) else (m_in tm a3 0 255).bind (fun q5 => if q5 = 0 then some 0 else if a2 &&& a3 = 0 then some 1 else some 0)) = some z := by
        rcases io a2 0 255 with ⟨i, l0, u0, rfl⟩ | n0
        · have f0 : ∀ t, m_in t (jn i) 0 255 = some 1 := iT l0 u0 (by decide)
          rcases io a3 0 255 with ⟨w, l1, u1, rfl⟩ | n1
          · have f1 : ∀ t, m_in t (jn w) 0 255 = some 1 := iT l1 u1 (by decide)
            by_cases q : jn i &&& jn w = 0
            · exact ⟨1, by simp only [f0, f1, bs, o0, if_pos q]⟩
            · exact ⟨0, by simp only [f0, f1, bs, o0, if_neg q]⟩
          · have f1 : ∀ t, m_in t a3 0 255 = some 0 := iF n1
            exact ⟨0, by simp only [f0, f1, bs, o0, z0, if_true]⟩
        · have f0 : ∀ t, m_in t a2 0 255 = some 0 := iF n0
          exact ⟨0, by simp only [f0, bs, z0, if_true]⟩
      rw [hz]
      simp only [bs, why_bad nn]
      rfl

theorem pre_reached {tx tm : St} (hK : RK tx tm) (hN : RN tx tm) (hE : RE tx tm) (a1 a2 : Int32) : (∃ r, x11_reached tx a1 a2 = some (r, tx) ∧ m_reached tm a1 a2 = some (r, tm)) ∨ ∃ n k, n ≤ 9 ∧ k < nK tm ∧ gA tm 16 n = jn k ∧ gA tx 602 n = jn k ∧ a1 = jn n ∧ ∃ i c, i ≤ c ∧ c ≤ 40 ∧ gI tm 56 = jn c ∧ gI tx 104 = jn c ∧ a2 = jn i := by
  have h250 := nK_lt hK
  obtain ⟨-, -, c, hc6, c1, c2, -⟩ := hE
  unfold x11_reached m_reached x11_reached_J53
  rw [c1, c2]
  rcases io a1 0 9 with ⟨n, ln, un, rfl⟩ | nn
  · rcases io a2 0 c (by decide) (by omega) with ⟨i, l0, u0, rfl⟩ | n0
    · have e0 : ∀ t, x11_outside t (jn i) 0 (jn c) = some 0 := oT l0 u0 (by omega)
      have f0 : ∀ t, m_in t (jn i) 0 (jn c) = some 1 := iT l0 u0 (by omega)
      obtain ⟨i1, i2⟩ := hN.2 n (by omega)
      rcases i2 with i2 | ⟨k, hk, i2⟩
      · refine Or.inl ⟨-3, ?_, ?_⟩
        · simp only [noNet_T un, e0, bs, if_true, nm]
          rw [hN.1, gd_jn (by omega) (by omega), jn_cl (by omega), i1, i2]
          rfl
        · simp only [f0, bs, why_no un i2, if_true]
          rfl
      · exact Or.inr ⟨n, k, un, hk, i2, i1.trans i2, rfl, i, c, u0, hc6, rfl, rfl, rfl⟩
    · have e0 : ∀ t, x11_outside t a2 0 (jn c) = some 1 := oF n0
      have f0 : ∀ t, m_in t a2 0 (jn c) = some 0 := iF n0
      refine Or.inl ⟨-2, ?_, ?_⟩
      · simp only [noNet_T un, e0, bs, if_true, o0]
      · simp only [f0, bs, why_wrong un]
        rfl
  · refine Or.inl ⟨-2, ?_, ?_⟩
    · simp only [noNet_F nn, bs, o0]
    · simp only [m_in_eq, bs, why_bad nn]
      rfl
