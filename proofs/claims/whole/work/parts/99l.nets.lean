/-! Calls of a net: refused alike on both sides, or worked. -/
theorem pre_ways {tx tm : St} (hK : RK tx tm) (hN : RN tx tm) (a1 : Int32) : (∃ r, x11_ways tx a1 = some (r, tx) ∧ m_ways tm a1 = some (r, tm)) ∨ ∃ n k, n ≤ 9 ∧ k < nK tm ∧ gA tm 16 n = jn k ∧ gA tx 602 n = jn k ∧ a1 = jn n := by
  have h250 := nK_lt hK
  unfold x11_ways m_ways m_whyWays 
  rcases io a1 0 9 with ⟨n, ln, un, rfl⟩ | nn
  · obtain ⟨i1, i2⟩ := hN.2 n (by omega)
    rcases i2 with i2 | ⟨k, hk, i2⟩
    · refine Or.inl ⟨-3, ?_, ?_⟩
      · simp only [noNet_T un, bs, if_true, nm]
        rw [hN.1, gd_jn (by omega) (by omega), jn_cl (by omega), i1, i2]
        rfl
      · simp only [bs, why_no un i2, if_true]
        rfl
    · exact Or.inr ⟨n, k, un, hk, i2, i1.trans i2, rfl⟩
  · refine Or.inl ⟨-2, ?_, ?_⟩
    · simp only [noNet_F nn, bs, o0]
    · simp only [bs, why_bad nn]
      rfl

theorem pre_leastWay {tx tm : St} (hK : RK tx tm) (hN : RN tx tm) (a1 a2 : Int32) : (∃ r, x11_leastWay tx a1 a2 = some (r, tx) ∧ m_leastWay tm a1 a2 = some (r, tm)) ∨ ∃ n k, n ≤ 9 ∧ k < nK tm ∧ gA tm 16 n = jn k ∧ gA tx 602 n = jn k ∧ a1 = jn n ∧ (∃ w, 0 ≤ w ∧ w ≤ 1 ∧ a2 = jn w) := by
  have h250 := nK_lt hK
  unfold x11_leastWay m_leastWay m_whyWays 
  rcases io a1 0 9 with ⟨n, ln, un, rfl⟩ | nn
  · rcases io a2 0 1 with ⟨w, l1, u1, rfl⟩ | n1
    · have e1 : ∀ t, x11_outside t (jn w) 0 1 = some 0 := oT l1 u1 (by decide)
      have f1 : ∀ t, m_in t (jn w) 0 1 = some 1 := iT l1 u1 (by decide)
      obtain ⟨i1, i2⟩ := hN.2 n (by omega)
      rcases i2 with i2 | ⟨k, hk, i2⟩
      · refine Or.inl ⟨-3, ?_, ?_⟩
        · simp only [noNet_T un, e1, bs, if_true, nm]
          rw [hN.1, gd_jn (by omega) (by omega), jn_cl (by omega), i1, i2]
          rfl
        · simp only [f1, bs, why_no un i2, if_true]
          rfl
      · exact Or.inr ⟨n, k, un, hk, i2, i1.trans i2, rfl, ⟨w, l1, u1, rfl⟩⟩
    · have e1 : ∀ t, x11_outside t a2 0 1 = some 1 := oF n1
      have f1 : ∀ t, m_in t a2 0 1 = some 0 := iF n1
      refine Or.inl ⟨-2, ?_, ?_⟩
      · simp only [noNet_T un, e1, bs, if_true, o0]
      · simp only [f1, bs, why_wrong un]
        rfl
  · refine Or.inl ⟨-2, ?_, ?_⟩
    · simp only [noNet_F nn, bs, o0]
    · simp only [m_in_eq, bs, why_bad nn]
      rfl

theorem pre_many {tx tm : St} (hK : RK tx tm) (hN : RN tx tm) (a1 : Int32) : (∃ r, x11_many tx a1 = some (r, tx) ∧ m_many tm a1 = some (r, tm)) ∨ ∃ n k, n ≤ 9 ∧ k < nK tm ∧ gA tm 16 n = jn k ∧ gA tx 602 n = jn k ∧ a1 = jn n := by
  have h250 := nK_lt hK
  unfold x11_many m_many  
  rcases io a1 0 9 with ⟨n, ln, un, rfl⟩ | nn
  · obtain ⟨i1, i2⟩ := hN.2 n (by omega)
    rcases i2 with i2 | ⟨k, hk, i2⟩
    · refine Or.inl ⟨-3, ?_, ?_⟩
      · simp only [noNet_T un, bs, if_true, nm]
        rw [hN.1, gd_jn (by omega) (by omega), jn_cl (by omega), i1, i2]
        rfl
      · simp only [bs, why_no un i2, if_true]
        rfl
    · exact Or.inr ⟨n, k, un, hk, i2, i1.trans i2, rfl⟩
  · refine Or.inl ⟨-2, ?_, ?_⟩
    · simp only [noNet_F nn, bs, o0]
    · simp only [bs, why_bad nn]
      rfl

theorem pre_size {tx tm : St} (hK : RK tx tm) (hN : RN tx tm) (a1 : Int32) : (∃ r, x11_size tx a1 = some (r, tx) ∧ m_size tm a1 = some (r, tm)) ∨ ∃ n k, n ≤ 9 ∧ k < nK tm ∧ gA tm 16 n = jn k ∧ gA tx 602 n = jn k ∧ a1 = jn n := by
  have h250 := nK_lt hK
  unfold x11_size m_size  
  rcases io a1 0 9 with ⟨n, ln, un, rfl⟩ | nn
  · obtain ⟨i1, i2⟩ := hN.2 n (by omega)
    rcases i2 with i2 | ⟨k, hk, i2⟩
    · refine Or.inl ⟨-3, ?_, ?_⟩
      · simp only [noNet_T un, bs, if_true, nm]
        rw [hN.1, gd_jn (by omega) (by omega), jn_cl (by omega), i1, i2]
        rfl
      · simp only [bs, why_no un i2, if_true]
        rfl
    · exact Or.inr ⟨n, k, un, hk, i2, i1.trans i2, rfl⟩
  · refine Or.inl ⟨-2, ?_, ?_⟩
    · simp only [noNet_F nn, bs, o0]
    · simp only [bs, why_bad nn]
      rfl

theorem pre_chance {tx tm : St} (hK : RK tx tm) (hN : RN tx tm) (a1 : Int32) : (∃ r, x11_chance tx a1 = some (r, tx) ∧ m_chance tm a1 = some (r, tm)) ∨ ∃ n k, n ≤ 9 ∧ k < nK tm ∧ gA tm 16 n = jn k ∧ gA tx 602 n = jn k ∧ a1 = jn n := by
  have h250 := nK_lt hK
  unfold x11_chance m_chance m_whyChance 
  rcases io a1 0 9 with ⟨n, ln, un, rfl⟩ | nn
  · obtain ⟨i1, i2⟩ := hN.2 n (by omega)
    rcases i2 with i2 | ⟨k, hk, i2⟩
    · refine Or.inl ⟨-3, ?_, ?_⟩
      · simp only [noNet_T un, bs, if_true, nm]
        rw [hN.1, gd_jn (by omega) (by omega), jn_cl (by omega), i1, i2]
        rfl
      · simp only [bs, why_no un i2, if_true]
        rfl
    · exact Or.inr ⟨n, k, un, hk, i2, i1.trans i2, rfl⟩
  · refine Or.inl ⟨-2, ?_, ?_⟩
    · simp only [noNet_F nn, bs, o0]
    · simp only [bs, why_bad nn]
      rfl

theorem pre_weight {tx tm : St} (hK : RK tx tm) (hN : RN tx tm) (a1 a2 : Int32) : (∃ r, x11_weight tx a1 a2 = some (r, tx) ∧ m_weight tm a1 a2 = some (r, tm)) ∨ ∃ n k, n ≤ 9 ∧ k < nK tm ∧ gA tm 16 n = jn k ∧ gA tx 602 n = jn k ∧ a1 = jn n ∧ (∃ w, 0 ≤ w ∧ w ≤ 15 ∧ a2 = jn w) := by
  have h250 := nK_lt hK
  unfold x11_weight m_weight m_whyChance m_isStep x11_noStep
  rcases io a1 0 9 with ⟨n, ln, un, rfl⟩ | nn
  · rcases io a2 0 15 with ⟨w, l1, u1, rfl⟩ | n1
    · have e1 : ∀ t, x11_outside t (jn w) 0 15 = some 0 := oT l1 u1 (by decide)
      have f1 : ∀ t, m_in t (jn w) 0 15 = some 1 := iT l1 u1 (by decide)
      obtain ⟨i1, i2⟩ := hN.2 n (by omega)
      rcases i2 with i2 | ⟨k, hk, i2⟩
      · refine Or.inl ⟨-3, ?_, ?_⟩
        · simp only [noNet_T un, e1, bs, if_true, nm]
          rw [hN.1, gd_jn (by omega) (by omega), jn_cl (by omega), i1, i2]
          rfl
        · simp only [f1, bs, why_no un i2, if_true]
          rfl
      · exact Or.inr ⟨n, k, un, hk, i2, i1.trans i2, rfl, ⟨w, l1, u1, rfl⟩⟩
    · have e1 : ∀ t, x11_outside t a2 0 15 = some 1 := oF n1
      have f1 : ∀ t, m_in t a2 0 15 = some 0 := iF n1
      refine Or.inl ⟨-2, ?_, ?_⟩
      · simp only [noNet_T un, e1, bs, if_true, o0]
      · simp only [f1, bs, why_wrong un]
        rfl
  · refine Or.inl ⟨-2, ?_, ?_⟩
    · simp only [noNet_F nn, bs, o0]
    · simp only [m_in_eq, bs, why_bad nn]
      rfl

theorem pre_best {tx tm : St} (hK : RK tx tm) (hN : RN tx tm) (a1 a2 : Int32) : (∃ r, x11_best tx a1 a2 = some (r, tx) ∧ m_best tm a1 a2 = some (r, tm)) ∨ ∃ n k, n ≤ 9 ∧ k < nK tm ∧ gA tm 16 n = jn k ∧ gA tx 602 n = jn k ∧ a1 = jn n ∧ (∃ w, 0 ≤ w ∧ w ≤ 16000 ∧ a2 = jn w) := by
  have h250 := nK_lt hK
  unfold x11_best m_best  
  rcases io a1 0 9 with ⟨n, ln, un, rfl⟩ | nn
  · rcases io a2 0 16000 with ⟨w, l1, u1, rfl⟩ | n1
    · have e1 : ∀ t, x11_outside t (jn w) 0 16000 = some 0 := oT l1 u1 (by decide)
      have f1 : ∀ t, m_in t (jn w) 0 16000 = some 1 := iT l1 u1 (by decide)
      obtain ⟨i1, i2⟩ := hN.2 n (by omega)
      rcases i2 with i2 | ⟨k, hk, i2⟩
      · refine Or.inl ⟨-3, ?_, ?_⟩
        · simp only [noNet_T un, e1, bs, if_true, nm]
          rw [hN.1, gd_jn (by omega) (by omega), jn_cl (by omega), i1, i2]
          rfl
        · simp only [f1, bs, why_no un i2, if_true]
          rfl
      · exact Or.inr ⟨n, k, un, hk, i2, i1.trans i2, rfl, ⟨w, l1, u1, rfl⟩⟩
    · have e1 : ∀ t, x11_outside t a2 0 16000 = some 1 := oF n1
      have f1 : ∀ t, m_in t a2 0 16000 = some 0 := iF n1
      refine Or.inl ⟨-2, ?_, ?_⟩
      · simp only [noNet_T un, e1, bs, if_true, o0]
      · simp only [f1, bs, why_wrong un]
        rfl
  · refine Or.inl ⟨-2, ?_, ?_⟩
    · simp only [noNet_F nn, bs, o0]
    · simp only [m_in_eq, bs, why_bad nn]
      rfl

theorem pre_leastGuards {tx tm : St} (hK : RK tx tm) (hN : RN tx tm) (a1 : Int32) : (∃ r, x11_leastGuards tx a1 = some (r, tx) ∧ m_leastGuards tm a1 = some r) ∨ ∃ n k, n ≤ 9 ∧ k < nK tm ∧ gA tm 16 n = jn k ∧ gA tx 602 n = jn k ∧ a1 = jn n := by
  have h250 := nK_lt hK
  unfold x11_leastGuards m_leastGuards  x11_leastGuards_J37
  rcases io a1 0 9 with ⟨n, ln, un, rfl⟩ | nn
  · obtain ⟨i1, i2⟩ := hN.2 n (by omega)
    rcases i2 with i2 | ⟨k, hk, i2⟩
    · refine Or.inl ⟨-3, ?_, ?_⟩
      · simp only [noNet_T un, bs, if_true, nm]
        rw [hN.1, gd_jn (by omega) (by omega), jn_cl (by omega), i1, i2]
        rfl
      · simp only [bs, why_no un i2, if_true]
        rfl
    · exact Or.inr ⟨n, k, un, hk, i2, i1.trans i2, rfl⟩
  · refine Or.inl ⟨-2, ?_, ?_⟩
    · simp only [noNet_F nn, bs, o0]
    · simp only [bs, why_bad nn]
      rfl

theorem pre_front {tx tm : St} (hK : RK tx tm) (hN : RN tx tm) (a1 : Int32) : (∃ r, x11_front tx a1 = some (r, tx) ∧ m_front tm a1 = some (r, tm)) ∨ ∃ n k, n ≤ 9 ∧ k < nK tm ∧ gA tm 16 n = jn k ∧ gA tx 602 n = jn k ∧ a1 = jn n := by
  have h250 := nK_lt hK
  unfold x11_front m_front m_whyChance 
  rcases io a1 0 9 with ⟨n, ln, un, rfl⟩ | nn
  · obtain ⟨i1, i2⟩ := hN.2 n (by omega)
    rcases i2 with i2 | ⟨k, hk, i2⟩
    · refine Or.inl ⟨-3, ?_, ?_⟩
      · simp only [noNet_T un, bs, if_true, nm]
        rw [hN.1, gd_jn (by omega) (by omega), jn_cl (by omega), i1, i2]
        rfl
      · simp only [bs, why_no un i2, if_true]
        rfl
    · exact Or.inr ⟨n, k, un, hk, i2, i1.trans i2, rfl⟩
  · refine Or.inl ⟨-2, ?_, ?_⟩
    · simp only [noNet_F nn, bs, o0]
    · simp only [bs, why_bad nn]
      rfl
