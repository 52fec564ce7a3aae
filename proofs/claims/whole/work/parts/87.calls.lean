theorem op_about {tx tm : St} (h : RH tx tm) (a1 a2 : Int32) : ∃ r, x11_about tx a1 a2 = some r ∧ m_about tm a1 a2 = some r := by
  unfold x11_about m_about x11_noStep m_isStep
  rcases io a1 0 15 with ⟨s, l1, u1, rfl⟩ | n1
  · have e1 : ∀ t, x11_outside t (jn s) 0 15 = some 0 := oT l1 u1 (by decide)
    have f1 : ∀ t, m_in t (jn s) 0 15 = some 1 := iT l1 u1 (by decide)
    simp only [e1, f1, bs, z0, o0, if_true]
    rcases io a2 0 4 with ⟨w, l2, u2, rfl⟩ | n2
    · have e2 : ∀ t, x11_outside t (jn w) 0 4 = some 0 := oT l2 u2 (by decide)
      have f2 : ∀ t, m_in t (jn w) 0 4 = some 1 := iT l2 u2 (by decide)
      simp only [e2, f2, bs, z0, o0, if_true]
      refine ⟨gA tm w s, ?_, ?_⟩
      · rw [x5_at h.1 (by omega) (by omega), bs, (h.2 s w (by omega) (by omega)).1]
      · rw [m_stepOf_eq (by omega) (by omega), bs]
    · have e2 : ∀ t, x11_outside t a2 0 4 = some 1 := oF n2
      have f2 : ∀ t, m_in t a2 0 4 = some 0 := iF n2
      exact ⟨-2, by simp only [e2, bs, o0, if_true], by simp only [f2, bs, z0, if_true]⟩
  · have e1 : ∀ t, x11_outside t a1 0 15 = some 1 := oF n1
    have f1 : ∀ t, m_in t a1 0 15 = some 0 := iF n1
    exact ⟨-2, by simp only [e1, bs, o0, if_true], by simp only [f1, bs, z0, if_true]⟩

theorem op_trace {tx tm : St} (h : RH tx tm) (a1 a2 a3 : Int32) : ∃ r tx' tm', x11_trace tx a1 a2 a3 = some (r, tx') ∧ m_trace tm a1 a2 a3 = some (r, tm') ∧ RH tx' tm' := by
  unfold x11_trace m_trace x11_noStep m_isStep
  rcases io a1 0 15 with ⟨s, l1, u1, rfl⟩ | n1
  · have e1 : ∀ t, x11_outside t (jn s) 0 15 = some 0 := oT l1 u1 (by decide)
    have f1 : ∀ t, m_in t (jn s) 0 15 = some 1 := iT l1 u1 (by decide)
    simp only [e1, f1, bs, z0, o0, if_true]
    rcases io a2 0 255 with ⟨k, l2, u2, rfl⟩ | n2
    · have e2 : ∀ t, x11_outside t (jn k) 0 255 = some 0 := oT l2 u2 (by decide)
      have f2 : ∀ t, m_in t (jn k) 0 255 = some 1 := iT l2 u2 (by decide)
      simp only [e2, f2, bs, z0, o0, if_true]
      rcases io a3 0 7 with ⟨p, l3, u3, rfl⟩ | n3
      · have e3 : ∀ t, x11_outside t (jn p) 0 7 = some 0 := oT l3 u3 (by decide)
        have f3 : ∀ t, m_in t (jn p) 0 7 = some 1 := iT l3 u3 (by decide)
        simp only [e3, f3, bs, z0, o0, if_true]
        have h1 := h.put (s := s) (w := 3) (k := k) (by omega) (by omega) l2 u2
        have h2 := h1.put (s := s) (w := 4) (k := p) (by omega) (by omega) l3 u3
        refine ⟨1, sA (sA tx 500 (jn (5 * s + 3)) (jn k)) 500 (jn (5 * s + 4)) (jn p), sA (sA tm 3 (jn s) (jn k)) 4 (jn s) (jn p), ?_, ?_, h2⟩
        · rw [show x5_put tx (jn s) 3 (jn k) = _ from x5_set (w := 3) h.1 (jn k) (by omega) (by omega), bs, show x5_put _ (jn s) 4 (jn p) = _ from x5_set (w := 4) h1.1 (jn p) (by omega) (by omega), bs]
        · simp only [gd_jn (show s < 16 by omega) (show s < 2147483648 by omega), nm]
      · have e3 : ∀ t, x11_outside t a3 0 7 = some 1 := oF n3
        have f3 : ∀ t, m_in t a3 0 7 = some 0 := iF n3
        exact ⟨-2, tx, tm, by simp only [e3, bs, o0, if_true], by simp only [f3, bs, z0, if_true], h⟩
    · have e2 : ∀ t, x11_outside t a2 0 255 = some 1 := oF n2
      have f2 : ∀ t, m_in t a2 0 255 = some 0 := iF n2
      exact ⟨-2, tx, tm, by simp only [e2, bs, o0, if_true], by simp only [f2, bs, z0, if_true], h⟩
  · have e1 : ∀ t, x11_outside t a1 0 15 = some 1 := oF n1
    have f1 : ∀ t, m_in t a1 0 15 = some 0 := iF n1
    exact ⟨-2, tx, tm, by simp only [e1, bs, o0, if_true], by simp only [f1, bs, z0, if_true], h⟩

/-! The text. -/
def RT (tx tm : St) : Prop := gN tx 600 = 80 ∧ ∃ n, n ≤ 80 ∧ gI tx 601 = jn n ∧ gI tm 5 = jn n ∧ ∀ i, i < n → gA tx 600 i = gA tm 6 i ∧ ∃ c, c ≤ 127 ∧ gA tm 6 i = jn c
theorem RT.fr {S T S' T' : List Nat} {tx tm tx' tm' : St} (h : RT tx tm) (hx : fx S T tx tx') (hm : fx S' T' tm tm') (h1 : (S.elem 600 || S.elem 601) = false := by rfl) (h2 : T.elem 600 = false := by rfl) (h3 : (S'.elem 5 || S'.elem 6) = false := by rfl) : RT tx' tm' := by
  simp only [Bool.or_eq_false_iff] at h1 h3
  unfold RT
  rw [hx.2 600 h2, (hx.1 600 h1.1).2.2.1, (hx.1 601 h1.2).1, (hm.1 5 h3.1).1, (hm.1 6 h3.2).2.2.1]
  exact h

theorem op_write {tx tm : St} (h : RT tx tm) (a1 : Int32) : ∃ r tx' tm', x11_write tx a1 = some (r, tx') ∧ m_write tm a1 = some (r, tm') ∧ RT tx' tm' := by
  unfold x11_write m_write
  rcases io a1 0 127 with ⟨c, l1, u1, rfl⟩ | n1
  · have e1 : ∀ t, x11_outside t (jn c) 0 127 = some 0 := oT l1 u1 (by decide)
    have f1 : ∀ t, m_in t (jn c) 0 127 = some 1 := iT l1 u1 (by decide)
    simp only [e1, f1, bs, z0, o0, if_true]
    obtain ⟨hN, n, hn, e5, e6, hc⟩ := h
    unfold x6_append
    rw [e5, e6, show (80 : Int32) = jn 80 from rfl]
    by_cases g : n = 80
    · subst g
      refine ⟨-4, tx, tm, ?_, ?_, hN, 80, hn, e5, e6, hc⟩
      · rw [if_neg (by decide), bs, if_pos rfl]
      · rw [if_pos rfl]
    · have g1 : n < 80 := by omega
      refine ⟨jn n + 1, sI (sA tx 600 (jn n) (jn c)) 601 (jn n + 1), sI (sA tm 6 (jn n) (jn c)) 5 (jn n + 1), ?_, ?_, hN, n + 1, by omega, jn_add n 1, jn_add n 1, ?_⟩
      · rw [if_pos ((jn_lt (by omega) (by omega)).mpr g1), hN, gd_jn g1 (by omega)]
        simp only [nm, bs, o0]
        rw [show gI (sA tx 600 (jn n) (jn c)) 601 = gI tx 601 from rfl, e5]
        rfl
      · rw [if_neg (fun e => g ((jn_inj (by omega) (by omega)).mp e)), gd_jn g1 (by omega)]
        simp only [nm]
        rw [show gI (sA tm 6 (jn n) (jn c)) 5 = gI tm 5 from rfl, e6]
        rfl
      · intro i hi
        show gA (sA tx 600 (jn n) (jn c)) 600 i = gA (sA tm 6 (jn n) (jn c)) 6 i ∧ ∃ c1, c1 ≤ 127 ∧ gA (sA tm 6 (jn n) (jn c)) 6 i = jn c1
        rw [gA_sA, gA_sA, jn_cl (by omega)]
        by_cases e : i = n
        · subst e
          rw [upd_at, upd_at]
          exact ⟨rfl, c, u1, rfl⟩
        · rw [upd_ne e, upd_ne e]
          exact hc i (by omega)
  · have e1 : ∀ t, x11_outside t a1 0 127 = some 1 := oF n1
    have f1 : ∀ t, m_in t a1 0 127 = some 0 := iF n1
    exact ⟨-2, tx, tm, by simp only [e1, bs, o0, if_true], by simp only [f1, bs, z0, if_true], h⟩

theorem op_erase {tx tm : St} (h : RT tx tm) : ∃ r tx' tm', x11_erase tx = some (r, tx') ∧ m_erase tm = some (r, tm') ∧ RT tx' tm' := by
  unfold x11_erase m_erase
  obtain ⟨hN, n, hn, e5, e6, hc⟩ := h
  refine ⟨jn n, sI tx 601 0, sI tm 5 0, ?_, ?_, hN, 0, by omega, rfl, rfl, fun i hi => absurd hi (by omega)⟩
  · simp only [nm, e5]
  · simp only [nm, e6]

/-! Insiders. -/
def RI (tx tm : St) : Prop := gN tx 1006 = 6 ∧ ∃ n, n ≤ 6 ∧ gI tx 1007 = jn n ∧ gI tm 54 = jn n ∧ ∀ i, i < n → gA tx 1006 i = gA tm 55 i ∧ ∃ c, c ≤ 65535 ∧ gA tm 55 i = jn c
theorem RI.fr {S T S' T' : List Nat} {tx tm tx' tm' : St} (h : RI tx tm) (hx : fx S T tx tx') (hm : fx S' T' tm tm') (h1 : (S.elem 1006 || S.elem 1007) = false := by rfl) (h2 : T.elem 1006 = false := by rfl) (h3 : (S'.elem 54 || S'.elem 55) = false := by rfl) : RI tx' tm' := by
  simp only [Bool.or_eq_false_iff] at h1 h3
  unfold RI
  rw [hx.2 1006 h2, (hx.1 1006 h1.1).2.2.1, (hx.1 1007 h1.2).1, (hm.1 54 h3.1).1, (hm.1 55 h3.2).2.2.1]
  exact h

theorem op_insider {tx tm : St} (h : RI tx tm) (a1 : Int32) : ∃ r tx' tm', x11_insider tx a1 = some (r, tx') ∧ m_insider tm a1 = some (r, tm') ∧ RI tx' tm' := by
  unfold x11_insider m_insider m_isSet
  rcases io a1 0 65535 with ⟨c, l1, u1, rfl⟩ | n1
  · have e1 : ∀ t, x11_outside t (jn c) 0 65535 = some 0 := oT l1 u1 (by decide)
    have f1 : ∀ t, m_in t (jn c) 0 65535 = some 1 := iT l1 u1 (by decide)
    simp only [e1, f1, bs, z0, o0, if_true]
    obtain ⟨hN, n, hn, e5, e6, hc⟩ := h
    unfold x10_bribe
    rw [e5, e6, show (6 : Int32) = jn 6 from rfl]
    by_cases g : n = 6
    · subst g
      refine ⟨-4, tx, tm, ?_, ?_, hN, 6, hn, e5, e6, hc⟩
      · rw [if_neg (by decide), bs, if_pos rfl]
      · rw [if_pos rfl]
    · have g1 : n < 6 := by omega
      refine ⟨jn n + 1 - 1, sI (sA tx 1006 (jn n) (jn c)) 1007 (jn n + 1), sI (sA tm 55 (jn n) (jn c)) 54 (jn n + 1), ?_, ?_, hN, n + 1, by omega, jn_add n 1, jn_add n 1, ?_⟩
      · rw [if_pos ((jn_lt (by omega) (by omega)).mpr g1), hN, gd_jn g1 (by omega)]
        simp only [nm, bs, o0]
        rw [show gI (sA tx 1006 (jn n) (jn c)) 1007 = gI tx 1007 from rfl, e5]
        rfl
      · rw [if_neg (fun e => g ((jn_inj (by omega) (by omega)).mp e)), gd_jn g1 (by omega)]
        simp only [nm]
        rw [show gI (sA tm 55 (jn n) (jn c)) 54 = gI tm 54 from rfl, e6]
        rfl
      · intro i hi
        show gA (sA tx 1006 (jn n) (jn c)) 1006 i = gA (sA tm 55 (jn n) (jn c)) 55 i ∧ ∃ c1, c1 ≤ 65535 ∧ gA (sA tm 55 (jn n) (jn c)) 55 i = jn c1
        rw [gA_sA, gA_sA, jn_cl (by omega)]
        by_cases e : i = n
        · subst e
          rw [upd_at, upd_at]
          exact ⟨rfl, c, u1, rfl⟩
        · rw [upd_ne e, upd_ne e]
          exact hc i (by omega)
  · have e1 : ∀ t, x11_outside t a1 0 65535 = some 1 := oF n1
    have f1 : ∀ t, m_in t a1 0 65535 = some 0 := iF n1
    exact ⟨-2, tx, tm, by simp only [e1, bs, o0, if_true], by simp only [f1, bs, z0, if_true], h⟩
