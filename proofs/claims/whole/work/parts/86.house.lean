/-! The house: five numbers of each step. -/
def hlo (w : Nat) : Nat := if w = 1 then 1 else 0
def hhi (w : Nat) : Nat := if w = 0 then 1000 else if w = 1 then 50 else if w = 2 then 1000 else if w = 3 then 255 else 7
def RH (tx tm : St) : Prop := gN tx 500 = 80 ∧ ∀ s w, s < 16 → w < 5 → gA tx 500 (5 * s + w) = gA tm w s ∧ ∃ k, hlo w ≤ k ∧ k ≤ hhi w ∧ gA tm w s = jn k
theorem RH.put {tx tm : St} (h : RH tx tm) {s w k : Nat} (hs : s < 16) (hw : w < 5) (h1 : hlo w ≤ k) (h2 : k ≤ hhi w) : RH (sA tx 500 (jn (5 * s + w)) (jn k)) (sA tm w (jn s) (jn k)) := by
  refine ⟨h.1, ?_⟩
  intro s' w' hs' hw'
  have h0 := h.2 s' w' hs' hw'
  rw [gA_sA, jn_cl (by omega)]
  by_cases e : w' = w
  · subst e
    rw [gA_sA, jn_cl (by omega)]
    by_cases e2 : s' = s
    · subst e2
      rw [upd_at, upd_at]
      exact ⟨rfl, k, h1, h2, rfl⟩
    · rw [upd_ne e2, upd_ne (by omega)]
      exact h0
  · rw [gA_sA_ne e, upd_ne (by omega)]
    exact h0
theorem RH.fr {S T S' T' : List Nat} {tx tm tx' tm' : St} (h : RH tx tm) (hx : fx S T tx tx') (hm : fx S' T' tm tm') (h1 : S.elem 500 = false := by rfl) (h2 : T.elem 500 = false := by rfl) (h3 : (S'.elem 0 || S'.elem 1 || S'.elem 2 || S'.elem 3 || S'.elem 4) = false := by rfl) : RH tx' tm' := by
  simp only [Bool.or_eq_false_iff] at h3
  refine ⟨by rw [hx.2 500 h2]; exact h.1, ?_⟩
  intro s w hs hw
  rw [(hx.1 500 h1).2.2.1]
  have e : gA tm' w = gA tm w := by
    rcases (show w = 0 ∨ w = 1 ∨ w = 2 ∨ w = 3 ∨ w = 4 by omega) with rfl | rfl | rfl | rfl | rfl
    · exact (hm.1 0 h3.1.1.1.1).2.2.1
    · exact (hm.1 1 h3.1.1.1.2).2.2.1
    · exact (hm.1 2 h3.1.1.2).2.2.1
    · exact (hm.1 3 h3.1.2).2.2.1
    · exact (hm.1 4 h3.2).2.2.1
  rw [e]
  exact h.2 s w hs hw
theorem x5_at {t : St} (h : gN t 500 = 80) {s w : Nat} (hs : s < 16) (hw : w < 5) : x5_get t (jn s) (jn w) = some (gA t 500 (5 * s + w)) := by
  unfold x5_get
  rw [show (5 : Int32) = jn 5 from rfl, jn_mul, jn_add, show s * 5 + w = 5 * s + w by omega, h, gd_jn (by omega) (by omega), jn_cl (by omega)]
theorem x5_set {t : St} (h : gN t 500 = 80) {s w : Nat} (v : Int32) (hs : s < 16) (hw : w < 5) : x5_put t (jn s) (jn w) v = some (sA t 500 (jn (5 * s + w)) v) := by
  unfold x5_put
  rw [show (5 : Int32) = jn 5 from rfl, jn_mul, jn_add, show s * 5 + w = 5 * s + w by omega, h, gd_jn (by omega) (by omega)]
  rfl
theorem m_stepOf_eq {t : St} {s w : Nat} (hs : s < 16) (hw : w < 5) : m_stepOf t (jn s) (jn w) = some (gA t w s) := by
  unfold m_stepOf
  have g : ∀ (w : Nat), gd (jn s) 16 (some (gA t w (jn s).toNatClampNeg)) = some (gA t w s) := fun w => by rw [gd_jn hs (by omega), jn_cl (by omega)]
  simp only [g]
  rcases (show w = 0 ∨ w = 1 ∨ w = 2 ∨ w = 3 ∨ w = 4 by omega) with rfl | rfl | rfl | rfl | rfl
  · rw [if_pos (by decide)]
  · rw [if_neg (by decide), if_pos (by decide)]
  · rw [if_neg (by decide), if_neg (by decide), if_pos (by decide)]
  · rw [if_neg (by decide), if_neg (by decide), if_neg (by decide), if_pos (by decide)]
  · rw [if_neg (by decide), if_neg (by decide), if_neg (by decide), if_neg (by decide)]
theorem op_step {tx tm : St} (h : RH tx tm) (a1 a2 a3 a4 : Int32) : ∃ r tx' tm', x11_step tx a1 a2 a3 a4 = some (r, tx') ∧ m_step tm a1 a2 a3 a4 = some (r, tm') ∧ RH tx' tm' := by
  unfold x11_step m_step x11_noStep m_isStep
  rcases io a1 0 15 with ⟨s, l1, u1, rfl⟩ | n1
  · have e1 : ∀ t, x11_outside t (jn s) 0 15 = some 0 := oT l1 u1 (by decide)
    have f1 : ∀ t, m_in t (jn s) 0 15 = some 1 := iT l1 u1 (by decide)
    simp only [e1, f1, bs, z0, o0]
    rcases io a2 0 1000 with ⟨p, l2, u2, rfl⟩ | n2
    · have e2 : ∀ t, x11_outside t (jn p) 0 1000 = some 0 := oT l2 u2 (by decide)
      have f2 : ∀ t, m_in t (jn p) 0 1000 = some 1 := iT l2 u2 (by decide)
      simp only [e2, f2, bs, z0, o0]
      rcases io a3 1 50 with ⟨u, l3, u3, rfl⟩ | n3
      · have e3 : ∀ t, x11_outside t (jn u) 1 50 = some 0 := oT l3 u3 (by decide)
        have f3 : ∀ t, m_in t (jn u) 1 50 = some 1 := iT l3 u3 (by decide)
        simp only [e3, f3, bs, z0, o0]
        rcases io a4 0 1000 with ⟨c, l4, u4, rfl⟩ | n4
        · have e4 : ∀ t, x11_outside t (jn c) 0 1000 = some 0 := oT l4 u4 (by decide)
          have f4 : ∀ t, m_in t (jn c) 0 1000 = some 1 := iT l4 u4 (by decide)
          simp only [e4, f4, bs, z0, o0]
          have h1 := h.put (s := s) (w := 0) (k := p) (by omega) (by omega) l2 u2
          have h2 := h1.put (s := s) (w := 1) (k := u) (by omega) (by omega) l3 u3
          have h3 := h2.put (s := s) (w := 2) (k := c) (by omega) (by omega) l4 u4
          refine ⟨1, sI (sA (sA (sA tx 500 (jn (5 * s + 0)) (jn p)) 500 (jn (5 * s + 1)) (jn u)) 500 (jn (5 * s + 2)) (jn c)) 409 (-1), sA (sA (sA tm 0 (jn s) (jn p)) 1 (jn s) (jn u)) 2 (jn s) (jn c), ?_, ?_, h3⟩
          · rw [show x5_put tx (jn s) 0 (jn p) = _ from x5_set (w := 0) h.1 (jn p) (by omega) (by omega), bs, show x5_put _ (jn s) 1 (jn u) = _ from x5_set (w := 1) h1.1 (jn u) (by omega) (by omega), bs, show x5_put _ (jn s) 2 (jn c) = _ from x5_set (w := 2) h2.1 (jn c) (by omega) (by omega), bs]
            rfl
          · simp only [gd_jn (show s < 16 by omega) (show s < 2147483648 by omega), nm]
        · have e4 : ∀ t, x11_outside t a4 0 1000 = some 1 := oF n4
          have f4 : ∀ t, m_in t a4 0 1000 = some 0 := iF n4
          exact ⟨-2, tx, tm, by simp only [e4, bs, o0, if_true], by simp only [f4, bs, z0, if_true], h⟩
      · have e3 : ∀ t, x11_outside t a3 1 50 = some 1 := oF n3
        have f3 : ∀ t, m_in t a3 1 50 = some 0 := iF n3
        exact ⟨-2, tx, tm, by simp only [e3, bs, o0, if_true], by simp only [f3, bs, z0, if_true], h⟩
    · have e2 : ∀ t, x11_outside t a2 0 1000 = some 1 := oF n2
      have f2 : ∀ t, m_in t a2 0 1000 = some 0 := iF n2
      exact ⟨-2, tx, tm, by simp only [e2, bs, o0, if_true], by simp only [f2, bs, z0, if_true], h⟩
  · have e1 : ∀ t, x11_outside t a1 0 15 = some 1 := oF n1
    have f1 : ∀ t, m_in t a1 0 15 = some 0 := iF n1
    exact ⟨-2, tx, tm, by simp only [e1, bs, o0, if_true], by simp only [f1, bs, z0, if_true], h⟩
