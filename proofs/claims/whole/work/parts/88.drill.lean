/-! The drill. -/
def RE (tx tm : St) : Prop := gN tx 102 = 40 ∧ gN tx 103 = 40 ∧ ∃ n, n ≤ 40 ∧ gI tx 104 = jn n ∧ gI tm 56 = jn n ∧ ∀ i, i < n → gA tx 102 i = gA tm 57 i ∧ gA tx 103 i = gA tm 58 i ∧ (∃ s, s < 16 ∧ gA tm 57 i = jn s) ∧ ∃ v, v ≤ 10000 ∧ gA tm 58 i = jn v
theorem RE.fr {S T S' T' : List Nat} {tx tm tx' tm' : St} (h : RE tx tm) (hx : fx S T tx tx') (hm : fx S' T' tm tm') (h1 : (S.elem 102 || S.elem 103 || S.elem 104) = false := by rfl) (h2 : (T.elem 102 || T.elem 103) = false := by rfl) (h3 : (S'.elem 56 || S'.elem 57 || S'.elem 58) = false := by rfl) : RE tx' tm' := by
  simp only [Bool.or_eq_false_iff] at h1 h2 h3
  unfold RE
  rw [hx.2 102 h2.1, hx.2 103 h2.2, (hx.1 102 h1.1.1).2.2.1, (hx.1 103 h1.1.2).2.2.1, (hx.1 104 h1.2).1, (hm.1 56 h3.1.1).1, (hm.1 57 h3.1.2).2.2.1, (hm.1 58 h3.2).2.2.1]
  exact h
theorem op_event {tx tm : St} (h : RE tx tm) (a1 a2 : Int32) : ∃ r tx' tm', x11_event tx a1 a2 = some (r, tx') ∧ m_event tm a1 a2 = some (r, tm') ∧ RE tx' tm' := by
  have h0 := h
  obtain ⟨hN, hN2, n, hn, e5, e6, hc⟩ := h
  unfold x11_event m_event x11_noStep m_isStep
  rcases io a1 0 15 with ⟨s, l1, u1, rfl⟩ | n1
  · have e1 : ∀ t, x11_outside t (jn s) 0 15 = some 0 := oT l1 u1 (by decide)
    have f1 : ∀ t, m_in t (jn s) 0 15 = some 1 := iT l1 u1 (by decide)
    simp only [e1, f1, bs, z0, o0, if_true]
    have key : ∃ v, v ≤ 10000 ∧ x1_lastMinute tx = some (jn v) ∧ (if gI tm 56 = 0 then m_event_J30 tm (jn s) a2 a2 0 else gd (gI tm 56 - 1) 40 (m_event_J30 tm (jn s) a2 a2 (gA tm 58 (gI tm 56 - 1).toNatClampNeg))) = m_event_J30 tm (jn s) a2 a2 (jn v) := by
      unfold x1_lastMinute
      rw [e5, e6]
      by_cases g : n = 0
      · subst g
        exact ⟨0, by omega, by rw [if_pos (by decide)]; rfl, by rw [if_pos (by decide)]; rfl⟩
      · have g1 : ¬ jn n = 0 := fun e => g ((jn_inj (b := 0) (by omega) (by omega)).mp e)
        have g2 : jn n - 1 = jn (n - 1) := jn_sub (b := 1) (by omega)
        obtain ⟨-, hc2, -, v, hv, hv2⟩ := hc (n - 1) (by omega)
        refine ⟨v, hv, ?_, ?_⟩
        · rw [if_neg g1, g2, hN2, gd_jn (by omega) (by omega), jn_cl (by omega), hc2, hv2]
        · rw [if_neg g1, g2, gd_jn (by omega) (by omega), jn_cl (by omega), hv2]
    obtain ⟨v, hv, k1, k2⟩ := key
    rw [k2]
    simp only [k1, bs]
    unfold m_event_J30
    rcases io a2 v 10000 (by omega) with ⟨w, l2, u2, rfl⟩ | n2
    · have e2 : ∀ t, x11_outside t (jn w) (jn v) 10000 = some 0 := oT l2 u2 (by decide)
      have f2 : ∀ t, m_in t (jn w) (jn v) 10000 = some 1 := iT l2 u2 (by decide)
      simp only [e2, f2, bs, z0, o0, if_true]
      unfold x1_append
      rw [e5, e6, show (40 : Int32) = jn 40 from rfl]
      by_cases g : n = 40
      · subst g
        refine ⟨-4, tx, tm, ?_, ?_, h0⟩
        · rw [if_neg (by decide), bs, if_pos rfl]
        · rw [if_pos rfl]
      · have g1 : n < 40 := by omega
        refine ⟨jn n + 1, sI (sA (sA tx 102 (jn n) (jn s)) 103 (jn n) (jn w)) 104 (jn n + 1), sI (sA (sA tm 57 (jn n) (jn s)) 58 (jn n) (jn w)) 56 (jn n + 1), ?_, ?_, hN, hN2, n + 1, by omega, jn_add n 1, jn_add n 1, ?_⟩
        · rw [if_pos ((jn_lt (by omega) (by omega)).mpr g1), hN, gd_jn g1 (by omega)]
          simp only [nm]
          rw [show gI (sA tx 102 (jn n) (jn s)) 104 = gI tx 104 from rfl, e5, show gN (sA tx 102 (jn n) (jn s)) 103 = gN tx 103 from rfl, hN2, gd_jn g1 (by omega)]
          rw [show gI (sA (sA tx 102 (jn n) (jn s)) 103 (jn n) (jn w)) 104 = gI tx 104 from rfl, e5]
          rfl
        · rw [if_neg (fun e => g ((jn_inj (by omega) (by omega)).mp e)), gd_jn g1 (by omega)]
          simp only [nm]
          rw [show gI (sA tm 57 (jn n) (jn s)) 56 = gI tm 56 from rfl, e6, gd_jn g1 (by omega)]
          rw [show gI (sA (sA tm 57 (jn n) (jn s)) 58 (jn n) (jn w)) 56 = gI tm 56 from rfl, e6]
          rfl
        · intro i hi
          show upd (gA tx 102) (jn n).toNatClampNeg (jn s) i = upd (gA tm 57) (jn n).toNatClampNeg (jn s) i ∧ upd (gA tx 103) (jn n).toNatClampNeg (jn w) i = upd (gA tm 58) (jn n).toNatClampNeg (jn w) i ∧ (∃ s1, s1 < 16 ∧ upd (gA tm 57) (jn n).toNatClampNeg (jn s) i = jn s1) ∧ ∃ v, v ≤ 10000 ∧ upd (gA tm 58) (jn n).toNatClampNeg (jn w) i = jn v
          rw [jn_cl (by omega)]
          by_cases e : i = n
          · subst e
            simp only [upd_at]
            exact ⟨trivial, trivial, ⟨s, by omega, rfl⟩, w, u2, rfl⟩
          · simp only [upd_ne e]
            exact hc i (by omega)
    · have e2 : ∀ t, x11_outside t a2 (jn v) 10000 = some 1 := oF n2
      have f2 : ∀ t, m_in t a2 (jn v) 10000 = some 0 := iF n2
      exact ⟨-2, tx, tm, by simp only [e2, bs, o0, if_true], by simp only [f2, bs, z0, if_true], h0⟩
  · have e1 : ∀ t, x11_outside t a1 0 15 = some 1 := oF n1
    have f1 : ∀ t, m_in t a1 0 15 = some 0 := iF n1
    exact ⟨-2, tx, tm, by simp only [e1, bs, o0, if_true], by simp only [f1, bs, z0, if_true], h0⟩
theorem op_rest {tx tm : St} (h : RE tx tm) : ∃ r tx' tm', x11_rest tx = some (r, tx') ∧ m_rest tm = some (r, tm') ∧ RE tx' tm' := by
  obtain ⟨hN, hN2, n, hn, e5, e6, hc⟩ := h
  unfold x11_rest m_rest
  refine ⟨jn n, sI tx 104 0, sI tm 56 0, ?_, ?_, hN, hN2, 0, by omega, rfl, rfl, fun i hi => absurd hi (by omega)⟩
  · simp only [nm, e5]
  · simp only [nm, e6]
theorem op_soon {tx tm : St} (hH : RH tx tm) (h : RE tx tm) : ∃ r, x11_soon tx = some r ∧ m_soon tm = some r := by
  obtain ⟨hN, hN2, n, hn, e5, e6, hc⟩ := h
  have key := lp_two (b := fun x : Int32 × Int32 => x1_firstTooSoon_B4 tx x.1 x.2) (b' := fun x : Int32 => m_soon_B2 tm x) (fun x => 41 - x.2.toNatClampNeg)
    (fun x x' => ∃ i, i ≤ n ∧ x' = jn i ∧ x.2 = jn i ∧ x.1 = if i = 0 then 0 else gA tm 58 (i - 1)) (fun y y' => y = y') (by
      rintro ⟨x1, x2⟩ x' ⟨i, hi, rfl, e2, e1⟩
      dsimp only at e1 e2
      subst e2 e1
      dsimp only
      unfold x1_firstTooSoon_B4 m_soon_B2
      rw [e5, e6]
      by_cases g : i = n
      · subst g
        refine Or.inr ⟨.inr (), .inr (), ?_, ?_, rfl⟩
        · rw [if_pos ((jn_le (by omega) (by omega)).mpr (Nat.le_refl _))]
        · rw [if_pos ((jn_le (by omega) (by omega)).mpr (Nat.le_refl _))]
      · have g1 : i < n := by omega
        obtain ⟨h1, h2, ⟨s, hs, h3⟩, v, hv, h4⟩ := hc i g1
        have g2 : ¬ jn n ≤ jn i := fun e => by
          have := (jn_le (by omega) (by omega)).mp e
          omega
        rw [if_neg g2, if_neg g2]
        have hg : ∀ {α : Type} (x : Option α), gd (jn i) 40 x = x := fun x => gd_jn (by omega) (by omega)
        rw [hN, hN2]
        simp only [hg, jn_cl (show i < 2147483648 by omega), h1, h2, h3]
        have hp : (if jn i = 0 then m_soon_J32 tm (jn i) (gA tm 58 i) 0 else gd (jn i - 1) 40 (m_soon_J32 tm (jn i) (gA tm 58 i) (gA tm 58 (jn i - 1).toNatClampNeg))) = m_soon_J32 tm (jn i) (gA tm 58 i) (if i = 0 then 0 else gA tm 58 (i - 1)) := by
          by_cases q : i = 0
          · subst q
            rw [if_pos (by decide), if_pos rfl]
          · have q0 : ¬ jn i = 0 := fun e => q ((jn_inj (b := 0) (by omega) (by omega)).mp e)
            rw [if_neg q0, if_neg q, show jn i - 1 = jn (i - 1) from jn_sub (b := 1) (by omega), gd_jn (by omega) (by omega), jn_cl (by omega)]
        rw [hp, show x5_get tx (jn s) 1 = _ from x5_at (w := 1) hH.1 hs (by omega), (hH.2 s 1 hs (by omega)).1, bs]
        unfold m_soon_J32
        simp only [hg, jn_cl (show i < 2147483648 by omega), h3, gd_jn hs (show s < 2147483648 by omega), jn_cl (show s < 2147483648 by omega), nm]
        by_cases q : gA tm 1 s ≤ gA tm 58 i - (if i = 0 then 0 else gA tm 58 (i - 1))
        · rw [if_pos q, if_pos q]
          refine Or.inl ⟨_, _, rfl, rfl, ⟨i + 1, by omega, jn_add i 1, jn_add i 1, ?_⟩, ?_⟩
          · rw [if_neg (by omega)]
            rfl
          · dsimp only
            rw [show jn i + 1 = jn (i + 1) from jn_add i 1, jn_cl (by omega)]
            omega
        · rw [if_neg q, if_neg q]
          exact Or.inr ⟨_, _, rfl, rfl, rfl⟩)
    ((0 : Int32), (0 : Int32)) (0 : Int32) ⟨0, by omega, rfl, rfl, rfl⟩
  obtain ⟨y, y', k1, k2, rfl⟩ := key
  unfold x11_soon x1_firstTooSoon m_soon
  rw [k1, k2]
  cases y with
  | inl v => exact ⟨v, rfl, rfl⟩
  | inr v => exact ⟨-1, rfl, rfl⟩
