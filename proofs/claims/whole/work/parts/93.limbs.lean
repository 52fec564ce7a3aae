/-! The fraction's limbs. -/
def lmN (f : Nat → Int32) : Nat → Nat
  | 0 => 0
  | n + 1 => if f n = 0 then lmN f n else n + 1
theorem lmN_le (f : Nat → Int32) (n : Nat) : lmN f n ≤ n := by
  induction n with
  | zero => exact Nat.le_refl _
  | succ n ih => unfold lmN; split <;> omega
theorem lmN_cong {f g : Nat → Int32} {n : Nat} (h : ∀ i, i < n → f i = g i) : lmN f n = lmN g n := by
  induction n with
  | zero => rfl
  | succ n ih => unfold lmN; rw [ih fun i hi => h i (by omega), h n (by omega)]
def RF (tx tm : St) : Prop := gN tx 200 = 6 ∧ gN tx 201 = 6 ∧ (∀ i, i < 6 → gA tx 200 i = gA tm 34 (31500 + i)) ∧ gA tm 34 31506 = 0 ∧ (∀ i, i < 6 → gA tx 201 i = gA tm 34 (31507 + i)) ∧ gA tm 34 31513 = 0
def Rf (x0 x1 : Nat → Int32) (n0 n1 : Nat) (big : Nat → Int32) : Prop := n0 = 6 ∧ n1 = 6 ∧ (∀ i, i < 6 → x0 i = big (31500 + i)) ∧ big 31506 = 0 ∧ (∀ i, i < 6 → x1 i = big (31507 + i)) ∧ big 31513 = 0
theorem RF.fr {S T S' T' : List Nat} {tx tm tx' tm' : St} (h : RF tx tm) (hx : fx S T tx tx') (hm : fx S' T' tm tm') (h1 : (S.elem 200 || S.elem 201) = false := by rfl) (h2 : (T.elem 200 || T.elem 201) = false := by rfl) (h3 : S'.elem 34 = false := by rfl) : RF tx' tm' := by
  simp only [Bool.or_eq_false_iff] at h1 h2
  unfold RF at *
  rw [hx.2 200 h2.1, hx.2 201 h2.2, (hx.1 200 h1.1).2.2.1, (hx.1 201 h1.2).2.2.1, (hm.1 34 h3).2.2.1]
  exact h
theorem m_limbsOf_eq {t : St} {x : Nat} (hx : x ≤ 4505) : ∀ n, n ≤ 7 → lp (fun v => m_limbsOf_B3 t (jn x) v) (jn n) = some (jn (lmN (fun i => gA t 34 (7 * x + i)) n)) := by
  intro n
  induction n with
  | zero =>
    intro _
    exact lp_r (by unfold m_limbsOf_B3; rw [if_pos (by decide)]; rfl)
  | succ n ih =>
    intro hn
    have q : ¬ jn (n + 1) ≤ 0 := fun e => by have := (jn_le (b := 0) (by omega) (by omega)).mp e; omega
    have e : (7 : Int32) * jn x + jn (n + 1) - 1 = jn (7 * x + n) := by
      rw [show (7 : Int32) = jn 7 from rfl, jn_mul, jn_add]
      exact jn_sub (a := 7 * x + (n + 1)) (b := 1) (by omega)
    have b : m_limbsOf_B3 t (jn x) (jn (n + 1)) = if gA t 34 (7 * x + n) = 0 then some (.inl (jn n)) else some (.inr (jn (n + 1))) := by
      unfold m_limbsOf_B3
      rw [if_neg q, e, gd_jn (by omega) (by omega), jn_cl (by omega)]
      have : jn (n + 1) + -1 = jn n := by
        rw [show jn (n + 1) = jn n + 1 from (jn_add n 1).symm, Int32.add_assoc]
        exact Int32.add_zero _
      simp only [nm, this]
    unfold lmN
    by_cases g : gA t 34 (7 * x + n) = 0
    · rw [if_pos g] at b
      rw [if_pos g, lp_l b]
      exact ih (by omega)
    · rw [if_neg g] at b
      rw [if_neg g]
      exact lp_r b

theorem x2_limbs200 {t : St} (hN : gN t 200 = 6) : ∀ n, n ≤ 6 → lp (fun v => x2_limbsOf_B100019 t v) (jn n) = some (jn (lmN (gA t 200) n)) := by
  intro n
  induction n with
  | zero =>
    intro _
    exact lp_r (by unfold x2_limbsOf_B100019; rw [if_pos (by decide)]; rfl)
  | succ n ih =>
    intro hn
    have q : ¬ jn (n + 1) ≤ 0 := fun e => by have := (jn_le (b := 0) (by omega) (by omega)).mp e; omega
    have b : x2_limbsOf_B100019 t (jn (n + 1)) = if gA t 200 n = 0 then some (.inl (jn n)) else some (.inr (jn (n + 1))) := by
      unfold x2_limbsOf_B100019
      rw [if_neg q, show jn (n + 1) - 1 = jn n from jn_sub (a := n + 1) (b := 1) (by omega), hN, gd_jn (by omega) (by omega), jn_cl (by omega)]
      have : jn (n + 1) + -1 = jn n := by
        rw [show jn (n + 1) = jn n + 1 from (jn_add n 1).symm, Int32.add_assoc]
        exact Int32.add_zero _
      simp only [nm, this]
    unfold lmN
    by_cases g : gA t 200 n = 0
    · rw [if_pos g] at b
      rw [if_pos g, lp_l b]
      exact ih (by omega)
    · rw [if_neg g] at b
      rw [if_neg g]
      exact lp_r b

theorem x2_limbs201 {t : St} (hN : gN t 201 = 6) : ∀ n, n ≤ 6 → lp (fun v => x2_limbsOf_B19 t v) (jn n) = some (jn (lmN (gA t 201) n)) := by
  intro n
  induction n with
  | zero =>
    intro _
    exact lp_r (by unfold x2_limbsOf_B19; rw [if_pos (by decide)]; rfl)
  | succ n ih =>
    intro hn
    have q : ¬ jn (n + 1) ≤ 0 := fun e => by have := (jn_le (b := 0) (by omega) (by omega)).mp e; omega
    have b : x2_limbsOf_B19 t (jn (n + 1)) = if gA t 201 n = 0 then some (.inl (jn n)) else some (.inr (jn (n + 1))) := by
      unfold x2_limbsOf_B19
      rw [if_neg q, show jn (n + 1) - 1 = jn n from jn_sub (a := n + 1) (b := 1) (by omega), hN, gd_jn (by omega) (by omega), jn_cl (by omega)]
      have : jn (n + 1) + -1 = jn n := by
        rw [show jn (n + 1) = jn n + 1 from (jn_add n 1).symm, Int32.add_assoc]
        exact Int32.add_zero _
      simp only [nm, this]
    unfold lmN
    by_cases g : gA t 201 n = 0
    · rw [if_pos g] at b
      rw [if_pos g, lp_l b]
      exact ih (by omega)
    · rw [if_neg g] at b
      rw [if_neg g]
      exact lp_r b

theorem limbs_both {tx tm : St} (h : RF tx tm) {w : Nat} (hw : w ≤ 1) : ∃ n, n ≤ 6 ∧ x2_limbsOf tx (jn w) = some (jn n) ∧ m_limbsOf tm ((4500 : Int32) + jn w) = some (jn n) := by
  obtain ⟨z0, z1, a0, b0, a1, b1⟩ := h
  rw [show (4500 : Int32) = jn 4500 from rfl, jn_add]
  unfold x2_limbsOf m_limbsOf
  rw [show (7 : Int32) = jn 7 from rfl, m_limbsOf_eq (by omega) 7 (by omega), bs, show (6 : Int32) = jn 6 from rfl, x2_limbs200 z0 6 (by omega), x2_limbs201 z1 6 (by omega), bs, bs]
  rcases (show w = 0 ∨ w = 1 by omega) with rfl | rfl
  · refine ⟨_, lmN_le (gA tx 200) 6, by rw [if_pos (by decide)], ?_⟩
    rw [show lmN (fun i => gA tm 34 (7 * (4500 + 0) + i)) 7 = lmN (fun i => gA tm 34 (7 * (4500 + 0) + i)) 6 from if_pos b0, lmN_cong (g := gA tx 200) (fun i hi => (a0 i hi).symm)]
  · refine ⟨_, lmN_le (gA tx 201) 6, by rw [if_neg (by decide)], ?_⟩
    rw [show lmN (fun i => gA tm 34 (7 * (4500 + 1) + i)) 7 = lmN (fun i => gA tm 34 (7 * (4500 + 1) + i)) 6 from if_pos b1, lmN_cong (g := gA tx 201) (fun i hi => (a1 i hi).symm)]

theorem op_limbs {tx tm : St} (h : RF tx tm) (a1 : Int32) : ∃ r, x11_limbs tx a1 = some r ∧ m_limbs tm a1 = some r := by
  unfold x11_limbs m_limbs
  rcases io a1 0 1 with ⟨w, l1, u1, rfl⟩ | n1
  · have e1 : ∀ t, x11_outside t (jn w) 0 1 = some 0 := oT l1 u1 (by decide)
    have f1 : ∀ t, m_in t (jn w) 0 1 = some 1 := iT l1 u1 (by decide)
    simp only [e1, f1, bs, z0, o0, if_true]
    obtain ⟨n, -, k1, k2⟩ := limbs_both h u1
    exact ⟨_, by rw [k1, bs], by rw [k2, bs]⟩
  · have e1 : ∀ t, x11_outside t a1 0 1 = some 1 := oF n1
    have f1 : ∀ t, m_in t a1 0 1 = some 0 := iF n1
    exact ⟨-2, by simp only [e1, bs, o0, if_true], by simp only [f1, bs, z0, if_true]⟩

theorem op_limb {tx tm : St} (h : RF tx tm) (a1 a2 : Int32) : ∃ r, x11_limb tx a1 a2 = some r ∧ m_limb tm a1 a2 = some r := by
  unfold x11_limb m_limb
  rcases io a1 0 1 with ⟨w, l1, u1, rfl⟩ | n1
  · have e1 : ∀ t, x11_outside t (jn w) 0 1 = some 0 := oT l1 u1 (by decide)
    have f1 : ∀ t, m_in t (jn w) 0 1 = some 1 := iT l1 u1 (by decide)
    simp only [e1, f1, bs, z0, o0, if_true]
    obtain ⟨n, hn, k1, k2⟩ := limbs_both h u1
    obtain ⟨zz0, zz1, b0, b1, b2, b3⟩ := h
    by_cases ga : 0 ≤ a2
    · obtain ⟨i, hi0, rfl⟩ := ex_jn ga
      rw [if_pos ga, if_pos ga, k1, k2, bs, bs]
      by_cases q : n ≤ i
      · have q1 := (jn_le (a := n) (b := i) (by omega) (by omega)).mpr q
        rw [if_pos q1, if_pos q1]
        exact ⟨_, rfl, rfl⟩
      · have q1 : ¬ jn n ≤ jn i := fun e => q ((jn_le (by omega) (by omega)).mp e)
        rw [if_neg q1, if_neg q1]
        unfold x2_limbOf
        rw [zz0, zz1, gd_jn (by omega) (by omega), gd_jn (by omega) (by omega), jn_cl (by omega), show (7 : Int32) = jn 7 from rfl, show (4500 : Int32) = jn 4500 from rfl, jn_add, jn_mul, jn_add, gd_jn (by omega) (by omega), jn_cl (by omega)]
        rcases (show w = 0 ∨ w = 1 by omega) with rfl | rfl
        · rw [if_pos (by decide), bs, b0 i (by omega)]
          exact ⟨_, rfl, rfl⟩
        · rw [if_neg (by decide), bs, b2 i (by omega), show 31507 + i = 7 * (4500 + 1) + i by omega]
          exact ⟨_, rfl, rfl⟩
    · rw [if_neg ga, if_neg ga]
      exact ⟨_, rfl, rfl⟩
  · have e1 : ∀ t, x11_outside t a1 0 1 = some 1 := oF n1
    have f1 : ∀ t, m_in t a1 0 1 = some 0 := iF n1
    exact ⟨-2, by simp only [e1, bs, o0, if_true], by simp only [f1, bs, z0, if_true]⟩
