/-! Knots and nets. -/
def nK (tm : St) : Nat := (gI tm 7).toNatClampNeg
def nP (tm : St) : Nat := (gI tm 13).toNatClampNeg
def kS (tm : St) (k : Nat) : Nat := (gA tm 8 k).toNatClampNeg
def kD (tm : St) (k : Nat) : Nat := (gA tm 9 k).toNatClampNeg
def kT (tm : St) (k : Nat) : Nat := (gA tm 10 k).toNatClampNeg
def kF (tm : St) (k : Nat) : Nat := (gA tm 11 k).toNatClampNeg
def kN (tm : St) (k : Nat) : Nat := (gA tm 12 k).toNatClampNeg
def kP (tm : St) (k i : Nat) : Nat := (gA tm 14 (kF tm k + i)).toNatClampNeg
def kH (tm : St) (k : Nat) : Nat := (gA tm 15 k).toNatClampNeg
def orr (f : Nat → Nat) : Nat → Nat
  | 0 => 0
  | n + 1 => orr f n ||| f n
def KOk (tx tm : St) (k : Nat) : Prop :=
  gA tm 8 k = jn (kS tm k) ∧ kS tm k ≤ 4 ∧ gA tx 603 k = gA tm 8 k ∧ gA tm 9 k = jn (kD tm k) ∧ kD tm k ≤ 9 ∧ gA tx 605 k = gA tm 9 k ∧ gA tm 15 k = jn (kH tm k) ∧ kH tm k < 65536 ∧ gA tx 607 k = gA tm 15 k ∧ gA tm 12 k = jn (kN tm k) ∧ kN tm k ≤ 40 ∧
  (kS tm k = 0 → gA tm 10 k = jn (kT tm k) ∧ kT tm k < 16 ∧ gA tx 604 k = gA tm 10 k ∧ kN tm k = 0 ∧ kD tm k = 0 ∧ kH tm k = 2 ^ kT tm k) ∧
  (kS tm k ≠ 0 → gA tx 604 k = gA tm 12 k ∧ 1 ≤ kN tm k ∧ gA tm 11 k = jn (kF tm k) ∧ gA tx 606 k = gA tm 11 k ∧ kF tm k + kN tm k ≤ nP tm ∧ (kS tm k = 4 → 1 ≤ kD tm k ∧ kD tm k ≤ kN tm k ∧ kN tm k ≤ 8) ∧ (kS tm k ≠ 4 → 2 ≤ kN tm k ∧ kD tm k = 0) ∧ (∀ i, i < kN tm k → gA tx 608 (kF tm k + i) = gA tm 14 (kF tm k + i) ∧ gA tm 14 (kF tm k + i) = jn (kP tm k i) ∧ kP tm k i < k) ∧ kH tm k = orr (fun i => kH tm (kP tm k i)) (kN tm k))
def RK (tx tm : St) : Prop :=
  (gN tx 603 = 330 ∧ gN tx 604 = 330 ∧ gN tx 605 = 330 ∧ gN tx 606 = 330 ∧ gN tx 607 = 330) ∧ (gI tm 7 = jn (nK tm) ∧ nK tm ≤ 250 ∧ gI tx 609 = gI tm 7) ∧ (gI tm 13 = jn (nP tm) ∧ nP tm ≤ 40 * nK tm ∧ gI tx 610 = gI tm 13 ∧ nP tm ≤ gN tx 608 ∧ 512 ≤ gN tx 608 ∧ gN tx 608 ≤ 40000) ∧ ∀ k, k < nK tm → KOk tx tm k
theorem RK.fr {S T S' T' : List Nat} {tx tm tx' tm' : St} (h : RK tx tm) (hx : fx S T tx tx') (hm : fx S' T' tm tm') (h1 : (S.elem 603 || S.elem 604 || S.elem 605 || S.elem 606 || S.elem 607 || S.elem 608 || S.elem 609 || S.elem 610) = false := by rfl) (h2 : (T.elem 603 || T.elem 604 || T.elem 605 || T.elem 606 || T.elem 607 || T.elem 608) = false := by rfl) (h3 : (S'.elem 7 || S'.elem 8 || S'.elem 9 || S'.elem 10 || S'.elem 11 || S'.elem 12 || S'.elem 13 || S'.elem 14 || S'.elem 15) = false := by rfl) : RK tx' tm' := by
  simp only [Bool.or_eq_false_iff] at h1 h2 h3
  obtain ⟨⟨⟨⟨⟨⟨⟨a3, a4⟩, a5⟩, a6⟩, a7⟩, a8⟩, a9⟩, a10⟩ := h1
  obtain ⟨⟨⟨⟨⟨b3, b4⟩, b5⟩, b6⟩, b7⟩, b8⟩ := h2
  obtain ⟨⟨⟨⟨⟨⟨⟨⟨c7, c8⟩, c9⟩, c10⟩, c11⟩, c12⟩, c13⟩, c14⟩, c15⟩ := h3
  unfold RK KOk nK nP kS kD kT kN kP kH kF at *
  rw [hx.2 603 b3, hx.2 604 b4, hx.2 605 b5, hx.2 606 b6, hx.2 607 b7, hx.2 608 b8, (hx.1 603 a3).2.2.1, (hx.1 604 a4).2.2.1, (hx.1 605 a5).2.2.1, (hx.1 606 a6).2.2.1, (hx.1 607 a7).2.2.1, (hx.1 608 a8).2.2.1, (hx.1 609 a9).1, (hx.1 610 a10).1, (hm.1 7 c7).1, (hm.1 13 c13).1, (hm.1 8 c8).2.2.1, (hm.1 9 c9).2.2.1, (hm.1 10 c10).2.2.1, (hm.1 11 c11).2.2.1, (hm.1 12 c12).2.2.1, (hm.1 14 c14).2.2.1, (hm.1 15 c15).2.2.1]
  exact h
def RN (tx tm : St) : Prop := gN tx 602 = 10 ∧ ∀ n, n < 10 → gA tx 602 n = gA tm 16 n ∧ (gA tm 16 n = -1 ∨ ∃ k, k < nK tm ∧ gA tm 16 n = jn k)
theorem RN.fr {S T S' T' : List Nat} {tx tm tx' tm' : St} (h : RN tx tm) (hx : fx S T tx tx') (hm : fx S' T' tm tm') (h1 : S.elem 602 = false := by rfl) (h2 : T.elem 602 = false := by rfl) (h3 : (S'.elem 7 || S'.elem 16) = false := by rfl) : RN tx' tm' := by
  simp only [Bool.or_eq_false_iff] at h3
  unfold RN nK at *
  rw [hx.2 602 h2, (hx.1 602 h1).2.2.1, (hm.1 7 h3.1).1, (hm.1 16 h3.2).2.2.1]
  exact h
theorem jn_ne1 {p : Nat} (hp : p < 2147483648) : ¬ jn p = (-1 : Int32) := fun e => jn_ne_m1 hp e.symm
/-- why a net's call is refused -/
theorem why_bad {t : St} {a1 q : Int32} (n1 : ¬ (jn 0 ≤ a1 ∧ a1 ≤ jn 9)) : m_why t a1 q = some (-2) := by
  have f1 : ∀ t, m_in t a1 0 9 = some 0 := iF n1
  unfold m_why m_isNet
  simp only [f1, bs, if_true]
theorem why_wrong {t : St} {n : Nat} (u : n ≤ 9) : m_why t (jn n) 0 = some (-2) := by
  have f1 : ∀ t, m_in t (jn n) 0 9 = some 1 := iT (Nat.zero_le n) u (by decide)
  unfold m_why m_isNet
  simp only [f1, bs, o0, if_true]
theorem why_no {t : St} {n : Nat} (u : n ≤ 9) (h : gA t 16 n = -1) : m_why t (jn n) 1 = some (-3) := by
  have f1 : ∀ t, m_in t (jn n) 0 9 = some 1 := iT (Nat.zero_le n) u (by decide)
  unfold m_why m_isNet
  simp only [f1, bs, o0, if_true]
  rw [gd_jn (by omega) (by omega), jn_cl (by omega), if_pos h]
theorem why_ok {t : St} {n k : Nat} (u : n ≤ 9) (h : gA t 16 n = jn k) (hk : k < 2147483648) : m_why t (jn n) 1 = some 1 := by
  have f1 : ∀ t, m_in t (jn n) 0 9 = some 1 := iT (Nat.zero_le n) u (by decide)
  unfold m_why m_isNet
  simp only [f1, bs, o0, if_true]
  rw [gd_jn (by omega) (by omega), jn_cl (by omega), if_neg (by rw [h]; exact jn_ne1 hk)]
theorem noNet_T {t : St} {n : Nat} (u : n ≤ 9) : x11_noNet t (jn n) = some 0 := by
  unfold x11_noNet
  rw [show x11_outside t (jn n) 0 9 = some 0 from oT (Nat.zero_le n) u (by decide) t, bs]
theorem noNet_F {t : St} {a1 : Int32} (n1 : ¬ (jn 0 ≤ a1 ∧ a1 ≤ jn 9)) : x11_noNet t a1 = some 1 := by
  unfold x11_noNet
  rw [show x11_outside t a1 0 9 = some 1 from oF n1 t, bs]
theorem op_knot {tx tm : St} (hK : RK tx tm) (hN : RN tx tm) (a1 a2 : Int32) : ∃ r, x11_knot tx a1 a2 = some r ∧ m_knot tm a1 a2 = some r := by
  unfold x11_knot m_knot
  obtain ⟨⟨z3, z4, z5, z6, z7⟩, ⟨-, hK250, -⟩, -, hk⟩ := hK
  rcases io a1 0 9 with ⟨n, l1, u1, rfl⟩ | n1
  · simp only [noNet_T u1, bs, if_true]
    rcases io a2 0 4 with ⟨w, l2, u2, rfl⟩ | n2
    · have e2 : ∀ t, x11_outside t (jn w) 0 4 = some 0 := oT l2 u2 (by decide)
      have f2 : ∀ t, m_in t (jn w) 0 4 = some 1 := iT l2 u2 (by decide)
      simp only [e2, f2, bs, if_true]
      have g10 : ∀ {α : Type} (x : Option α), gd (jn n) 10 x = x := fun x => gd_jn (by omega) (by omega)
      have c1 : (jn n).toNatClampNeg = n := jn_cl (by omega)
      obtain ⟨i1, i2⟩ := hN.2 n (by omega)
      simp only [hN.1, g10, c1, i1, nm]
      rcases i2 with i2 | ⟨k, hkK, i2⟩
      · rw [why_no u1 i2, i2]
        exact ⟨-3, by rw [if_neg (by decide)], by rw [bs, if_neg (by decide)]⟩
      · have hk2 : k < 250 := by
          omega
        rw [why_ok u1 i2 (by omega), i2, bs, if_pos rfl, if_pos (jn_nn (by omega))]
        obtain ⟨s1, s2, s3, d1, d2, d3, h1, h2, h3, m1, m2, q1, q2⟩ := hk k hkK
        have gk : ∀ {α : Type} (x : Option α), gd (jn k) 400 x = x := fun x => gd_jn (by omega) (by omega)
        have gk2 : ∀ {α : Type} (x : Option α), gd (jn k) 330 x = x := fun x => gd_jn (by omega) (by omega)
        have c2 : (jn k).toNatClampNeg = k := jn_cl (by omega)
        unfold m_knotOf
        simp only [z3, z4, z5, z7, gk, gk2, c2]
        rcases (show w = 0 ∨ w = 1 ∨ w = 2 ∨ w = 3 ∨ w = 4 by omega) with rfl | rfl | rfl | rfl | rfl
        · exact ⟨jn k, by rw [if_pos (by decide)], by rw [if_pos (by decide), bs]⟩
        · exact ⟨gA tm 8 k, by rw [if_neg (by decide), if_pos (by decide), s3], by rw [if_neg (by decide), if_pos (by decide), bs]⟩
        · refine ⟨gA tx 604 k, by rw [if_neg (by decide), if_neg (by decide), if_pos (by decide)], ?_⟩
          rw [if_neg (by decide), if_neg (by decide), if_pos (by decide), s1]
          by_cases q : kS tm k = 0
          · rw [q, if_pos (by decide), bs, (q1 q).2.2.1]
          · rw [if_neg (jn_nz q (by omega)), bs, (q2 q).1]
        · exact ⟨gA tm 9 k, by rw [if_neg (by decide), if_neg (by decide), if_neg (by decide), if_pos (by decide), d3], by rw [if_neg (by decide), if_neg (by decide), if_neg (by decide), if_pos (by decide), bs]⟩
        · exact ⟨gA tm 15 k, by rw [if_neg (by decide), if_neg (by decide), if_neg (by decide), if_neg (by decide), h3], by rw [if_neg (by decide), if_neg (by decide), if_neg (by decide), if_neg (by decide), bs]⟩
    · have e2 : ∀ t, x11_outside t a2 0 4 = some 1 := oF n2
      have f2 : ∀ t, m_in t a2 0 4 = some 0 := iF n2
      exact ⟨-2, by simp only [e2, bs, o0, if_true], by simp only [f2, bs, why_wrong u1]; rw [if_neg (by decide)]⟩
  · refine ⟨-2, by simp only [noNet_F n1, bs, o0], ?_⟩
    rw [m_in_eq, bs, why_bad n1, bs, if_neg (by decide)]
theorem op_part {tx tm : St} (hK : RK tx tm) (a1 a2 : Int32) : ∃ r, x11_part tx a1 a2 = some r ∧ m_part tm a1 a2 = some r := by
  unfold x11_part m_part
  obtain ⟨⟨z3, z4, z5, z6, z7⟩, ⟨n1, n2, n3⟩, ⟨p1, p2, p3, p4, p5, p6⟩, hk⟩ := hK
  rw [n3]
  rw [x11_outside_eq, m_in_eq, bs, bs]
  by_cases g : 0 ≤ a1 ∧ a1 ≤ gI tm 7 - 1
  · rw [if_pos g, if_pos g]
    obtain ⟨k, hk0, rfl⟩ := ex_jn g.1
    have hkK : k < nK tm := by
      have h2 := g.2
      rw [n1] at h2
      by_cases e : nK tm = 0
      · rw [e] at h2
        exfalso
        have := Int32.le_iff_toInt_le.mp h2
        rw [jn_int hk0] at this
        have h3 : (jn 0 - 1).toInt = -1 := by decide
        omega
      · rw [show jn (nK tm) - 1 = jn (nK tm - 1) from jn_sub (b := 1) (by omega)] at h2
        have := (jn_le hk0 (by omega)).mp h2
        omega
    obtain ⟨s1, s2, s3, d1, d2, d3, h1, h2, h3, m1, m2, q1, q2⟩ := hk k hkK
    simp only [if_true, o0]
    by_cases ga : 0 ≤ a2
    · obtain ⟨i, hi0, rfl⟩ := ex_jn ga
      have gk : ∀ {α : Type} (x : Option α), gd (jn k) 400 x = x := fun x => gd_jn (by omega) (by omega)
      have gk2 : ∀ {α : Type} (x : Option α), gd (jn k) 330 x = x := fun x => gd_jn (by omega) (by omega)
      have c2 : (jn k).toNatClampNeg = k := jn_cl (by omega)
      unfold x6_partOf
      simp only [z3, z4, z6, gk, gk2, c2, if_pos ga, s3, s1, m1]
      by_cases q : kS tm k = 0
      · obtain ⟨-, -, -, e0, -, -⟩ := q1 q
        rw [q, if_pos (by decide), e0, if_pos (show jn 0 ≤ jn i from jn_nn hi0)]
        exact ⟨_, rfl, rfl⟩
      · obtain ⟨e1, e2, e3, e4, e5, -, -, e6, -⟩ := q2 q
        rw [if_neg (jn_nz q (by omega)), e1, m1]
        by_cases gi : i < kN tm k
        · rw [if_pos ((jn_lt (by omega) (by omega)).mpr gi), if_neg (fun e => by have := (jn_le (by omega) (by omega)).mp e; omega), e4, e3, jn_add, gd_jn (by omega) (by omega), gd_jn (by omega) (by omega), jn_cl (by omega), bs, (e6 i gi).1]
          exact ⟨_, rfl, rfl⟩
        · rw [if_neg (fun e => gi ((jn_lt (by omega) (by omega)).mp e)), if_pos ((jn_le (by omega) (by omega)).mpr (by omega))]
          exact ⟨_, rfl, rfl⟩
    · rw [if_neg ga, if_neg ga]
      exact ⟨_, rfl, rfl⟩
  · rw [if_neg g, if_neg g]
    exact ⟨-2, by rw [o0], by rw [z0]⟩
