theorem pure_ok (L : Nat) (hL : L ≤ 2560) : ∃ Inv : Nat → St → St → Prop, (∃ tm0, m_init tM0 = some tm0 ∧ Inv 0 tX0 tm0) ∧ (∀ (n k : Nat) (tx tm : St) (a1 a2 a3 a4 : Int32), 5 * n + 5 ≤ L → Inv n tx tm → ∃ tx' tm', stepOK k tx tm a1 a2 a3 a4 tx' tm' ∧ Inv (n + 1) tx' tm') ∧ (∀ n tx tm, Inv n tx tm → 124 + gN tx 9000 ≤ 600000 ∧ 473133 + gN tx 9001 ≤ 7302250) := by
  sorry
