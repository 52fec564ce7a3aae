/-! All calls: both sides answer alike, and there is room. -/
theorem iv_all {tx tm : St} (h : Iv tx tm) (k : Nat) (a1 a2 a3 a4 : Int32) : ∃ tx' tm', stepOK k tx tm a1 a2 a3 a4 tx' tm' ∧ Iv tx' tm' ∧ Mu tx tx' := by
  match k with
  | 0 => exact iv_step h a1 a2 a3 a4
  | 1 => exact iv_trace h a1 a2 a3 a4
  | 2 => exact iv_about h a1 a2 a3 a4
  | 3 => exact iv_write h a1 a2 a3 a4
  | 4 => exact iv_erase h a1 a2 a3 a4
  | 5 => exact iv_make h a1 a2 a3 a4
  | 6 => exact iv_clear h a1 a2 a3 a4
  | 7 => exact iv_knot h a1 a2 a3 a4
  | 8 => exact iv_part h a1 a2 a3 a4
  | 9 => exact iv_reaches h a1 a2 a3 a4
  | 10 => exact iv_ways h a1 a2 a3 a4
  | 11 => exact iv_wayAt h a1 a2 a3 a4
  | 12 => exact iv_least h a1 a2 a3 a4
  | 13 => exact iv_leastWay h a1 a2 a3 a4
  | 14 => exact iv_many h a1 a2 a3 a4
  | 15 => exact iv_size h a1 a2 a3 a4
  | 16 => exact iv_chance h a1 a2 a3 a4
  | 17 => exact iv_weight h a1 a2 a3 a4
  | 18 => exact iv_best h a1 a2 a3 a4
  | 19 => exact iv_limbs h a1 a2 a3 a4
  | 20 => exact iv_limb h a1 a2 a3 a4
  | 21 => exact iv_guard h a1 a2 a3 a4
  | 22 => exact iv_holds h a1 a2 a3 a4
  | 23 => exact iv_leastGuards h a1 a2 a3 a4
  | 24 => exact iv_front h a1 a2 a3 a4
  | 25 => exact iv_frontAt h a1 a2 a3 a4
  | 26 => exact iv_patrol h a1 a2 a3 a4
  | 27 => exact iv_catches h a1 a2 a3 a4
  | 28 => exact iv_game h a1 a2 a3 a4
  | 29 => exact iv_insider h a1 a2 a3 a4
  | 30 => exact iv_worst h a1 a2 a3 a4
  | 31 => exact iv_may h a1 a2 a3 a4
  | 32 => exact iv_ask h a1 a2 a3 a4
  | 33 => exact iv_event h a1 a2 a3 a4
  | 34 => exact iv_rest h a1 a2 a3 a4
  | 35 => exact iv_soon h a1 a2 a3 a4
  | 36 => exact iv_reached h a1 a2 a3 a4
  | 37 => exact iv_walk h a1 a2 a3 a4
  | 38 => exact iv_home h a1 a2 a3 a4
  | 39 => exact iv_stands h a1 a2 a3 a4
  | 40 => exact iv_begins h a1 a2 a3 a4
  | 41 => exact iv_end h a1 a2 a3 a4
  | 42 => exact iv_orderAt h a1 a2 a3 a4
  | 43 => exact iv_image h a1 a2 a3 a4
  | 44 => exact iv_differ h a1 a2 a3 a4
  | 45 => exact iv_from h a1 a2 a3 a4
  | 46 => exact iv_count h a1 a2 a3 a4
  | 47 => exact iv_digest h a1 a2 a3 a4
  | k + 48 => exact ⟨tx, tm, ⟨rfl, rfl⟩, h, Mu.fr (fx.rfl (S := []) (T := []) (t := tx))⟩
theorem PD_le {t : St} (h : DSz t) : PD t ≤ 216640 := by
  obtain ⟨a, b, c, -⟩ := h
  unfold PD
  omega
theorem P12_le {n : Nat} (h : V12 n) : P12 n ≤ 65536 := by
  have := h.le
  unfold P12
  omega
theorem PG_le {t u : St} (h : RFt t u) (h1 : gN t 105 ≤ 20500) : PG t ≤ 73768 := by
  obtain ⟨⟨a, b, c⟩, -⟩ := h
  unfold PG PF
  omega
def InvN (n : Nat) (tx tm : St) : Prop := Iv tx tm ∧ n ≤ 512 ∧ gN tx 9000 ≤ 10 * n + gN tx 808 + gN tx 608 ∧ gN tx 9001 ≤ 10604 * n + 2 * gN tx 608 + 2 * gN tx 808 + PD tx + P12 (gN tx 12) + PG tx
theorem pure_ok (L : Nat) (hL : L ≤ 2560) : ∃ Inv : Nat → St → St → Prop, (∃ tm0, m_init tM0 = some tm0 ∧ Inv 0 tX0 tm0) ∧ (∀ (n k : Nat) (tx tm : St) (a1 a2 a3 a4 : Int32), 5 * n + 5 ≤ L → Inv n tx tm → ∃ tx' tm', stepOK k tx tm a1 a2 a3 a4 tx' tm' ∧ Inv (n + 1) tx' tm') ∧ ∀ n tx tm, Inv n tx tm → 124 + gN tx 9000 ≤ 600000 ∧ 473133 + gN tx 9001 ≤ 7302250 := by
  refine ⟨InvN, ?_, ?_, ?_⟩
  · obtain ⟨tm, k, h, m0, m1⟩ := start_iv
    exact ⟨tm, k, h, Nat.zero_le _, by omega, by omega⟩
  · rintro n k tx tm a1 a2 a3 a4 hn ⟨h, h0, h1, h2⟩
    obtain ⟨tx', tm', k1, k2, k3, k4⟩ := iv_all h k a1 a2 a3 a4
    exact ⟨tx', tm', k1, k2, by omega, by omega, by omega⟩
  · rintro n tx tm ⟨h, h0, h1, h2⟩
    have a := Tb_808 h.Tb.1
    have b := PD_le h.D.1
    have c := P12_le h.O.1
    have c2 := PG_le h.Ft h.n1.2
    have d : gN tx 608 ≤ 40000 := by
      obtain ⟨-, -, ⟨-, -, -, -, -, p6⟩, -⟩ := h.K
      exact p6
    omega
