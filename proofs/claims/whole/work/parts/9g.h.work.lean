/-! Chances, on the class's side. -/
theorem p3_lt {m : Nat} (h : 1 ≤ m) : 1000 ^ m < Bp ((m + 2) / 3) := by
  have h1 : 1000 ^ m ≤ 1000 ^ (3 * ((m + 2) / 3)) := Nat.pow_le_pow_right (by omega) (by omega)
  rw [Nat.pow_mul] at h1
  exact Nat.lt_of_le_of_lt h1 (Nat.pow_lt_pow_left (by decide) (by omega))
/-- what a step's chance is for the work -/
def usU (tm : St) (never s : Nat) : Nat := if never.testBit s then 0 else (gA tm 2 s).toNatClampNeg
theorem usU_ok {tx tm : St} (hH : RH tx tm) (never : Nat) : ∀ s, s < 16 → usU tm never s ≤ 1000 ∧ (if never.testBit s then (0 : Int32) else gA tm 2 s) = jn (usU tm never s) := by
  intro s hs
  obtain ⟨-, k, k1, k2, k3⟩ := hH.2 s 2 hs (by omega)
  have k2' : k ≤ 1000 := k2
  unfold usU
  cases never.testBit s with
  | true => exact ⟨Nat.zero_le _, rfl⟩
  | false =>
    rw [if_neg (by decide), if_neg (by decide), k3, jn_cl (by omega)]
    exact ⟨k2', rfl⟩
theorem takeOdds_eq {tx tm : St} {H never : Nat} (hT : TbR tx H) (h14 : gN tx 14 = 16) (hH : RH tx tm) (hn : never < 2147483648) : ∃ t', x0_takeOdds tx (jn never) = some t' ∧ fx [14] [] tx t' ∧ ∀ r, r < mN H → gA t' 14 r = jn (usU tm never (odr H r)) := by
  have hm := mN_le H
  obtain ⟨⟨n1, -⟩, t3, t4, -, -⟩ := hT
  have L := lp_cnt (b := fun z : Int32 × St => x0_takeOdds_B2 (jn never) z.1 z.2) (fun i s => (jn i, s)) (mN H)
    (fun i s => fx [14] [] tx s ∧ ∀ r, r < i → gA s 14 r = jn (usU tm never (odr H r)))
    (fun s => fx [14] [] tx s ∧ ∀ r, r < mN H → gA s 14 r = jn (usU tm never (odr H r))) (by
      rintro i s hi ⟨w1, w2⟩
      obtain ⟨o1, -, -⟩ := odr_ok hi
      obtain ⟨hh, k, k1, k2, k3⟩ := hH.2 _ 2 o1 (by omega)
      have u2 := (usU_ok hH never _ o1).2
      have J : ∀ w : Int32, x0_takeOdds_J50 s (jn never) (jn i) (jn i) w = some (.inl (jn (i + 1), sA s 14 (jn i) w)) := fun w => by
        unfold x0_takeOdds_J50
        rw [w1.2 14 rfl, h14, gd_jn (by omega) (by omega)]
        simp only [nm, jn_s]
      have put : ∀ w : Int32, w = jn (usU tm never (odr H i)) → fx [14] [] tx (sA s 14 (jn i) w) ∧ ∀ r, r < i + 1 → gA (sA s 14 (jn i) w) 14 r = jn (usU tm never (odr H r)) := fun w hw => by
        refine ⟨w1.trans (fx_sA rfl), fun r hr => ?_⟩
        rw [gA_sA, jn_cl (by omega)]
        by_cases e : r = i
        · subst e; rw [upd_at, hw]
        · rw [upd_ne e]; exact w2 r (by omega)
      dsimp only
      unfold x0_takeOdds_B2
      rw [(w1.1 803 rfl).1, t3, if_neg (nle hi (by omega)), w1.2 801 rfl, n1, gd_jn (by omega) (by omega), jn_cl (by omega), (w1.1 801 rfl).2.2.1, t4 i hi]
      simp only [nm]
      rw [jn_bit hn (by omega), J]
      have g5 : x5_get s (jn (odr H i)) 2 = some (gA tm 2 (odr H i)) := by
        unfold x5_get
        rw [show jn (odr H i) * 5 + 2 = jn (5 * odr H i + 2) from by
          rw [show (5 : Int32) = jn 5 from rfl, show (2 : Int32) = jn 2 from rfl, jn_mul, jn_add, Nat.mul_comm], w1.2 500 rfl, hH.1, gd_jn (by omega) (by omega), jn_cl (by omega), (w1.1 500 rfl).2.2.1, hh]
      rw [g5, bs, J]
      cases hb : never.testBit (odr H i) with
      | true =>
        rw [hb, if_pos rfl] at u2
        rw [if_pos rfl, if_pos (show jn 1 = 1 from rfl)]
        exact ⟨_, rfl, put _ u2⟩
      | false =>
        rw [hb, if_neg (by decide)] at u2
        rw [if_neg (show ¬ (false = true) by decide), if_neg (show ¬ jn 0 = 1 by decide)]
        exact ⟨_, rfl, put _ u2⟩) (by
      rintro s hs
      exact ⟨s, by dsimp only; unfold x0_takeOdds_B2; rw [(hs.1.1 803 rfl).1, t3, if_pos (lee (by omega))], hs⟩) 0 tx (Nat.zero_le _) ⟨fx.rfl, fun r hr => absurd hr (Nat.not_lt_zero r)⟩
  obtain ⟨s, k, k1, k2⟩ := L
  refine ⟨s, ?_, k1, k2⟩
  unfold x0_takeOdds
  rw [show lp (fun z : Int32 × St => x0_takeOdds_B2 (jn never) z.1 z.2) ((0 : Int32), tx) = some s from k, bs]
/-- a row is made longer if it has to be -/
def Gw (k W : Nat) (t t' : St) : Prop := W ≤ gN t' k ∧ ((gN t k < W → gN t' k = max W (2 * gN t k)) ∧ (¬ gN t k < W → gN t' k = gN t k)) ∧ gN t' 9000 = gN t 9000 + (if gN t k < W then 1 else 0) ∧ gN t' 9001 = gN t 9001 + (if gN t k < W then max W (2 * gN t k) else 0)
theorem Gw.fx {k W : Nat} {t u v : St} {S : List Nat} (h : Gw k W t u) (hx : fx S [] u v) : Gw k W t v := by
  unfold Gw
  rw [hx.2 k rfl, hx.2 9000 rfl, hx.2 9001 rfl]
  exact h
theorem Gw.le {k W : Nat} {t u : St} (h : Gw k W t u) : gN t k ≤ gN u k := by
  obtain ⟨h1, ⟨h2, h3⟩, -⟩ := h
  by_cases c : gN t k < W
  · rw [h2 c]; omega
  · rw [h3 c]; exact Nat.le_refl _
theorem work_eq {t : St} {N : List (Nat × Nat × Nat)} {p : Nat → Nat} {m top : Nat} (hN : NX t N) (h4 : gI t 4 = jn top) (h6 : gI t 6 = jn ((m + 2) / 3)) (h9 : N.length + 2 ≤ gN t 9) (h10 : gN t 10 = gN t 9) (h11 : gN t 11 = gN t 9) (hw : Wf N) (hl : Wl N) (hm : ∀ i, i < N.length → (N.getD i (0, 0, 0)).1 < m) (m1 : 1 ≤ m) (m16 : m ≤ 16) (h803 : gI t 803 = jn m) (hlen : N.length ≤ 400) (htp : top < N.length + 2) (h14 : gN t 14 = 16) (hp1 : ∀ r, r < m → p r ≤ 1000) (hp2 : ∀ r, r < m → gA t 14 r = jn (p r)) (h12 : gN t 12 ≤ 1000000) (h9b : gN t 9 ≤ 1000000) : ∃ t', x0_work t = some (jn (top * ((m + 2) / 3)), t') ∧ fx [12] [12, 9000, 9001] t t' ∧ Gw 12 ((N.length + 2) * ((m + 2) / 3)) t t' ∧ gN t' 12 ≤ 1000000 ∧ top * ((m + 2) / 3) + (m + 2) / 3 ≤ gN t' 12 ∧ Bg (gA t' 12) (top * ((m + 2) / 3)) ((m + 2) / 3) (nv N p m N.length top) := by
  have pm := p3_lt m1
  have n6 : (m + 2) / 3 ≤ 6 := by omega
  have n1 : 1 ≤ (m + 2) / 3 := by omega
  have ok := nv_ok hw hl hm hp1
  generalize (m + 2) / 3 = n at *
  have W6 : (N.length + 2) * n ≤ 402 * 6 := Nat.mul_le_mul (by omega) n6
  unfold x0_work
  rw [hN.1, h6, jn_mul]
  obtain ⟨t1, g0, g1, g2, ⟨g3, g4⟩, g5⟩ := grw_eqx (t := t) (k := 12) (N := (N.length + 2) * n) (by omega) (by omega) h12 (fun t16 : St => x0_work_J20 t16)
  rw [g0]
  have f1 := g5 [12] [12, 9000, 9001] rfl rfl rfl rfl
  have g12 : gN t1 12 ≤ 1000000 := by
    by_cases c : gN t 12 < (N.length + 2) * n
    · rw [g2.1 c]; omega
    · rw [g2.2 c]; exact h12
  have row : ∀ x, x < N.length + 2 → x * n + n ≤ gN t1 12 := fun x hx => by
    have : (x + 1) * n ≤ (N.length + 2) * n := Nat.mul_le_mul_right _ (by omega)
    rw [Nat.succ_mul] at this
    omega
  have r0 := row 0 (by omega)
  have r1 := row 1 (by omega)
  rw [Nat.zero_mul] at r0
  rw [Nat.one_mul] at r1
  obtain ⟨t2, a1, a2, a3⟩ := wipe12_eq (t := t1) (a := 0) (n := n) r0 g12
  obtain ⟨t3, b1, b2, b3⟩ := putPower12_eq (t := t2) (a := n) (n := n) (m := m) n1 (by rw [a2.1.2 12 rfl]; exact r1) (by rw [a2.1.2 12 rfl]; exact g12) (by omega) pm
  have f13 : fx [12] [] t1 t3 := a2.1.trans b2.1
  have L := lp_cnt (b := fun z : Int32 × St => x0_work_B56 z.1 z.2) (fun i s => (jn (i + 2), s)) N.length
    (fun i s => fx [12] [] t1 s ∧ ∀ x, x < i + 2 → Bg (gA s 12) (x * n) n (nv N p m i x))
    (fun s => fx [12] [] t1 s ∧ ∀ x, x < N.length + 2 → Bg (gA s 12) (x * n) n (nv N p m N.length x)) (by
      rintro i s hi ⟨w1, w2⟩
      have W := f1.trans (w1.wk rfl rfl : fx [12] [12, 9000, 9001] t1 s)
      obtain ⟨v1, v2, v3⟩ := hN.2 i hi
      obtain ⟨c1, c2, -⟩ := hw i hi
      have mi := hm i hi
      have okN := (ok (i + 1) (by omega) (i + 2) (by omega)).1
      rw [nv_s, if_pos rfl] at okN
      have pr1 := hp1 _ mi
      have pr2 := hp2 _ mi
      have e3 : gI s 3 = jn (N.length + 2) := by rw [(W.1 3 rfl).1]; exact hN.1
      have e6 : gI s 6 = jn n := by rw [(W.1 6 rfl).1]; exact h6
      have lo : ∀ x, x < i + 2 → x * n + n ≤ (i + 2) * n := fun x hx => by
        have : (x + 1) * n ≤ (i + 2) * n := Nat.mul_le_mul_right _ (by omega)
        rw [Nat.succ_mul] at this
        omega
      have s12 : gN s 12 = gN t1 12 := w1.2 12 rfl
      obtain ⟨s', k1, k2, k3⟩ := blend12_eq (t := s) (a := (i + 2) * n) (b := (N.getD i (0, 0, 0)).2.2 * n) (c := (N.getD i (0, 0, 0)).2.1 * n) (n := n) (p := p (N.getD i (0, 0, 0)).1) n1 (by rw [s12]; exact row _ (by omega)) (by rw [s12]; exact row _ (by omega)) (by rw [s12]; exact row _ (by omega)) (by rw [s12]; exact g12) pr1 (Or.inr (Or.inl (lo _ c2))) (Or.inr (Or.inl (lo _ c1))) (w2 _ c2) (w2 _ c1) (Nat.lt_of_le_of_lt okN pm)
      refine ⟨s', ?_, w1.trans k2.1, fun x hx => ?_⟩
      · dsimp only
        unfold x0_work_B56
        rw [e3, if_neg (nle (show i + 2 < N.length + 2 by omega) (by omega)), W.2 11 rfl, W.2 10 rfl, W.2 9 rfl, h10, h11, gd_jn (by omega) (by omega), gd_jn (by omega) (by omega), gd_jn (by omega) (by omega), jn_cl (by omega), (W.1 9 rfl).2.2.1, (W.1 10 rfl).2.2.1, (W.1 11 rfl).2.2.1, v1, v2, v3, W.2 14 rfl, h14, gd_jn (by omega) (by omega), e6, jn_cl (by omega), (W.1 14 rfl).2.2.1, pr2, jn_mul, jn_mul, jn_mul, k1, bs]
        simp only [nm, jn_s]
      · rw [nv_s]
        by_cases c : x = i + 2
        · subst c; rw [if_pos rfl]; exact k3
        · rw [if_neg c]
          exact (w2 x (by omega)).on k2 (Or.inl (lo x (by omega)))) (by
      rintro s hs
      have W := f1.trans (hs.1.wk rfl rfl : fx [12] [12, 9000, 9001] t1 s)
      refine ⟨s, ?_, hs⟩
      dsimp only
      unfold x0_work_B56
      rw [(W.1 3 rfl).1, hN.1, if_pos (lee (by omega))]) 0 t3 (Nat.zero_le _) ⟨f13, fun x hx => by
        show Bg (gA t3 12) (x * n) n (if x = 1 then 1000 ^ m else 0)
        by_cases c : x = 1
        · subst c; rw [if_pos rfl, Nat.one_mul]; exact b3
        · rw [if_neg c, show x = 0 by omega, Nat.zero_mul]
          exact a3.on b2 (Or.inl (by omega))⟩
  obtain ⟨s, k, k1, k2⟩ := L
  have W := f1.trans (k1.wk rfl rfl : fx [12] [12, 9000, 9001] t1 s)
  refine ⟨s, ?_, W, Gw.fx ⟨g1, g2, g3, g4⟩ k1, by rw [k1.2 12 rfl]; exact g12, by rw [k1.2 12 rfl]; exact row _ htp, k2 top htp⟩
  unfold x0_work_J20
  have fA := f1.trans (a2.1.wk rfl rfl : fx [12] [12, 9000, 9001] t1 t2)
  rw [(f1.1 6 rfl).1, h6, show (0 : Int32) = jn 0 from rfl, a1, bs, (fA.1 6 rfl).1, h6, (fA.1 803 rfl).1, h803, b1, bs, show (2 : Int32) = jn (0 + 2) from rfl, k, bs, (W.1 4 rfl).1, (W.1 6 rfl).1, h4, h6, jn_mul]
