/-! The greatest number that divides two, on the reference's side. -/
theorem odd_co {W : Nat} (h : W % 2 = 1) : Nat.Coprime 2 W := by
  unfold Nat.Coprime
  rw [Nat.gcd_rec, h, Nat.gcd_one_left]
theorem gcd_h1 {V W : Nat} (hV : V % 2 = 0) (hW : W % 2 = 1) : Nat.gcd (V / 2) W = Nat.gcd V W := by
  obtain ⟨k, rfl⟩ : ∃ k, V = 2 * k := ⟨V / 2, by omega⟩
  rw [Nat.mul_div_cancel_left k (by omega), Nat.Coprime.gcd_mul_left_cancel k (odd_co hW)]
theorem gcd_h2 {V W : Nat} (hV : V % 2 = 1) (hW : W % 2 = 0) : Nat.gcd V (W / 2) = Nat.gcd V W := by
  rw [Nat.gcd_comm, gcd_h1 hW hV, Nat.gcd_comm]
theorem gcd_hh {V W : Nat} (hV : V % 2 = 0) (hW : W % 2 = 0) : Nat.gcd V W = Nat.gcd (V / 2) (W / 2) * 2 := by
  obtain ⟨k, rfl⟩ : ∃ k, V = 2 * k := ⟨V / 2, by omega⟩
  obtain ⟨l, rfl⟩ : ∃ k, W = 2 * k := ⟨W / 2, by omega⟩
  rw [Nat.mul_div_cancel_left k (by omega), Nat.mul_div_cancel_left l (by omega), Nat.gcd_mul_left, Nat.mul_comm]
theorem gcd_s1 {V W : Nat} (h : V ≤ W) : Nat.gcd V (W - V) = Nat.gcd V W := Nat.gcd_sub_self_right h
theorem gcd_s2 {V W : Nat} (h : W ≤ V) : Nat.gcd W (V - W) = Nat.gcd V W := by
  rw [gcd_s1 h, Nat.gcd_comm]
theorem red_same {a b c d : Nat} (h : a * d = c * b) (hb : 0 < b) (hd : 0 < d) (h1 : Nat.Coprime a b) (h2 : Nat.Coprime c d) : a = c ∧ b = d := by
  have d1 : b ∣ d := Nat.Coprime.dvd_of_dvd_mul_left (m := a) h1.symm ⟨c, by rw [h, Nat.mul_comm]⟩
  have d2 : d ∣ b := Nat.Coprime.dvd_of_dvd_mul_left (m := c) h2.symm ⟨a, by rw [← h, Nat.mul_comm]⟩
  have e : b = d := Nat.dvd_antisymm d1 d2
  subst e
  exact ⟨Nat.eq_of_mul_eq_mul_right hb h, rfl⟩
theorem gcd_red {A B : Nat} (hB : 0 < B) : Nat.Coprime (A / Nat.gcd A B) (B / Nat.gcd A B) := Nat.coprime_div_gcd_div_gcd (Nat.gcd_pos_of_pos_right A hB)
theorem hal1 (b c : Int32) {x : Nat} (hx : x ≤ 4507) : ∀ n V s, V ≤ n → 1 ≤ V → BM s x V → ∃ s' V', lp (fun z => m_divisor_B42 (jn x) b c z) s = some s' ∧ Sl [x] s s' ∧ BM s' x V' ∧ V' % 2 = 1 ∧ V' ≤ V ∧ (∀ W, W % 2 = 1 → Nat.gcd V' W = Nat.gcd V W) ∧ (V % 2 = 1 → V' = V) := by
  intro n
  induction n with
  | zero => intro V s h1 h2; omega
  | succ n ih =>
    intro V s h1 h2 hB
    have ev := isEven_eq hx hB
    by_cases e : V % 2 = 0
    · rw [if_pos e] at ev
      obtain ⟨s1, k1, k2, k3⟩ := halves_eq hx hB
      obtain ⟨s', V', l1, l2, l3, l4, l5, l6, -⟩ := ih (V / 2) s1 (by omega) (by omega) k3
      refine ⟨s', V', ?_, k2.trans l2, l3, l4, by omega, fun W hW => by rw [l6 W hW, gcd_h1 e hW], fun z => by omega⟩
      rw [lp_l (x' := s1) (by show m_divisor_B42 _ _ _ _ = _; unfold m_divisor_B42; rw [ev, bs, if_neg (by decide), k1, bs])]
      exact l1
    · rw [if_neg e] at ev
      exact ⟨s, V, lp_r (by show m_divisor_B42 _ _ _ _ = _; unfold m_divisor_B42; rw [ev, bs, if_pos rfl]), Sl.rfl, hB, by omega, Nat.le_refl _, fun _ _ => rfl, fun _ => rfl⟩
theorem hal2 (a c : Int32) {x : Nat} (hx : x ≤ 4507) : ∀ n V s, V ≤ n → 1 ≤ V → BM s x V → ∃ s' V', lp (fun z => m_divisor_B58 a (jn x) c z) s = some s' ∧ Sl [x] s s' ∧ BM s' x V' ∧ V' % 2 = 1 ∧ V' ≤ V ∧ (∀ W, W % 2 = 1 → Nat.gcd V' W = Nat.gcd V W) ∧ (V % 2 = 1 → V' = V) := by
  intro n
  induction n with
  | zero => intro V s h1 h2; omega
  | succ n ih =>
    intro V s h1 h2 hB
    have ev := isEven_eq hx hB
    by_cases e : V % 2 = 0
    · rw [if_pos e] at ev
      obtain ⟨s1, k1, k2, k3⟩ := halves_eq hx hB
      obtain ⟨s', V', l1, l2, l3, l4, l5, l6, -⟩ := ih (V / 2) s1 (by omega) (by omega) k3
      refine ⟨s', V', ?_, k2.trans l2, l3, l4, by omega, fun W hW => by rw [l6 W hW, gcd_h1 e hW], fun z => by omega⟩
      rw [lp_l (x' := s1) (by show m_divisor_B58 _ _ _ _ = _; unfold m_divisor_B58; rw [ev, bs, if_neg (by decide), k1, bs])]
      exact l1
    · rw [if_neg e] at ev
      exact ⟨s, V, lp_r (by show m_divisor_B58 _ _ _ _ = _; unfold m_divisor_B58; rw [ev, bs, if_pos rfl]), Sl.rfl, hB, by omega, Nat.le_refl _, fun _ _ => rfl, fun _ => rfl⟩
theorem twos_eq {x y : Nat} (hx : x ≤ 4507) (hy : y ≤ 4507) (hn : y ≠ x) : ∀ n V W k s, V ≤ n → 1 ≤ V → 1 ≤ W → BM s x V → BM s y W → ∃ s' V' W' j, lp (fun z => m_divisor_B2 (jn x) (jn y) z.1 z.2) (jn k, s) = some (jn (k + j), s') ∧ Sl [x, y] s s' ∧ BM s' x V' ∧ BM s' y W' ∧ Nat.gcd V W = Nat.gcd V' W' * 2 ^ j ∧ (V' % 2 = 1 ∨ W' % 2 = 1) ∧ 1 ≤ V' ∧ 1 ≤ W' ∧ j ≤ V := by
  intro n
  induction n with
  | zero => intro V W k s h1 h2; omega
  | succ n ih =>
    intro V W k s h1 h2 h3 hB hC
    have ev := isEven_eq hx hB
    have ew := isEven_eq hy hC
    by_cases e : V % 2 = 0
    · rw [if_pos e] at ev
      by_cases f : W % 2 = 0
      · rw [if_pos f] at ew
        obtain ⟨s1, k1, k2, k3⟩ := halves_eq hx hB
        obtain ⟨s2, m1, m2, m3⟩ := halves_eq hy (hC.sl1 k2 hn)
        obtain ⟨s', V', W', j, l1, l2, l3, l4, l5, l6, l7, l8, l9⟩ := ih (V / 2) (W / 2) (k + 1) s2 (by omega) (by omega) (by omega) (k3.sl1 m2 (by omega)) m3
        refine ⟨s', V', W', j + 1, ?_, ((k2.wk (by simp)).trans (m2.wk (by simp))).trans l2, l3, l4, ?_, l6, l7, l8, by omega⟩
        · rw [lp_l (x' := (jn (k + 1), s2)) (by dsimp only; unfold m_divisor_B2; rw [ev, bs, if_neg (by decide), ew, bs, if_neg (by decide), k1, bs, m1, bs]; simp only [nm, jn_s]), l1, show k + 1 + j = k + (j + 1) by omega]
        · rw [gcd_hh e f, l5, Nat.pow_succ, Nat.mul_assoc]
      · rw [if_neg f] at ew
        exact ⟨s, V, W, 0, lp_r (by dsimp only; unfold m_divisor_B2; rw [ev, bs, if_neg (by decide), ew, bs, if_pos rfl, Nat.add_zero]), Sl.rfl, hB, hC, by rw [Nat.pow_zero, Nat.mul_one], Or.inr (by omega), h2, h3, Nat.zero_le _⟩
    · rw [if_neg e] at ev
      exact ⟨s, V, W, 0, lp_r (by dsimp only; unfold m_divisor_B2; rw [ev, bs, if_pos rfl, Nat.add_zero]), Sl.rfl, hB, hC, by rw [Nat.pow_zero, Nat.mul_one], Or.inl (by omega), h2, h3, Nat.zero_le _⟩
theorem euc_eq (c : Int32) {x y : Nat} (hx : x ≤ 4505) (hy : y ≤ 4505) (hn : y ≠ x) : ∀ n V W s, V + W ≤ n → 1 ≤ V → (V % 2 = 1 ∨ W % 2 = 1) → BM s x V → BM s y W → ∃ s', lp (fun z => m_divisor_B34 (jn x) (jn y) c z) s = some s' ∧ Sl [x, y, 4506] s s' ∧ BM s' x (Nat.gcd V W) := by
  intro n
  induction n with
  | zero => intro V W s h1 h2; omega
  | succ n ih =>
    intro V W s h1 h2 h3 hB hC
    have iz := isNothing_eq (show y ≤ 4507 by omega) hC
    by_cases z : W = 0
    · subst z
      rw [if_pos rfl] at iz
      exact ⟨s, lp_r (by show m_divisor_B34 _ _ _ _ = _; unfold m_divisor_B34; rw [iz, bs, if_neg (by decide)]), Sl.rfl, by rw [Nat.gcd_zero_right]; exact hB⟩
    · rw [if_neg z] at iz
      obtain ⟨s1, V1, a1, a2, a3, a4, a5, a6, a7⟩ := hal1 (jn y) c (show x ≤ 4507 by omega) V V s (Nat.le_refl _) h2 hB
      have hC1 := hC.sl1 a2 hn
      obtain ⟨s2, W1, b1, b2, b3, b4, b5, b6, b7⟩ := hal2 (jn x) c (show y ≤ 4507 by omega) W W s1 (Nat.le_refl _) (by omega) hC1
      have hB2 := a3.sl1 b2 (show x ≠ y by omega)
      have eg : Nat.gcd V1 W1 = Nat.gcd V W := by
        rcases h3 with o | o
        · have := a7 o
          subst this
          rw [Nat.gcd_comm, b6 V1 o, Nat.gcd_comm]
        · have := b7 o
          subst this
          exact a6 W1 o
      have ag := against_eq (show x ≤ 4507 by omega) (show y ≤ 4507 by omega) hB2 b3
      have s02 : Sl [x, y, 4506] s s2 := (a2.wk (by simp)).trans (b2.wk (by simp))
      by_cases q : V1 ≤ W1
      · have cq : cmpV V1 W1 ≤ 0 := by
          unfold cmpV
          by_cases e : V1 = W1
          · rw [if_pos e]; decide
          · rw [if_neg e, if_pos (by omega)]; decide
        obtain ⟨s3, c1, c2, c3⟩ := lessens_eq (show y ≤ 4507 by omega) (show x ≤ 4507 by omega) (by omega) b3 hB2 q
        obtain ⟨s', l1, l2, l3⟩ := ih V1 (W1 - V1) s3 (by omega) (by omega) (Or.inl a4) (hB2.sl1 c2 (by omega)) c3
        refine ⟨s', ?_, s02.trans ((c2.wk (by simp)).trans l2), by rw [gcd_s1 q, eg] at l3; exact l3⟩
        rw [lp_l (x' := s3) (by show m_divisor_B34 _ _ _ _ = _; unfold m_divisor_B34; rw [iz, bs, if_pos rfl, a1, bs, b1, bs, ag, bs, if_pos cq, c1, bs])]
        exact l1
      · have cq : ¬ cmpV V1 W1 ≤ 0 := by
          unfold cmpV
          rw [if_neg (by omega), if_neg (by omega)]; decide
        obtain ⟨s3, c1, c2, c3⟩ := lessens_eq (show x ≤ 4507 by omega) (show y ≤ 4507 by omega) (by omega) hB2 b3 (by omega)
        have d3 := b3.sl1 c2 hn
        obtain ⟨s4, e1, e2, e3⟩ := takes_eq (x := 4506) (by omega) (show x ≤ 4507 by omega) (by omega) c3
        have d4 := d3.sl1 e2 (by omega)
        obtain ⟨s5, f1, f2, f3⟩ := takes_eq (x := x) (y := y) (by omega) (by omega) hn d4
        have e5 := e3.sl1 f2 (by omega)
        obtain ⟨s6, g1, g2, g3⟩ := takes_eq (x := y) (y := 4506) (by omega) (by omega) (by omega) e5
        have f6 := f3.sl1 g2 (by omega)
        obtain ⟨s', l1, l2, l3⟩ := ih W1 (V1 - W1) s6 (by omega) (by omega) (Or.inl b4) f6 g3
        refine ⟨s', ?_, s02.trans ((c2.wk (by simp)).trans ((e2.wk (by simp)).trans ((f2.wk (by simp)).trans ((g2.wk (by simp)).trans l2)))), by rw [gcd_s2 (by omega), eg] at l3; exact l3⟩
        rw [lp_l (x' := s6) (by show m_divisor_B34 _ _ _ _ = _; unfold m_divisor_B34; rw [iz, bs, if_pos rfl, a1, bs, b1, bs, ag, bs, if_neg cq, c1, bs, show (4506 : Int32) = jn 4506 from rfl, e1, bs, f1, bs, g1, bs])]
        exact l1
theorem divisor_eq {t : St} {x y V W : Nat} (hx : x ≤ 4505) (hy : y ≤ 4505) (hn : y ≠ x) (hV : BM t x V) (hW : BM t y W) (h1 : 1 ≤ V) (h2 : 1 ≤ W) : ∃ t', m_divisor t (jn x) (jn y) = some t' ∧ Sl [x, y, 4506] t t' ∧ BM t' x (Nat.gcd V W) := by
  obtain ⟨s1, V1, W1, j, a1, a2, a3, a4, a5, a6, a7, a8, a9⟩ := twos_eq (show x ≤ 4507 by omega) (show y ≤ 4507 by omega) hn V V W 0 t (Nat.le_refl _) h1 h2 hV hW
  rw [Nat.zero_add] at a1
  obtain ⟨s2, b1, b2, b3⟩ := euc_eq (jn j) hx hy hn (V1 + W1) V1 W1 s1 (Nat.le_refl _) a7 a6 a3 a4
  have gpos : 0 < Nat.gcd V W := Nat.gcd_pos_of_pos_left _ h1
  have gle : Nat.gcd V W < Bp 7 := Nat.lt_of_le_of_lt (Nat.gcd_le_left _ h1) hV.1
  have j2 : 2 ^ j ≤ Nat.gcd V W := by
    rw [a5]
    exact Nat.le_mul_of_pos_left _ (Nat.gcd_pos_of_pos_left _ a7)
  have jl : j < 210 := by
    have : 2 ^ j < 2 ^ 210 := Nat.lt_of_le_of_lt j2 (by rw [Bp_pow] at gle; exact gle)
    exact (Nat.pow_lt_pow_iff_right (a := 2) (by omega)).mp this
  have L := lp_cnt (b := fun z : Int32 × St => m_divisor_B126 (jn x) (jn j) z.1 z.2) (fun i s => (jn i, s)) j
    (fun i s => Sl [x, y, 4506] s2 s ∧ BM s x (Nat.gcd V1 W1 * 2 ^ i)) (fun s => Sl [x, y, 4506] s2 s ∧ BM s x (Nat.gcd V1 W1 * 2 ^ j)) (by
      rintro i s hi ⟨q1, q2⟩
      have up : Nat.gcd V1 W1 * 2 ^ i * 2 ≤ Nat.gcd V1 W1 * 2 ^ j := by
        rw [Nat.mul_assoc, ← Nat.pow_succ]
        exact Nat.mul_le_mul_left _ (Nat.pow_le_pow_right (by omega) hi)
      obtain ⟨s', c1, c2, c3⟩ := times_eq (v := 2) (show x ≤ 4507 by omega) (by omega) q2 (by rw [← a5] at up; omega)
      refine ⟨s', ?_, q1.trans (c2.wk (by simp)), by rw [Nat.pow_succ, ← Nat.mul_assoc]; exact c3⟩
      dsimp only
      unfold m_divisor_B126
      rw [if_neg (nle hi (by omega)), show (2 : Int32) = jn 2 from rfl, c1, bs]
      simp only [nm, jn_s]) (by
      rintro s hs
      exact ⟨s, by dsimp only; unfold m_divisor_B126; rw [if_pos (lee (by omega))], hs⟩) 0 s2 (Nat.zero_le _) ⟨Sl.rfl, by rw [Nat.pow_zero, Nat.mul_one]; exact b3⟩
  obtain ⟨s3, d1, d2, d3⟩ := L
  refine ⟨s3, ?_, (a2.wk (by simp)).trans (b2.trans d2), by rw [a5]; exact d3⟩
  unfold m_divisor
  rw [show (0 : Int32) = jn 0 from rfl, a1, bs, b1, bs, d1, bs]
