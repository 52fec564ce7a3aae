/-! The digest. -/
theorem two_for {b b' : Int64 × Int32 → Option ((Int64 × Int32) ⊕ Int64)} (n : Nat) (step : ∀ i, i < n → ∀ v, ∃ v', b (v, jn i) = some (.inl (v', jn (i + 1))) ∧ b' (v, jn i) = some (.inl (v', jn (i + 1)))) (fin : ∀ v, b (v, jn n) = some (.inr v) ∧ b' (v, jn n) = some (.inr v)) : ∀ k a, a + k = n → ∀ v, ∃ r, lp b (v, jn a) = some r ∧ lp b' (v, jn a) = some r := by
  intro k
  induction k with
  | zero =>
    intro a ha v
    have : a = n := by omega
    subst this
    exact ⟨v, lp_r (fin v).1, lp_r (fin v).2⟩
  | succ k ih =>
    intro a ha v
    obtain ⟨v', e1, e2⟩ := step a (by omega) v
    obtain ⟨r, h1, h2⟩ := ih (a + 1) (by omega) v'
    exact ⟨r, by rw [lp_l e1]; exact h1, by rw [lp_l e2]; exact h2⟩
theorem nle {a b : Nat} (h : a < b) (hb : b < 2147483648) : ¬ jn b ≤ jn a := fun e => by have := (jn_le hb (by omega)).mp e; omega
theorem lee {a : Nat} (h : a < 2147483648) : jn a ≤ jn a := (jn_le h h).mpr (Nat.le_refl a)
theorem jn_s (i : Nat) : jn i + 1 = jn (i + 1) := jn_add i 1
theorem dg_count {tx tm : St} (hT : RT tx tm) (hK : RK tx tm) (hN : RN tx tm) (hG : RG0 tx tm) (hP : RP tx tm) (hI : RI tx tm) (hE : RE tx tm) (v : Int64) : ∃ r, lp (fun x : Int64 × Int32 => x11_digest_B6 tx x.1 x.2) (v, jn 0) = some r ∧ lp (fun x : Int64 × Int32 => m_digest_B6 tm x.1 x.2) (v, jn 0) = some r := by
  refine two_for 7 ?_ ?_ 7 0 (by omega) v
  · intro i hi v
    obtain ⟨r, c1, c2⟩ := op_count hT hK hN hG hP hI hE (jn i)
    dsimp only
    unfold x11_digest_B6 m_digest_B6
    rw [if_neg (fun e => by have := (jn_lt (a := 6) (by omega) (by omega)).mp e; omega), if_neg (fun e => by have := (jn_le (a := 7) (by omega) (by omega)).mp e; omega), c1, c2]
    simp only [bs, nm, jn_s]
    exact ⟨_, rfl, rfl⟩
  · intro v
    dsimp only
    unfold x11_digest_B6 m_digest_B6
    rw [if_pos (by decide), if_pos (by decide)]
    exact ⟨rfl, rfl⟩
theorem dg_house {tx tm : St} (hH : RH tx tm) : ∀ n s v, n + s = 16 → ∃ r, lp (fun x : Int64 × Int32 => x5_mixInto_B2 tx x.1 x.2) (v, jn (5 * s)) = some r ∧ lp (fun x : Int64 × Int32 => m_digest_B33 tm x.1 x.2) (v, jn s) = some r := by
  intro n
  induction n with
  | zero =>
    intro s v e
    have : s = 16 := by omega
    subst this
    refine ⟨v, lp_r ?_, lp_r ?_⟩
    · dsimp only
      unfold x5_mixInto_B2
      rw [hH.1, if_pos (by decide)]
    · dsimp only
      unfold m_digest_B33
      rw [if_pos (by decide)]
  | succ n ih =>
    intro s v e
    have hs : s < 16 := by omega
    have ex : ∀ (w : Nat) (_ : w < 5) (c : Int64), lp (fun x : Int64 × Int32 => x5_mixInto_B2 tx x.1 x.2) (c, jn (5 * s + w)) = lp (fun x : Int64 × Int32 => x5_mixInto_B2 tx x.1 x.2) (31 * c + (gA tm w s).toInt64, jn (5 * s + (w + 1))) := fun w hw c => lp_l (b := fun x : Int64 × Int32 => x5_mixInto_B2 tx x.1 x.2) (by
      dsimp only
      unfold x5_mixInto_B2
      rw [hH.1, show Int32.ofNat 80 = jn 80 from rfl, if_neg (nle (by omega) (by omega)), gd_jn (by omega) (by omega), jn_cl (by omega), (hH.2 s w hs hw).1]
      simp only [nm]
      rw [show jn (5 * s + w) + 1 = jn (5 * s + (w + 1)) from jn_add (5 * s + w) 1])
    have em : ∀ (w : Nat) (_ : w < 5) (c : Int64), lp (fun x : Int64 × Int32 => m_digest_B42 tm (jn s) x.1 x.2) (c, jn w) = lp (fun x : Int64 × Int32 => m_digest_B42 tm (jn s) x.1 x.2) (31 * c + (gA tm w s).toInt64, jn (w + 1)) := fun w hw c => lp_l (b := fun x : Int64 × Int32 => m_digest_B42 tm (jn s) x.1 x.2) (by
      dsimp only
      unfold m_digest_B42
      rw [if_neg (fun e => by have := (jn_le (a := 5) (by omega) (by omega)).mp e; omega), m_stepOf_eq hs hw, bs]
      simp only [nm, jn_s])
    obtain ⟨r, j1, j2⟩ := ih (s + 1) (31 * (31 * (31 * (31 * (31 * v + (gA tm 0 s).toInt64) + (gA tm 1 s).toInt64) + (gA tm 2 s).toInt64) + (gA tm 3 s).toInt64) + (gA tm 4 s).toInt64) (by omega)
    refine ⟨r, ?_, ?_⟩
    · refine ((ex 0 (by omega) v).trans ((ex 1 (by omega) _).trans ((ex 2 (by omega) _).trans ((ex 3 (by omega) _).trans (ex 4 (by omega) _))))).trans ?_
      rw [show 5 * s + (4 + 1) = 5 * (s + 1) by omega]
      exact j1
    · have b : (fun x : Int64 × Int32 => m_digest_B33 tm x.1 x.2) (v, jn s) = some (.inl (31 * (31 * (31 * (31 * (31 * v + (gA tm 0 s).toInt64) + (gA tm 1 s).toInt64) + (gA tm 2 s).toInt64) + (gA tm 3 s).toInt64) + (gA tm 4 s).toInt64, jn (s + 1))) := by
        dsimp only
        unfold m_digest_B33
        rw [if_neg (fun e => by have := (jn_le (a := 16) (by omega) (by omega)).mp e; omega), show (v, (0 : Int32)) = (v, jn 0) from rfl, em 0 (by omega) v, em 1 (by omega) _, em 2 (by omega) _, em 3 (by omega) _, em 4 (by omega) _, show lp (fun x : Int64 × Int32 => m_digest_B42 tm (jn s) x.1 x.2) (31 * (31 * (31 * (31 * (31 * v + (gA tm 0 s).toInt64) + (gA tm 1 s).toInt64) + (gA tm 2 s).toInt64) + (gA tm 3 s).toInt64) + (gA tm 4 s).toInt64, jn (4 + 1)) = some _ from lp_r (by dsimp only; unfold m_digest_B42; rw [if_pos (by decide)]), bs]
        simp only [nm, jn_s]
      rw [lp_l b]
      exact j2
theorem dg_text {tx tm : St} (h : RT tx tm) (v : Int64) : ∃ r, lp (fun x : Int64 × Int32 => x6_mixInto_B2 tx x.1 x.2) (v, jn 0) = some r ∧ lp (fun x : Int64 × Int32 => m_digest_B77 tm x.1 x.2) (v, jn 0) = some r := by
  obtain ⟨z, n, hn, e5, e6, hc⟩ := h
  refine two_for n ?_ ?_ n 0 (by omega) v
  · intro i hi v
    dsimp only
    unfold x6_mixInto_B2 m_digest_B77
    rw [e5, e6, if_neg (nle hi (by omega)), if_neg (nle hi (by omega)), z, gd_jn (by omega) (by omega), gd_jn (by omega) (by omega), jn_cl (by omega), (hc i hi).1]
    simp only [nm, jn_s]
    exact ⟨_, rfl, rfl⟩
  · intro v
    dsimp only
    unfold x6_mixInto_B2 m_digest_B77
    rw [e5, e6, if_pos (lee (by omega)), if_pos (lee (by omega))]
    exact ⟨rfl, rfl⟩
theorem nK_lt {tx tm : St} (h : RK tx tm) : nK tm ≤ 250 := h.2.1.2.1
theorem dg_nets {tx tm : St} (hK : RK tx tm) (h : RN tx tm) (v : Int64) : ∃ r, lp (fun x : Int64 × Int32 => x6_mixInto_B32 tx x.1 x.2) (v, jn 0) = some r ∧ lp (fun x : Int64 × Int32 => m_digest_B107 tm x.1 x.2) (v, jn 0) = some r := by
  refine two_for 10 ?_ ?_ 10 0 (by omega) v
  · intro i hi v
    have h250 := nK_lt hK
    dsimp only
    unfold x6_mixInto_B32 m_digest_B107
    obtain ⟨i1, i2⟩ := h.2 i hi
    have x1 : ¬ (9 : Int32) < jn i := fun e => by have := (jn_lt (a := 9) (by omega) (by omega)).mp e; omega
    have x2 : ¬ (10 : Int32) ≤ jn i := fun e => by have := (jn_le (a := 10) (by omega) (by omega)).mp e; omega
    rw [if_neg x1, if_neg x2, h.1, gd_jn hi (by omega), gd_jn hi (by omega), gd_jn hi (by omega), gd_jn hi (by omega), jn_cl (by omega), i1]
    rcases i2 with i2 | ⟨k, hk, i2⟩
    · rw [i2, if_pos (show (-1 : Int32) < 0 by decide), if_pos rfl]
      simp only [nm, jn_s]
      exact ⟨_, rfl, rfl⟩
    · rw [i2, if_neg (jn_neg (show k < 2147483648 by omega)), if_neg (jn_ne1 (show k < 2147483648 by omega))]
      simp only [nm, jn_s]
      exact ⟨_, rfl, rfl⟩
  · intro v
    dsimp only
    unfold x6_mixInto_B32 m_digest_B107
    rw [if_pos (by decide), if_pos (by decide)]
    exact ⟨rfl, rfl⟩
theorem dg_parts {tx tm : St} (hK : RK tx tm) {k : Nat} (hk : k < nK tm) (v : Int64) : ∃ r, lp (fun x : Int64 × Int32 => x6_mixInto_B146 tx (jn k) (jn (kN tm k)) x.1 x.2) (v, jn 0) = some r ∧ lp (fun x : Int64 × Int32 => m_digest_B203 tm (jn k) x.1 x.2) (v, jn 0) = some r := by
  have h250 := nK_lt hK
  obtain ⟨⟨z3, z4, z5, z6, z7⟩, -, ⟨p1, p2, p3, p4, p5, p6⟩, hall⟩ := hK
  obtain ⟨s1, s2, s3, d1, d2, d3, h1, h2, h3, m1, m2, q1, q2⟩ := hall k hk
  have ck : (jn k).toNatClampNeg = k := jn_cl (by omega)
  have g4 : ∀ {α : Type} (x : Option α), gd (jn k) 400 x = x := fun x => gd_jn (by omega) (by omega)
  refine two_for (kN tm k) ?_ ?_ (kN tm k) 0 (by omega) v
  · intro i hi v
    have hne : kS tm k ≠ 0 := fun e => by
      have := (q1 e).2.2.2.1
      omega
    obtain ⟨e1, e2, e3, e4, e5, -, -, e6, -⟩ := q2 hne
    dsimp only
    unfold x6_mixInto_B146 m_digest_B203 x6_partOf
    simp only [g4, ck, m1, z6, e4, e3, jn_add]
    rw [if_neg (nle hi (by omega)), if_neg (nle hi (by omega)), gd_jn (show k < 330 by omega) (by omega), gd_jn (show kF tm k + i < gN tx 608 by omega) (by omega), gd_jn (show kF tm k + i < 20000 by omega) (by omega), jn_cl (by omega), (e6 i hi).1]
    simp only [bs, nm, jn_s]
    exact ⟨_, rfl, rfl⟩
  · intro v
    dsimp only
    unfold x6_mixInto_B146 m_digest_B203
    rw [g4, ck, m1, if_pos (lee (by omega)), if_pos (lee (by omega))]
    exact ⟨rfl, rfl⟩
theorem dg_knots {tx tm : St} (hK : RK tx tm) (v : Int64) : ∃ r, lp (fun x : Int64 × Int32 => x6_mixInto_B76 tx x.1 x.2) (v, jn 0) = some r ∧ lp (fun x : Int64 × Int32 => m_digest_B152 tm x.1 x.2) (v, jn 0) = some r := by
  have hK0 := hK
  have h250 := nK_lt hK
  obtain ⟨⟨z3, z4, z5, z6, z7⟩, ⟨n1, n2, n3⟩, -, hall⟩ := hK
  refine two_for (nK tm) ?_ ?_ (nK tm) 0 (by omega) v
  · intro k hk v
    obtain ⟨s1, s2, s3, d1, d2, d3, h1, h2, h3, m1, m2, q1, q2⟩ := hall k hk
    have ck : (jn k).toNatClampNeg = k := jn_cl (by omega)
    have g4 : ∀ {α : Type} (x : Option α), gd (jn k) 400 x = x := fun x => gd_jn (by omega) (by omega)
    have g3 : ∀ {α : Type} (x : Option α), gd (jn k) 330 x = x := fun x => gd_jn (by omega) (by omega)
    dsimp only
    unfold x6_mixInto_B76 m_digest_B152 m_knotOf
    rw [n3, n1, if_neg (nle hk (by omega)), if_neg (nle hk (by omega))]
    simp only [z3, z4, z5, g3, g4, ck, nm, s3, d3]
    rw [if_neg (show ¬ (2 : Int32) = 0 by decide), if_neg (show ¬ (2 : Int32) = 1 by decide)]
    simp only [if_true]
    rw [s1]
    unfold x6_mixInto_J141
    by_cases q : kS tm k = 0
    · obtain ⟨t1, t2, t3, t4, t5, t6⟩ := q1 q
      rw [q, if_pos (show jn 0 = 0 from rfl), if_pos (show jn 0 = 0 from rfl), bs, t3]
      obtain ⟨r, j1, j2⟩ := dg_parts hK0 hk (31 * (31 * (31 * v + (jn 0).toInt64) + (gA tm 10 k).toInt64) + (gA tm 9 k).toInt64)
      rw [t4] at j1
      rw [show (0 : Int32) = jn 0 from rfl, j1, j2, bs, bs]
      simp only [nm, jn_s]
      exact ⟨_, rfl, rfl⟩
    · obtain ⟨t1, -⟩ := q2 q
      rw [if_neg (jn_nz q (by omega)), if_neg (jn_nz q (by omega)), bs, t1]
      obtain ⟨r, j1, j2⟩ := dg_parts hK0 hk (31 * (31 * (31 * v + (jn (kS tm k)).toInt64) + (gA tm 12 k).toInt64) + (gA tm 9 k).toInt64)
      rw [← m1] at j1
      rw [show (0 : Int32) = jn 0 from rfl, j1, j2, bs, bs]
      simp only [nm, jn_s]
      exact ⟨_, rfl, rfl⟩
  · intro v
    dsimp only
    unfold x6_mixInto_B76 m_digest_B152
    rw [n3, n1, if_pos (lee (by omega)), if_pos (lee (by omega))]
    exact ⟨rfl, rfl⟩
theorem orr_one {a g : Nat} : ∀ n, orr (fun i => if i = g then a else 0) n = if g < n then a else 0
  | 0 => by rw [if_neg (by omega)]; rfl
  | n + 1 => by
    unfold orr
    rw [orr_one n]
    by_cases e : n = g
    · subst e
      rw [if_neg (by omega), if_pos rfl, if_pos (by omega), Nat.zero_or]
    · rw [if_neg e, Nat.or_zero]
      by_cases f : g < n
      · rw [if_pos f, if_pos (by omega)]
      · rw [if_neg f, if_neg (by omega)]
theorem smm_one {a g : Nat} : ∀ n, smm (fun i => if i = g then a else 0) n = if g < n then a else 0
  | 0 => by rw [if_neg (by omega)]; rfl
  | n + 1 => by
    unfold smm
    rw [smm_one n]
    by_cases e : n = g
    · subst e
      rw [if_neg (by omega), if_pos rfl, if_pos (by omega), Nat.zero_add]
    · rw [if_neg e, Nat.add_zero]
      by_cases f : g < n
      · rw [if_pos f, if_pos (by omega)]
      · rw [if_neg f, if_neg (by omega)]
theorem stops_one {tm : St} {g n : Nat} (h : g < n) : stopsOf tm (2 ^ g) n = gSt tm g := by
  unfold stopsOf
  rw [orr_cong (g := fun i => if i = g then gSt tm g else 0) (fun i hi => by
    rw [Nat.testBit_two_pow]
    by_cases e : i = g
    · subst e; simp
    · rw [if_neg (by simpa using fun e2 => e e2.symm), if_neg e]), orr_one, if_pos h]
theorem wages_one {tm : St} {g n : Nat} (h : g < n) : wagesOf tm (2 ^ g) n = gWa tm g := by
  unfold wagesOf
  rw [smm_cong (g := fun i => if i = g then gWa tm g else 0) (fun i hi => by
    rw [Nat.testBit_two_pow]
    by_cases e : i = g
    · subst e; simp
    · rw [if_neg (by simpa using fun e2 => e e2.symm), if_neg e]), smm_one, if_pos h]
theorem dg_guards {tx tm : St} (h : RG tx tm) (v : Int64) : ∃ r, lp (fun x : Int64 × Int32 => x4_mixInto_B2 tx x.1 x.2) (v, jn 0) = some r ∧ lp (fun x : Int64 × Int32 => m_digest_B250 tm x.1 x.2) (v, jn 0) = some r := by
  obtain ⟨⟨g1, g2, g3⟩, hg, l3, l4, hs⟩ := h
  refine two_for (nG tm) ?_ ?_ (nG tm) 0 (by omega) v
  · intro i hi v
    dsimp only
    unfold x4_mixInto_B2 m_digest_B250
    have hp : 2 ^ i < 2 ^ nG tm := Nat.pow_lt_pow_right (by omega) hi
    have hp2 := pow_le10 g2
    obtain ⟨y1, y2⟩ := hs (2 ^ i) hp
    obtain ⟨w1, -, w3, -⟩ := hg i hi
    rw [g3, g1, if_neg (nle hi (by omega)), if_neg (nle hi (by omega)), jn_shl1 i (by omega), l3, l4, gd_jn hp (by omega), gd_jn hp (by omega), gd_jn (by omega) (by omega), gd_jn (by omega) (by omega), jn_cl (by omega), jn_cl (by omega), y1, y2, w1, w3, stops_one hi, wages_one hi]
    simp only [nm, jn_s]
    exact ⟨_, rfl, rfl⟩
  · intro v
    dsimp only
    unfold x4_mixInto_B2 m_digest_B250
    rw [g3, g1, if_pos (lee (by omega)), if_pos (lee (by omega))]
    exact ⟨rfl, rfl⟩
theorem dg_patrols {tx tm : St} (h : RP tx tm) (v : Int64) : ∃ r, lp (fun x : Int64 × Int32 => x3_mixInto_B2 tx x.1 x.2) (v, jn 0) = some r ∧ lp (fun x : Int64 × Int32 => m_digest_B292 tm x.1 x.2) (v, jn 0) = some r := by
  obtain ⟨z, n, hn, e5, e6, hc⟩ := h
  refine two_for (16 * n) ?_ ?_ (16 * n) 0 (by omega) v
  · intro i hi v
    dsimp only
    unfold x3_mixInto_B2 m_digest_B292
    rw [e5, e6, show (16 : Int32) = jn 16 from rfl, jn_mul, jn_mul, show n * 16 = 16 * n by omega, if_neg (nle hi (by omega)), if_neg (nle hi (by omega)), z, gd_jn (by omega) (by omega), gd_jn (by omega) (by omega), jn_cl (by omega), (hc i hi).1]
    simp only [nm, jn_s]
    exact ⟨_, rfl, rfl⟩
  · intro v
    dsimp only
    unfold x3_mixInto_B2 m_digest_B292
    rw [e5, e6, show (16 : Int32) = jn 16 from rfl, jn_mul, jn_mul, show n * 16 = 16 * n by omega, if_pos (lee (by omega)), if_pos (lee (by omega))]
    exact ⟨rfl, rfl⟩
theorem dg_insiders {tx tm : St} (h : RI tx tm) (v : Int64) : ∃ r, lp (fun x : Int64 × Int32 => x10_mixInto_B2 tx x.1 x.2) (v, jn 0) = some r ∧ lp (fun x : Int64 × Int32 => m_digest_B325 tm x.1 x.2) (v, jn 0) = some r := by
  obtain ⟨z, n, hn, e5, e6, hc⟩ := h
  refine two_for n ?_ ?_ n 0 (by omega) v
  · intro i hi v
    dsimp only
    unfold x10_mixInto_B2 m_digest_B325
    rw [e5, e6, if_neg (nle hi (by omega)), if_neg (nle hi (by omega)), z, gd_jn (by omega) (by omega), gd_jn (by omega) (by omega), jn_cl (by omega), (hc i hi).1]
    simp only [nm, jn_s]
    exact ⟨_, rfl, rfl⟩
  · intro v
    dsimp only
    unfold x10_mixInto_B2 m_digest_B325
    rw [e5, e6, if_pos (lee (by omega)), if_pos (lee (by omega))]
    exact ⟨rfl, rfl⟩
theorem dg_drill {tx tm : St} (h : RE tx tm) (v : Int64) : ∃ r, lp (fun x : Int64 × Int32 => x1_mixInto_B2 tx x.1 x.2) (v, jn 0) = some r ∧ lp (fun x : Int64 × Int32 => m_digest_B355 tm x.1 x.2) (v, jn 0) = some r := by
  obtain ⟨z, z2, n, hn, e5, e6, hc⟩ := h
  refine two_for n ?_ ?_ n 0 (by omega) v
  · intro i hi v
    dsimp only
    unfold x1_mixInto_B2 m_digest_B355
    have g4 : ∀ {α : Type} (x : Option α), gd (jn i) 40 x = x := fun x => gd_jn (by omega) (by omega)
    rw [e5, e6, if_neg (nle hi (by omega)), if_neg (nle hi (by omega)), z, z2]
    simp only [g4]
    rw [jn_cl (by omega), (hc i hi).1, (hc i hi).2.1]
    simp only [nm, jn_s]
    exact ⟨_, rfl, rfl⟩
  · intro v
    dsimp only
    unfold x1_mixInto_B2 m_digest_B355
    rw [e5, e6, if_pos (lee (by omega)), if_pos (lee (by omega))]
    exact ⟨rfl, rfl⟩
theorem dg_round {tx tm : St} (h : RB tx tm) {m : Nat} (hm : m < 4) (v : Int64) : ∃ r, lp (fun x : Int64 × Int32 => x9_mixInto_B24 tx (jn m) x.1 x.2) (v, jn 0) = some r ∧ lp (fun x : Int64 × Int32 => m_digest_B419 tm (jn m) x.1 x.2) (v, jn 0) = some r := by
  obtain ⟨z, z2, hall⟩ := h
  obtain ⟨n, hn, e5, e6, hc⟩ := hall m hm
  have g4 : ∀ {α : Type} (x : Option α), gd (jn m) 4 x = x := fun x => gd_jn (by omega) (by omega)
  have ck : (jn m).toNatClampNeg = m := jn_cl (by omega)
  refine two_for n ?_ ?_ n 0 (by omega) v
  · intro i hi v
    dsimp only
    unfold x9_mixInto_B24 m_digest_B419
    rw [z2, z, g4, g4, ck, e5, e6, if_neg (nle hi (by omega)), if_neg (nle hi (by omega)), show (12 : Int32) = jn 12 from rfl, jn_mul, jn_mul, jn_add, jn_add, show m * 12 + i = 12 * m + i by omega, gd_jn (by omega) (by omega), gd_jn (by omega) (by omega), jn_cl (by omega), (hc i hi).1]
    simp only [nm, jn_s]
    exact ⟨_, rfl, rfl⟩
  · intro v
    dsimp only
    unfold x9_mixInto_B24 m_digest_B419
    rw [z2, g4, g4, ck, e5, e6, if_pos (lee (by omega)), if_pos (lee (by omega))]
    exact ⟨rfl, rfl⟩
theorem dg_watch {tx tm : St} (h : RB tx tm) (v : Int64) : ∃ r, lp (fun x : Int64 × Int32 => x9_mixInto_B2 tx x.1 x.2) (v, jn 0) = some r ∧ lp (fun x : Int64 × Int32 => m_digest_B397 tm x.1 x.2) (v, jn 0) = some r := by
  refine two_for 4 ?_ ?_ 4 0 (by omega) v
  · intro i hi v
    obtain ⟨n, hn, e5, e6, hc⟩ := h.2.2 i hi
    obtain ⟨r, j1, j2⟩ := dg_round h hi (31 * v + (gA tm 60 i).toInt64)
    dsimp only
    unfold x9_mixInto_B2 m_digest_B397
    have x1 : ¬ (3 : Int32) < jn i := fun e => by have := (jn_lt (a := 3) (by omega) (by omega)).mp e; omega
    have x2 : ¬ (4 : Int32) ≤ jn i := fun e => by have := (jn_le (a := 4) (by omega) (by omega)).mp e; omega
    rw [if_neg x1, if_neg x2, h.2.1, gd_jn hi (by omega), gd_jn hi (by omega), jn_cl (by omega), e5.trans e6.symm]
    simp only [nm]
    rw [show (0 : Int32) = jn 0 from rfl, j1, j2, bs, jn_s]
    exact ⟨_, rfl, rfl⟩
  · intro v
    dsimp only
    unfold x9_mixInto_B2 m_digest_B397
    rw [if_pos (by decide), if_pos (by decide)]
    exact ⟨rfl, rfl⟩
theorem op_digest {tx tm : St} (hH : RH tx tm) (hT : RT tx tm) (hK : RK tx tm) (hN : RN tx tm) (hG : RG tx tm) (hP : RP tx tm) (hI : RI tx tm) (hE : RE tx tm) (hB : RB tx tm) : ∃ r, x11_digest tx = some r ∧ m_digest tm = some r := by
  obtain ⟨r0, a0, b0⟩ := dg_count hT hK hN hG.1.2.2 hP hI hE 269
  obtain ⟨r1, a1, b1⟩ := dg_house hH 16 0 r0 (by omega)
  obtain ⟨r2, a2, b2⟩ := dg_text hT r1
  obtain ⟨r3, a3, b3⟩ := dg_nets hK hN r2
  obtain ⟨r4, a4, b4⟩ := dg_knots hK r3
  obtain ⟨r5, a5, b5⟩ := dg_guards hG r4
  obtain ⟨r6, a6, b6⟩ := dg_patrols hP r5
  obtain ⟨r7, a7, b7⟩ := dg_insiders hI r6
  obtain ⟨r8, a8, b8⟩ := dg_drill hE r7
  obtain ⟨r9, a9, b9⟩ := dg_watch hB r8
  refine ⟨r9, ?_, ?_⟩
  · unfold x11_digest x5_mixInto x6_mixInto x4_mixInto x3_mixInto x10_mixInto x1_mixInto x9_mixInto
    rw [show (0 : Int32) = jn 0 from rfl, a0, bs, show (r0, jn 0) = (r0, jn (5 * 0)) from rfl, a1, bs, bs, a2, bs, a3, bs, a4, bs, bs, a5, bs, bs, a6, bs, bs, a7, bs, bs, a8, bs, bs, a9, bs, bs]
  · unfold m_digest
    rw [show (0 : Int32) = jn 0 from rfl, b0, bs, b1, bs, b2, bs, b3, bs, b4, bs, b5, bs, b6, bs, b7, bs, b8, bs, b9, bs]
