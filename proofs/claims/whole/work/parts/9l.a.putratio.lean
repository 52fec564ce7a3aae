/-! The game's answer on the class's side. -/
theorem spread_200_eq {t : St} {V : Nat} (hV : V < 9223372036854775808) (h : gN t 200 = 6) : ∃ t', x2_spread_200 t (jl V) = some t' ∧ fx [200] [] t t' ∧ Bg (gA t' 200) 0 6 V := by
  obtain ⟨t1, a1, a2, a3⟩ := fill200_eq h
  have b3 : Bp 3 = 1237940039285380274899124224 := by decide
  have L := lp_cnt (b := fun x : Int64 × Int32 × St => x2_spread_200_B7 x.1 x.2.1 x.2.2) (fun k s => (jl (V / Bp k), jn k, s)) 3
    (fun k s => fx [200] [] t s ∧ ∀ i, i < 6 → gA s 200 i = if i < k then jn (dgt V i) else 0)
    (fun s => fx [200] [] t s ∧ ∀ i, i < 6 → gA s 200 i = if i < 3 then jn (dgt V i) else 0) (by
      rintro k s hk ⟨hf, h1⟩
      have n6 : gN s 200 = 6 := (hf.2 200 rfl).trans h
      have le : V / Bp k ≤ V := Nat.div_le_self _ _
      refine ⟨sA s 200 (jn k) (jn (dgt V k)), ?_, hf.trans (fx_sA rfl), fun i hi => ?_⟩
      · (try dsimp only)
        unfold x2_spread_200_B7
        rw [if_neg (show ¬ (3 : Int32) ≤ jn k from nle (b := 3) hk (by omega)), n6, gd_jn (by omega) (by omega), jl_mask, jl_to, nm_eq, jl_shr (by omega), nm_eq, nm_eq, jn_s, div_s]
        rfl
      · rw [gA_sA, jn_cl (by omega)]
        by_cases q : i = k
        · rw [q, upd_at, if_pos (by omega)]
        · rw [upd_ne q, h1 i hi]
          by_cases y : i < k
          · rw [if_pos y, if_pos (by omega)]
          · rw [if_neg y, if_neg (by omega)]) (by
      rintro s hs
      exact ⟨s, by (try dsimp only); unfold x2_spread_200_B7; rw [if_pos (show (3 : Int32) ≤ jn 3 by decide)], hs⟩) 0 t1 (Nat.zero_le _) ⟨a2, fun i hi => by rw [a3 i hi, if_neg (Nat.not_lt_zero i)]⟩
  obtain ⟨t', k1, k2, k3⟩ := L
  rw [Bp_0, Nat.div_one] at k1
  refine ⟨t', ?_, k2, ?_, fun i hi => ?_⟩
  · unfold x2_spread_200
    rw [a1, bs, show lp (fun x : Int64 × Int32 × St => x2_spread_200_B7 x.1 x.2.1 x.2.2) (jl V, (0 : Int32), t1) = some t' from k1, bs]
  · have := Bp_le (show 3 ≤ 6 by omega)
    omega
  · rw [Nat.zero_add, k3 i hi]
    by_cases y : i < 3
    · rw [if_pos y]
    · rw [if_neg y]
      have := Bp_le (show 3 ≤ i by omega)
      unfold dgt
      rw [Nat.div_eq_of_lt (by omega)]
      rfl
theorem spread_201_eq {t : St} {V : Nat} (hV : V < 9223372036854775808) (h : gN t 201 = 6) : ∃ t', x2_spread_201 t (jl V) = some t' ∧ fx [201] [] t t' ∧ Bg (gA t' 201) 0 6 V := by
  obtain ⟨t1, a1, a2, a3⟩ := fill201_eq h
  have b3 : Bp 3 = 1237940039285380274899124224 := by decide
  have L := lp_cnt (b := fun x : Int64 × Int32 × St => x2_spread_201_B7 x.1 x.2.1 x.2.2) (fun k s => (jl (V / Bp k), jn k, s)) 3
    (fun k s => fx [201] [] t s ∧ ∀ i, i < 6 → gA s 201 i = if i < k then jn (dgt V i) else 0)
    (fun s => fx [201] [] t s ∧ ∀ i, i < 6 → gA s 201 i = if i < 3 then jn (dgt V i) else 0) (by
      rintro k s hk ⟨hf, h1⟩
      have n6 : gN s 201 = 6 := (hf.2 201 rfl).trans h
      have le : V / Bp k ≤ V := Nat.div_le_self _ _
      refine ⟨sA s 201 (jn k) (jn (dgt V k)), ?_, hf.trans (fx_sA rfl), fun i hi => ?_⟩
      · (try dsimp only)
        unfold x2_spread_201_B7
        rw [if_neg (show ¬ (3 : Int32) ≤ jn k from nle (b := 3) hk (by omega)), n6, gd_jn (by omega) (by omega), jl_mask, jl_to, nm_eq, jl_shr (by omega), nm_eq, nm_eq, jn_s, div_s]
        rfl
      · rw [gA_sA, jn_cl (by omega)]
        by_cases q : i = k
        · rw [q, upd_at, if_pos (by omega)]
        · rw [upd_ne q, h1 i hi]
          by_cases y : i < k
          · rw [if_pos y, if_pos (by omega)]
          · rw [if_neg y, if_neg (by omega)]) (by
      rintro s hs
      exact ⟨s, by (try dsimp only); unfold x2_spread_201_B7; rw [if_pos (show (3 : Int32) ≤ jn 3 by decide)], hs⟩) 0 t1 (Nat.zero_le _) ⟨a2, fun i hi => by rw [a3 i hi, if_neg (Nat.not_lt_zero i)]⟩
  obtain ⟨t', k1, k2, k3⟩ := L
  rw [Bp_0, Nat.div_one] at k1
  refine ⟨t', ?_, k2, ?_, fun i hi => ?_⟩
  · unfold x2_spread_201
    rw [a1, bs, show lp (fun x : Int64 × Int32 × St => x2_spread_201_B7 x.1 x.2.1 x.2.2) (jl V, (0 : Int32), t1) = some t' from k1, bs]
  · have := Bp_le (show 3 ≤ 6 by omega)
    omega
  · rw [Nat.zero_add, k3 i hi]
    by_cases y : i < 3
    · rw [if_pos y]
    · rw [if_neg y]
      have := Bp_le (show 3 ≤ i by omega)
      unfold dgt
      rw [Nat.div_eq_of_lt (by omega)]
      rfl
theorem one_le_lg {g : Nat} (h1 : 1 ≤ g) (h2 : g < 9223372036854775808) : 0 ≤ lg_cmp (jl g) (1 : Int64) := by
  rw [lg_nn, Int64.toInt_ofNat_of_lt h2, show (1 : Int64).toInt = 1 from rfl]
  omega
theorem putRatio_eq {t : St} {a b : Nat} (ha : a < 9223372036854775808) (hb : b < 9223372036854775808) (h0 : 0 < b) (n0 : gN t 200 = 6) (n1 : gN t 201 = 6) : ∃ t', x2_putRatio t (jl a) (jl b) = some t' ∧ fx [200, 201] [] t t' ∧ Bg (gA t' 200) 0 6 (a / Nat.gcd a b) ∧ Bg (gA t' 201) 0 6 (b / Nat.gcd a b) := by
  have g1 : 1 ≤ Nat.gcd a b := Nat.gcd_pos_of_pos_right a h0
  have g2 : Nat.gcd a b ≤ b := Nat.gcd_le_right a h0
  have c := cdiv_eq t ha hb
  generalize Nat.gcd a b = g at *
  have da : a / g ≤ a := Nat.div_le_self _ _
  have db : b / g ≤ b := Nat.div_le_self _ _
  obtain ⟨t1, a1, a2, a3⟩ := spread_200_eq (t := t) (V := a / g) (by omega) n0
  obtain ⟨t2, b1, b2, b3⟩ := spread_201_eq (t := t1) (V := b / g) (by omega) ((a2.2 201 rfl).trans n1)
  have dv : ∀ {α : Type} (x : Option α), dvl (jl g) x = x := fun x => by
    unfold dvl
    rw [if_neg]
    intro e
    have := congrArg Int64.toInt e
    rw [Int64.toInt_ofNat_of_lt (by omega), show (0 : Int64).toInt = 0 from rfl] at this
    omega
  refine ⟨t2, ?_, (a2.wk rfl rfl).trans (b2.wk rfl rfl), Bg.cong a3 fun i _ => by rw [(b2.1 200 rfl).2.2.1], b3⟩
  unfold x2_putRatio
  rw [c, bs, if_pos (one_le_lg g1 (by omega))]
  unfold x2_putRatio_J17
  rw [dv, jl_div ha (by omega), a1, bs, dv, jl_div hb (by omega), b1, bs]
