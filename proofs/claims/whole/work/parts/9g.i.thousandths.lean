/-! The fraction of thousandths, reduced. -/
theorem cop_2 {A : Nat} (h : A % 2 ≠ 0) : Nat.Coprime A 2 := by
  have e : A % 2 = 1 := by omega
  show Nat.gcd A 2 = 1
  rw [Nat.gcd_comm, Nat.gcd_rec, e]
  rfl
theorem cop_5 {A : Nat} (h : A % 5 ≠ 0) : Nat.Coprime A 5 := by
  show Nat.gcd A 5 = 1
  rw [Nat.gcd_comm, Nat.gcd_rec]
  have l := Nat.mod_lt A (show 0 < 5 by decide)
  generalize A % 5 = r at *
  match r, l, h with
  | 1, _, _ => rfl
  | 2, _, _ => rfl
  | 3, _, _ => rfl
  | 4, _, _ => rfl
  | 0, _, h => exact absurd rfl h
  | r + 5, l, _ => omega
theorem cop_25 {A V1 k2 k5 e : Nat} (h1 : V1 = A * 5 ^ e) (h2 : k2 = 0 ∨ V1 % 2 ≠ 0) (h5 : k5 = 0 ∨ A % 5 ≠ 0) : Nat.Coprime A (2 ^ k2 * 5 ^ k5) := by
  refine Nat.Coprime.mul_right ?_ ?_
  · rcases h2 with e2 | e2
    · rw [e2]; exact Nat.coprime_one_right _
    · refine Nat.Coprime.pow_right _ (cop_2 fun z => e2 ?_)
      rw [h1, Nat.mul_mod, z, Nat.zero_mul, Nat.zero_mod]
  · rcases h5 with e5 | e5
    · rw [e5]; exact Nat.coprime_one_right _
    · exact Nat.Coprime.pow_right _ (cop_5 e5)
theorem th_val {A V V1 k2 k5 m : Nat} (h1 : V = V1 * 2 ^ (3 * m - k2)) (h2 : V1 = A * 5 ^ (3 * m - k5)) (l2 : k2 ≤ 3 * m) (l5 : k5 ≤ 3 * m) : A * 1000 ^ m = V * (2 ^ k2 * 5 ^ k5) := by
  have e : 1000 ^ m = (2 ^ (3 * m - k2) * 2 ^ k2) * (5 ^ (3 * m - k5) * 5 ^ k5) := by
    rw [← Nat.pow_add, ← Nat.pow_add, Nat.sub_add_cancel l2, Nat.sub_add_cancel l5, Nat.pow_mul, Nat.pow_mul, ← Nat.mul_pow]
  rw [e, h1, h2]
  ac_rfl
theorem th_le {k2 k5 m : Nat} (l2 : k2 ≤ 3 * m) (l5 : k5 ≤ 3 * m) (hm : m ≤ 16) : 2 ^ k2 * 5 ^ k5 ≤ 1000 ^ 16 := by
  have h2 : 2 ^ k2 ≤ 2 ^ 48 := Nat.pow_le_pow_right (by omega) (by omega)
  have h5 : 5 ^ k5 ≤ 5 ^ 48 := Nat.pow_le_pow_right (by omega) (by omega)
  have := Nat.mul_le_mul h2 h5
  have e : 2 ^ 48 * 5 ^ 48 = 1000 ^ 16 := by decide +kernel
  rw [← e]
  exact this
theorem dvl_ok {α : Type} {d : Nat} {x : Option α} (h0 : 0 < d) (h : d < 2147483648) : dvl (jn d).toInt64 x = x := by
  unfold dvl
  rw [jl_i h, if_neg]
  intro e
  have := congrArg Int64.toInt e
  rw [Int64.toInt_ofNat_of_lt (by omega)] at this
  have z : Int64.toInt 0 = 0 := rfl
  rw [z] at this
  omega
theorem fill200_eq {t : St} (h : gN t 200 = 6) : ∃ t', j7_fill_53178_200 t 0 = some t' ∧ fx [200] [] t t' ∧ ∀ i, i < 6 → gA t' 200 i = 0 := by
  have l := lp_cnt (b := fun x : Int32 × St => j7_fill_53178_200_B5 0 (Int32.ofNat (gN t 200)) x.1 x.2) (fun i s => (jn i, s)) 6
    (fun n s => fx [200] [] t s ∧ ∀ i, i < n → gA s 200 i = 0)
    (fun s => fx [200] [] t s ∧ ∀ i, i < 6 → gA s 200 i = 0) (by
      rintro i s hi ⟨hf, h1⟩
      dsimp only
      unfold j7_fill_53178_200_B5
      rw [h, show Int32.ofNat 6 = jn 6 from rfl, if_neg (nle hi (by omega)), hf.2 200 rfl, h, gd_jn hi (by omega)]
      simp only [nm, jn_s]
      refine ⟨_, rfl, hf.trans (fx_sA rfl), fun i1 hi1 => ?_⟩
      rw [gA_sA, jn_cl (by omega)]
      by_cases e : i1 = i
      · subst e; rw [upd_at]
      · rw [upd_ne e]; exact h1 i1 (by omega)) (by
      rintro s hs
      exact ⟨s, by dsimp only; unfold j7_fill_53178_200_B5; rw [h, show Int32.ofNat 6 = jn 6 from rfl, if_pos (lee (by omega))], hs⟩) 0 t (by omega) ⟨fx.rfl, fun i hi => absurd hi (by omega)⟩
  obtain ⟨s, k, k1, k2⟩ := l
  refine ⟨s, ?_, k1, k2⟩
  unfold j7_fill_53178_200
  simp only [nm]
  rw [show lp (fun x : Int32 × St => j7_fill_53178_200_B5 0 (Int32.ofNat (gN t 200)) x.1 x.2) ((0 : Int32), t) = some s from k, bs]
theorem fill201_eq {t : St} (h : gN t 201 = 6) : ∃ t', j7_fill_53178_201 t 0 = some t' ∧ fx [201] [] t t' ∧ ∀ i, i < 6 → gA t' 201 i = 0 := by
  have l := lp_cnt (b := fun x : Int32 × St => j7_fill_53178_201_B5 0 (Int32.ofNat (gN t 201)) x.1 x.2) (fun i s => (jn i, s)) 6
    (fun n s => fx [201] [] t s ∧ ∀ i, i < n → gA s 201 i = 0)
    (fun s => fx [201] [] t s ∧ ∀ i, i < 6 → gA s 201 i = 0) (by
      rintro i s hi ⟨hf, h1⟩
      dsimp only
      unfold j7_fill_53178_201_B5
      rw [h, show Int32.ofNat 6 = jn 6 from rfl, if_neg (nle hi (by omega)), hf.2 201 rfl, h, gd_jn hi (by omega)]
      simp only [nm, jn_s]
      refine ⟨_, rfl, hf.trans (fx_sA rfl), fun i1 hi1 => ?_⟩
      rw [gA_sA, jn_cl (by omega)]
      by_cases e : i1 = i
      · subst e; rw [upd_at]
      · rw [upd_ne e]; exact h1 i1 (by omega)) (by
      rintro s hs
      exact ⟨s, by dsimp only; unfold j7_fill_53178_201_B5; rw [h, show Int32.ofNat 6 = jn 6 from rfl, if_pos (lee (by omega))], hs⟩) 0 t (by omega) ⟨fx.rfl, fun i hi => absurd hi (by omega)⟩
  obtain ⟨s, k, k1, k2⟩ := l
  refine ⟨s, ?_, k1, k2⟩
  unfold j7_fill_53178_201
  simp only [nm]
  rw [show lp (fun x : Int32 × St => j7_fill_53178_201_B5 0 (Int32.ofNat (gN t 201)) x.1 x.2) ((0 : Int32), t) = some s from k, bs]
theorem fill13_eq {t : St} (h : gN t 13 = 6) : ∃ t', j7_fill_53178_13 t 0 = some t' ∧ fx [13] [] t t' ∧ ∀ i, i < 6 → gA t' 13 i = 0 := by
  have l := lp_cnt (b := fun x : Int32 × St => j7_fill_53178_13_B5 0 (Int32.ofNat (gN t 13)) x.1 x.2) (fun i s => (jn i, s)) 6
    (fun n s => fx [13] [] t s ∧ ∀ i, i < n → gA s 13 i = 0)
    (fun s => fx [13] [] t s ∧ ∀ i, i < 6 → gA s 13 i = 0) (by
      rintro i s hi ⟨hf, h1⟩
      dsimp only
      unfold j7_fill_53178_13_B5
      rw [h, show Int32.ofNat 6 = jn 6 from rfl, if_neg (nle hi (by omega)), hf.2 13 rfl, h, gd_jn hi (by omega)]
      simp only [nm, jn_s]
      refine ⟨_, rfl, hf.trans (fx_sA rfl), fun i1 hi1 => ?_⟩
      rw [gA_sA, jn_cl (by omega)]
      by_cases e : i1 = i
      · subst e; rw [upd_at]
      · rw [upd_ne e]; exact h1 i1 (by omega)) (by
      rintro s hs
      exact ⟨s, by dsimp only; unfold j7_fill_53178_13_B5; rw [h, show Int32.ofNat 6 = jn 6 from rfl, if_pos (lee (by omega))], hs⟩) 0 t (by omega) ⟨fx.rfl, fun i hi => absurd hi (by omega)⟩
  obtain ⟨s, k, k1, k2⟩ := l
  refine ⟨s, ?_, k1, k2⟩
  unfold j7_fill_53178_13
  simp only [nm]
  rw [show lp (fun x : Int32 × St => j7_fill_53178_13_B5 0 (Int32.ofNat (gN t 13)) x.1 x.2) ((0 : Int32), t) = some s from k, bs]
theorem dn_s (j : Nat) : dn (j + 1) = jn j := by
  unfold dn
  rw [if_neg (by omega)]
  rfl
theorem rem200_eq {t : St} {V d : Nat} (hN : gN t 200 = 6) (hV : Bg (gA t 200) 0 6 V) (h0 : 0 < d) (hd : d ≤ 1000) : x2_remainder_200 t (jn d) = some (jn (V % d)) := by
  have L := lp_cnt (b := fun z : Int64 × Int32 => x2_remainder_200_B12 t (jn d) z.1 z.2) (S := Unit) (fun i _ => (jl (V / Bp (6 - i) % d), dn (6 - i))) 6
    (fun _ _ => True) (fun y => y = jl (V % d)) (by
      rintro i ⟨⟩ hi -
      obtain ⟨j, hj⟩ : ∃ j, j = 6 - (i + 1) := ⟨_, rfl⟩
      have jl' : j < 6 := by omega
      have e1 : 6 - i = j + 1 := by omega
      rw [← hj, e1]
      have d1 := dgt_lt V j
      have dd := (dgt_div (V := V) (d := d) (i := j) h0).1
      have c2 := Nat.mod_lt (V / Bp (j + 1)) h0
      have v2 := hV.2 j jl'
      rw [Nat.zero_add] at v2
      generalize V / Bp (j + 1) % d = r at *
      refine ⟨(), ?_, trivial⟩
      dsimp only
      unfold x2_remainder_200_B12
      rw [dn_s, if_neg (jn_neg (by omega)), hN, gd_jn (by omega) (by omega), dvl_ok h0 (by omega), jn_cl (by omega), v2, jl_shl, jl_i (show dgt V j < 2147483648 by omega), jl_i (show d < 2147483648 by omega), jl_add, jl_rem (by omega) (by omega), dd]
      simp only [nm, dn_pred]) (by
      rintro ⟨⟩ -
      refine ⟨_, by dsimp only; unfold x2_remainder_200_B12; rw [Nat.sub_self, if_pos (show dn 0 < 0 by decide)], ?_⟩
      rw [Bp_0, Nat.div_one]) 0 () (Nat.zero_le _) trivial
  obtain ⟨y, k, rfl⟩ := L
  have k' : lp (fun z : Int64 × Int32 => x2_remainder_200_B12 t (jn d) z.1 z.2) ((0 : Int64), (5 : Int32)) = some (jl (V % d)) := by
    rw [Nat.sub_zero, Nat.div_eq_of_lt hV.1, Nat.zero_mod] at k
    exact k
  unfold x2_remainder_200
  rw [if_pos (show (1 : Int32) ≤ jn d from (jn_le (a := 1) (by omega) (by omega)).mpr h0), k', bs, jl_to]
theorem div200_eq {t : St} {V d : Nat} (hN : gN t 200 = 6) (hV : Bg (gA t 200) 0 6 V) (h0 : 0 < d) (hd : d ≤ 1000) : ∃ t', x2_divide_200 t (jn d) = some t' ∧ fx [200] [] t t' ∧ Bg (gA t' 200) 0 6 (V / d) := by
  have L := lp_cnt (b := fun z : Int64 × Int32 × St => x2_divide_200_B11 (jn d) z.1 z.2.1 z.2.2) (fun i u => (jl (V / Bp (6 - i) % d), dn (6 - i), u)) 6
    (fun i u => Wd 200 0 6 (V / d) (6 - i) t u) (fun u => Wd 200 0 6 (V / d) 0 t u) (by
      rintro i u hi hw
      obtain ⟨j, hj⟩ : ∃ j, j = 6 - (i + 1) := ⟨_, rfl⟩
      have jl' : j < 6 := by omega
      have e1 : 6 - i = j + 1 := by omega
      rw [← hj]
      rw [e1] at hw ⊢
      have d1 := dgt_lt V j
      have dd := dgt_div (V := V) (d := d) (i := j) h0
      have c2 := Nat.mod_lt (V / Bp (j + 1)) h0
      have v2 := hV.2 j jl'
      have w2 := hw.2.2 j (by omega)
      rw [Nat.zero_add] at v2
      generalize V / Bp (j + 1) % d = r at *
      have P := hw.put (v := jn (dgt (V / d) j)) (by omega) (by omega) rfl
      rw [Nat.zero_add] at P
      dsimp only
      unfold x2_divide_200_B11
      rw [dn_s, if_neg (jn_neg (by omega)), hw.1.2 200 rfl, hN, gd_jn (by omega) (by omega), jn_cl (by omega), w2, v2, jl_shl, jl_i (show dgt V j < 2147483648 by omega), jl_add]
      simp only [nm]
      rw [dvl_ok h0 (by omega), gd_jn (by omega) (by omega), dvl_ok h0 (by omega), jl_i (show d < 2147483648 by omega), jl_rem (by omega) (by omega), jl_div (by omega) (by omega), dd.1, dd.2, jl_to, dn_pred]
      exact ⟨_, rfl, P⟩) (by
      rintro u hu
      rw [Nat.sub_self] at *
      exact ⟨u, by dsimp only; unfold x2_divide_200_B11; rw [if_pos (show dn 0 < 0 by decide)], hu⟩) 0 t (Nat.zero_le _) Wd.nil
  obtain ⟨u, g, g1⟩ := L
  obtain ⟨o1, o2⟩ := g1.fin (Nat.lt_of_le_of_lt (Nat.div_le_self V d) hV.1)
  refine ⟨u, ?_, o1.1, o2⟩
  have k' : lp (fun z : Int64 × Int32 × St => x2_divide_200_B11 (jn d) z.1 z.2.1 z.2.2) ((0 : Int64), (5 : Int32), t) = some u := by
    rw [Nat.sub_zero, Nat.div_eq_of_lt hV.1, Nat.zero_mod] at g
    exact g
  unfold x2_divide_200
  rw [if_pos (show (1 : Int32) ≤ jn d from (jn_le (a := 1) (by omega) (by omega)).mpr h0), k', bs]
theorem zer200_lp {t : St} {V : Nat} (hN : gN t 200 = 6) (hV : Bg (gA t 200) 0 6 V) : ∀ k i, i + k = 6 → (∀ j, j < i → dgt V j = 0) → lp (fun x => x2_isZeroRow_200_B2 t x) (jn i) = some (if V = 0 then .inr () else .inl ()) := by
  intro k
  induction k with
  | zero =>
    intro i h hz
    have : V = 0 := dgt_ext 6 hV.1 (Bp_pos 6) fun j hj => by rw [hz j (by omega), dgt_of_lt (Bp_pos j)]
    rw [if_pos this, show i = 6 by omega]
    exact lp_r (by unfold x2_isZeroRow_200_B2; rw [if_pos (show (6 : Int32) ≤ jn 6 by decide)])
  | succ k ih =>
    intro i h hz
    have d1 := dgt_lt V i
    have v2 := hV.2 i (by omega)
    rw [Nat.zero_add] at v2
    have b : x2_isZeroRow_200_B2 t (jn i) = if dgt V i = 0 then some (.inl (jn (i + 1))) else some (.inr (.inl ())) := by
      unfold x2_isZeroRow_200_B2
      rw [if_neg (show ¬ (6 : Int32) ≤ jn i from nle (b := 6) (show i < 6 by omega) (by omega)), hN, gd_jn (by omega) (by omega), jn_cl (by omega), v2]
      simp only [nm, jn_s]
      by_cases c : dgt V i = 0
      · rw [c, if_pos rfl, if_pos (show jn 0 = 0 from rfl)]
      · rw [if_neg c, if_neg (jn_nz c (by omega))]
    by_cases c : dgt V i = 0
    · rw [if_pos c] at b
      rw [lp_l b]
      exact ih (i + 1) (by omega) fun j hj => by
        by_cases e : j = i
        · rw [e]; exact c
        · exact hz j (by omega)
    · rw [if_neg c] at b
      rw [lp_r b, if_neg]
      intro z
      exact c (by rw [z, dgt_of_lt (Bp_pos i)])
theorem zer200_eq {t : St} {V : Nat} (hN : gN t 200 = 6) (hV : Bg (gA t 200) 0 6 V) : x2_isZero t = some (if V = 0 then 1 else 0) := by
  unfold x2_isZero x2_isZeroRow_200
  rw [show lp (fun x => x2_isZeroRow_200_B2 t x) (0 : Int32) = _ from zer200_lp hN hV 6 0 rfl (fun j hj => absurd hj (Nat.not_lt_zero j)), bs]
  by_cases c : V = 0
  · rw [if_pos c, if_pos c]; rfl
  · rw [if_neg c, if_neg c]; rfl
theorem by2_12_eq (w : Int32) : ∀ k, k ≤ 1000 → ∀ s V, gN s 200 = 6 → Bg (gA s 200) 0 6 V → ∃ k' s' V', lp (fun x : Int32 × St => x2_putThousandths_12_B45 w x.1 x.2) (jn k, s) = some (jn k', s') ∧ fx [200] [] s s' ∧ Bg (gA s' 200) 0 6 V' ∧ k' ≤ k ∧ V = V' * 2 ^ (k - k') ∧ (k' = 0 ∨ V' % 2 ≠ 0) := by
  intro k
  induction k with
  | zero =>
    intro _ s V hN hV
    exact ⟨0, s, V, lp_r (by dsimp only; unfold x2_putThousandths_12_B45; rw [if_pos (show jn 0 ≤ 0 by decide)]), fx.rfl, hV, Nat.le_refl _, (Nat.mul_one V).symm, Or.inl rfl⟩
  | succ k ih =>
    intro hk s V hN hV
    have q : ¬ jn (k + 1) ≤ 0 := fun e => by have := (jn_le (b := 0) (by omega) (by omega)).mp e; omega
    have r := rem200_eq hN hV (show 0 < 2 by omega) (show 2 ≤ 1000 by omega)
    by_cases c : V % 2 = 0
    · obtain ⟨s1, a1, a2, a3⟩ := div200_eq hN hV (show 0 < 2 by omega) (show 2 ≤ 1000 by omega)
      obtain ⟨k', s', V', b1, b2, b3, b4, b5, b6⟩ := ih (by omega) s1 _ ((a2.2 200 rfl).trans hN) a3
      refine ⟨k', s', V', (lp_l ?_).trans b1, a2.trans b2, b3, by omega, ?_, b6⟩
      · dsimp only
        unfold x2_putThousandths_12_B45
        rw [if_neg q, show (2 : Int32) = jn 2 from rfl, r, bs, c, if_pos (show jn 0 = 0 from rfl), a1, bs]
        have : jn (k + 1) + -1 = jn k := by
          rw [show jn (k + 1) = jn k + 1 from (jn_add k 1).symm, Int32.add_assoc]
          exact Int32.add_zero _
        simp only [nm, this]
      · have e : V = V / 2 * 2 := by omega
        rw [e, b5, show k + 1 - k' = (k - k') + 1 by omega, Nat.pow_succ, Nat.mul_assoc]
    · refine ⟨k + 1, s, V, lp_r ?_, fx.rfl, hV, Nat.le_refl _, ?_, Or.inr c⟩
      · dsimp only
        unfold x2_putThousandths_12_B45
        rw [if_neg q, show (2 : Int32) = jn 2 from rfl, r, bs, if_neg (jn_nz c (by omega))]
      · rw [Nat.sub_self, Nat.pow_zero, Nat.mul_one]
theorem by5_12_eq (w : Int32) : ∀ k, k ≤ 1000 → ∀ s V, gN s 200 = 6 → Bg (gA s 200) 0 6 V → ∃ k' s' V', lp (fun x : Int32 × St => x2_putThousandths_12_B75 w x.1 x.2) (jn k, s) = some (jn k', s') ∧ fx [200] [] s s' ∧ Bg (gA s' 200) 0 6 V' ∧ k' ≤ k ∧ V = V' * 5 ^ (k - k') ∧ (k' = 0 ∨ V' % 5 ≠ 0) := by
  intro k
  induction k with
  | zero =>
    intro _ s V hN hV
    exact ⟨0, s, V, lp_r (by dsimp only; unfold x2_putThousandths_12_B75; rw [if_pos (show jn 0 ≤ 0 by decide)]), fx.rfl, hV, Nat.le_refl _, (Nat.mul_one V).symm, Or.inl rfl⟩
  | succ k ih =>
    intro hk s V hN hV
    have q : ¬ jn (k + 1) ≤ 0 := fun e => by have := (jn_le (b := 0) (by omega) (by omega)).mp e; omega
    have r := rem200_eq hN hV (show 0 < 5 by omega) (show 5 ≤ 1000 by omega)
    by_cases c : V % 5 = 0
    · obtain ⟨s1, a1, a2, a3⟩ := div200_eq hN hV (show 0 < 5 by omega) (show 5 ≤ 1000 by omega)
      obtain ⟨k', s', V', b1, b2, b3, b4, b5, b6⟩ := ih (by omega) s1 _ ((a2.2 200 rfl).trans hN) a3
      refine ⟨k', s', V', (lp_l ?_).trans b1, a2.trans b2, b3, by omega, ?_, b6⟩
      · dsimp only
        unfold x2_putThousandths_12_B75
        rw [if_neg q, show (5 : Int32) = jn 5 from rfl, r, bs, c, if_pos (show jn 0 = 0 from rfl), a1, bs]
        have : jn (k + 1) + -1 = jn k := by
          rw [show jn (k + 1) = jn k + 1 from (jn_add k 1).symm, Int32.add_assoc]
          exact Int32.add_zero _
        simp only [nm, this]
      · have e : V = V / 5 * 5 := by omega
        rw [e, b5, show k + 1 - k' = (k - k') + 1 by omega, Nat.pow_succ, Nat.mul_assoc]
    · refine ⟨k + 1, s, V, lp_r ?_, fx.rfl, hV, Nat.le_refl _, ?_, Or.inr c⟩
      · dsimp only
        unfold x2_putThousandths_12_B75
        rw [if_neg q, show (5 : Int32) = jn 5 from rfl, r, bs, if_neg (jn_nz c (by omega))]
      · rw [Nat.sub_self, Nat.pow_zero, Nat.mul_one]
theorem up2_12_eq {k K : Nat} (hk : k ≤ 1000) {t : St} {B : Nat} (hN : gN t 201 = 6) (hB : Bg (gA t 201) 0 6 B) (hl : B * 2 ^ k < Bp 6) : ∃ t', lp (fun x : Int32 × St => x2_putThousandths_12_B123 (jn k) (jn K) x.1 x.2) ((0 : Int32), t) = some t' ∧ fx [201] [] t t' ∧ Bg (gA t' 201) 0 6 (B * 2 ^ k) := by
  have L := lp_cnt (b := fun x : Int32 × St => x2_putThousandths_12_B123 (jn k) (jn K) x.1 x.2) (fun i s => (jn i, s)) k
    (fun i s => fx [201] [] t s ∧ Bg (gA s 201) 0 6 (B * 2 ^ i)) (fun s => fx [201] [] t s ∧ Bg (gA s 201) 0 6 (B * 2 ^ k)) (by
      rintro i s hi ⟨w1, w2⟩
      have up : B * 2 ^ i * 2 ≤ B * 2 ^ k := by
        rw [Nat.mul_assoc, ← Nat.pow_succ]
        exact Nat.mul_le_mul_left _ (Nat.pow_le_pow_right (by omega) hi)
      obtain ⟨s', c1, c2, c3⟩ := multiply201_eq (t := s) (a := 0) (n := 6) (v := 2) (by rw [w1.2 201 rfl, hN]; omega) (by rw [w1.2 201 rfl, hN]; omega) (by omega) w2 (by omega)
      refine ⟨s', ?_, w1.trans c2.1, by rw [Nat.pow_succ, ← Nat.mul_assoc]; exact c3⟩
      dsimp only
      unfold x2_putThousandths_12_B123
      rw [if_neg (nle hi (by omega)), show (0 : Int32) = jn 0 from rfl, show (6 : Int32) = jn 6 from rfl, show (2 : Int32) = jn 2 from rfl, c1, bs]
      simp only [nm, jn_s]) (by
      rintro s hs
      exact ⟨s, by dsimp only; unfold x2_putThousandths_12_B123; rw [if_pos (lee (by omega))], hs⟩) 0 t (Nat.zero_le _) ⟨fx.rfl, by rw [Nat.pow_zero, Nat.mul_one]; exact hB⟩
  exact L
theorem up5_12_eq {k K : Nat} (hk : k ≤ 1000) {t : St} {B : Nat} (hN : gN t 201 = 6) (hB : Bg (gA t 201) 0 6 B) (hl : B * 5 ^ k < Bp 6) : ∃ t', lp (fun x : Int32 × St => x2_putThousandths_12_B150 (jn k) x.1 x.2) ((0 : Int32), t) = some t' ∧ fx [201] [] t t' ∧ Bg (gA t' 201) 0 6 (B * 5 ^ k) := by
  have L := lp_cnt (b := fun x : Int32 × St => x2_putThousandths_12_B150 (jn k) x.1 x.2) (fun i s => (jn i, s)) k
    (fun i s => fx [201] [] t s ∧ Bg (gA s 201) 0 6 (B * 5 ^ i)) (fun s => fx [201] [] t s ∧ Bg (gA s 201) 0 6 (B * 5 ^ k)) (by
      rintro i s hi ⟨w1, w2⟩
      have up : B * 5 ^ i * 5 ≤ B * 5 ^ k := by
        rw [Nat.mul_assoc, ← Nat.pow_succ]
        exact Nat.mul_le_mul_left _ (Nat.pow_le_pow_right (by omega) hi)
      obtain ⟨s', c1, c2, c3⟩ := multiply201_eq (t := s) (a := 0) (n := 6) (v := 5) (by rw [w1.2 201 rfl, hN]; omega) (by rw [w1.2 201 rfl, hN]; omega) (by omega) w2 (by omega)
      refine ⟨s', ?_, w1.trans c2.1, by rw [Nat.pow_succ, ← Nat.mul_assoc]; exact c3⟩
      dsimp only
      unfold x2_putThousandths_12_B150
      rw [if_neg (nle hi (by omega)), show (0 : Int32) = jn 0 from rfl, show (6 : Int32) = jn 6 from rfl, show (5 : Int32) = jn 5 from rfl, c1, bs]
      simp only [nm, jn_s]) (by
      rintro s hs
      exact ⟨s, by dsimp only; unfold x2_putThousandths_12_B150; rw [if_pos (lee (by omega))], hs⟩) 0 t (Nat.zero_le _) ⟨fx.rfl, by rw [Nat.pow_zero, Nat.mul_one]; exact hB⟩
  exact L
theorem th12_J {t : St} {V m : Nat} (h0 : gN t 200 = 6) (h1 : gN t 201 = 6) (hV : Bg (gA t 200) 0 6 V) (hm : m ≤ 16) : ∃ t' A B, x2_putThousandths_12_J39 t (jn (3 * m)) = some t' ∧ fx [200, 201] [] t t' ∧ Bg (gA t' 200) 0 6 A ∧ Bg (gA t' 201) 0 6 B ∧ A * 1000 ^ m = V * B ∧ Nat.Coprime A B ∧ 0 < B := by
  obtain ⟨k2, s2, V1, a1, a2, a3, a4, a5, a6⟩ := by2_12_eq (jn (3 * m)) (3 * m) (by omega) t V h0 hV
  obtain ⟨k5, s5, A, b1, b2, b3, b4, b5, b6⟩ := by5_12_eq (jn k2) (3 * m) (by omega) s2 V1 ((a2.2 200 rfl).trans h0) a3
  have n5 : gN s5 201 = 6 := (b2.2 201 rfl).trans ((a2.2 201 rfl).trans h1)
  obtain ⟨s6, c1, c2, c3⟩ := fill201_eq n5
  have le := th_le a4 b4 hm
  have lb : 2 ^ k2 * 5 ^ k5 < Bp 6 := Nat.lt_of_le_of_lt le (by decide +kernel)
  have p5 : 1 ≤ 5 ^ k5 := Nat.pow_pos (by omega)
  have p2 : 1 ≤ 2 ^ k2 := Nat.pow_pos (by omega)
  have l2 : 2 ^ k2 ≤ 2 ^ k2 * 5 ^ k5 := Nat.le_mul_of_pos_right _ p5
  have B1 : Bg (gA (sA s6 201 0 1) 201) 0 6 1 := by
    refine ⟨Nat.lt_of_lt_of_le (by decide : 1 < Bp 1) (Bp_le (by omega)), fun i hi => ?_⟩
    rw [gA_sA, show (0 : Int32).toNatClampNeg = 0 from rfl, Nat.zero_add, dgt_small (by omega)]
    by_cases c : i = 0
    · subst c; rw [upd_at, if_pos rfl]; rfl
    · rw [upd_ne c, if_neg c, c3 i hi]; rfl
  have n6 : gN (sA s6 201 0 1) 201 = 6 := (c2.2 201 rfl).trans n5
  obtain ⟨s7, d1, d2, d3⟩ := up2_12_eq (k := k2) (K := k5) (by omega) n6 B1 (by omega)
  obtain ⟨s8, e1, e2, e3⟩ := up5_12_eq (k := k5) (K := 0) (by omega) ((d2.2 201 rfl).trans n6) d3 (by rw [Nat.one_mul]; exact lb)
  rw [Nat.one_mul] at e3
  have f1 : fx [201] [] s5 s8 := c2.trans ((fx_sA rfl).trans (d2.trans e2))
  refine ⟨s8, A, 2 ^ k2 * 5 ^ k5, ?_, (a2.wk rfl rfl : fx [200, 201] [] t s2).trans ((b2.wk rfl rfl : fx [200, 201] [] s2 s5).trans (f1.wk rfl rfl)), b3.cong (fun j _ => congrFun (f1.1 200 rfl).2.2.1 _), e3, th_val a5 b5 a4 b4, cop_25 b5 a6 b6, Nat.mul_pos p2 p5⟩
  unfold x2_putThousandths_12_J39
  rw [a1, bs]
  dsimp only
  rw [b1, bs]
  dsimp only
  rw [c1, bs, c2.2 201 rfl, n5, show (0 : Int32) = jn 0 from rfl, gd_jn (by omega) (by omega)]
  simp only [nm]
  rw [show lp (fun x : Int32 × St => x2_putThousandths_12_B123 (jn k2) (jn k5) x.1 x.2) (jn 0, sA s6 201 (jn 0) 1) = some s7 from d1, bs, show lp (fun x : Int32 × St => x2_putThousandths_12_B150 (jn k5) x.1 x.2) (jn 0, s7) = some s8 from e1, bs]
theorem th12_eq {t : St} {a n V m : Nat} (hN : a + n ≤ gN t 12) (hB : gN t 12 ≤ 1000000) (hn : n ≤ 6) (h0 : gN t 200 = 6) (h1 : gN t 201 = 6) (hV : Bg (gA t 12) a n V) (hm : m ≤ 16) : ∃ t' A B, x2_putThousandths_12 t (jn a) (jn n) (jn m) = some t' ∧ fx [200, 201] [] t t' ∧ Bg (gA t' 200) 0 6 A ∧ Bg (gA t' 201) 0 6 B ∧ A * 1000 ^ m = V * B ∧ Nat.Coprime A B ∧ 0 < B := by
  obtain ⟨t1, a1, a2, a3⟩ := fill200_eq h0
  have e6 : (if (6 : Int32) < jn n then (6 : Int32) else jn n) = jn n := if_neg fun e => by
    have := (jn_lt (a := 6) (by omega) (by omega)).mp e
    omega
  generalize ht2 : sAr t1 200 (va_cpy (gA t1 12) (gA t1 200) (jn a).toNatClampNeg (0 : Int32).toNatClampNeg (jn n).toNatClampNeg) = t2
  have f2 : fx [200] [] t t2 := by
    rw [← ht2]
    exact a2.trans (fx_sAr rfl)
  have V2 : Bg (gA t2 200) 0 6 V := by
    refine ⟨Nat.lt_of_lt_of_le hV.1 (Bp_le hn), fun i hi => ?_⟩
    rw [← ht2]
    show va_cpy (gA t1 12) (gA t1 200) (jn a).toNatClampNeg (0 : Int32).toNatClampNeg (jn n).toNatClampNeg (0 + i) = _
    unfold va_cpy
    rw [jn_cl (by omega), jn_cl (by omega), show (0 : Int32).toNatClampNeg = 0 from rfl, Nat.zero_add, Nat.zero_add, Nat.sub_zero, (a2.1 12 rfl).2.2.1]
    by_cases c : i < n
    · rw [if_pos ⟨Nat.zero_le _, c⟩]
      exact hV.2 i c
    · rw [if_neg (by omega), a3 i hi, dgt_of_lt (Nat.lt_of_lt_of_le hV.1 (Bp_le (by omega)))]
      rfl
  have n0 : gN t2 200 = 6 := (f2.2 200 rfl).trans h0
  have n1 : gN t2 201 = 6 := (f2.2 201 rfl).trans h1
  have z := zer200_eq n0 V2
  have pre : ∀ w t', (V = 0 → w = 0) → (V ≠ 0 → w = m) → x2_putThousandths_12_J39 t2 (jn (3 * w)) = some t' → x2_putThousandths_12 t (jn a) (jn n) (jn m) = some t' := fun w t' w1 w2 h => by
    unfold x2_putThousandths_12
    rw [show (0 : Int32) = 0 from rfl, a1, bs, e6]
    unfold cpk
    rw [if_neg]
    · simp only [nm]
      rw [ht2, z, bs]
      by_cases c : V = 0
      · rw [if_pos c, if_neg (show ¬ (1 : Int32) = 0 by decide)]
        rw [w1 c] at h
        exact h
      · rw [if_neg c, if_pos rfl]
        rw [w2 c] at h
        rw [show (3 : Int32) = jn 3 from rfl, jn_mul]
        exact h
    · rw [jn_cl (by omega), jn_cl (by omega), a2.2 12 rfl, a2.2 200 rfl, h0, show (0 : Int32).toNatClampNeg = 0 from rfl]
      rintro (e | e | e | e | e)
      · exact jn_neg (by omega) e
      · exact absurd e (by decide)
      · exact jn_neg (by omega) e
      · omega
      · omega
  by_cases c : V = 0
  · obtain ⟨t', A, B, k1, k2, k3, k4, k5, k6, k7⟩ := th12_J (m := 0) n0 n1 V2 (by omega)
    refine ⟨t', A, B, pre 0 t' (fun _ => rfl) (fun e => absurd c e) k1, (f2.wk rfl rfl : fx [200, 201] [] t t2).trans k2, k3, k4, ?_, k6, k7⟩
    rw [c, Nat.zero_mul, Nat.pow_zero, Nat.mul_one] at k5
    rw [k5, c, Nat.zero_mul, Nat.zero_mul]
  · obtain ⟨t', A, B, k1, k2, k3, k4, k5, k6, k7⟩ := th12_J (m := m) n0 n1 V2 hm
    exact ⟨t', A, B, pre m t' (fun e => absurd e c) (fun _ => rfl) k1, (f2.wk rfl rfl : fx [200, 201] [] t t2).trans k2, k3, k4, k5, k6, k7⟩
theorem by2_13_eq (w : Int32) : ∀ k, k ≤ 1000 → ∀ s V, gN s 200 = 6 → Bg (gA s 200) 0 6 V → ∃ k' s' V', lp (fun x : Int32 × St => x2_putThousandths_13_B45 w x.1 x.2) (jn k, s) = some (jn k', s') ∧ fx [200] [] s s' ∧ Bg (gA s' 200) 0 6 V' ∧ k' ≤ k ∧ V = V' * 2 ^ (k - k') ∧ (k' = 0 ∨ V' % 2 ≠ 0) := by
  intro k
  induction k with
  | zero =>
    intro _ s V hN hV
    exact ⟨0, s, V, lp_r (by dsimp only; unfold x2_putThousandths_13_B45; rw [if_pos (show jn 0 ≤ 0 by decide)]), fx.rfl, hV, Nat.le_refl _, (Nat.mul_one V).symm, Or.inl rfl⟩
  | succ k ih =>
    intro hk s V hN hV
    have q : ¬ jn (k + 1) ≤ 0 := fun e => by have := (jn_le (b := 0) (by omega) (by omega)).mp e; omega
    have r := rem200_eq hN hV (show 0 < 2 by omega) (show 2 ≤ 1000 by omega)
    by_cases c : V % 2 = 0
    · obtain ⟨s1, a1, a2, a3⟩ := div200_eq hN hV (show 0 < 2 by omega) (show 2 ≤ 1000 by omega)
      obtain ⟨k', s', V', b1, b2, b3, b4, b5, b6⟩ := ih (by omega) s1 _ ((a2.2 200 rfl).trans hN) a3
      refine ⟨k', s', V', (lp_l ?_).trans b1, a2.trans b2, b3, by omega, ?_, b6⟩
      · dsimp only
        unfold x2_putThousandths_13_B45
        rw [if_neg q, show (2 : Int32) = jn 2 from rfl, r, bs, c, if_pos (show jn 0 = 0 from rfl), a1, bs]
        have : jn (k + 1) + -1 = jn k := by
          rw [show jn (k + 1) = jn k + 1 from (jn_add k 1).symm, Int32.add_assoc]
          exact Int32.add_zero _
        simp only [nm, this]
      · have e : V = V / 2 * 2 := by omega
        rw [e, b5, show k + 1 - k' = (k - k') + 1 by omega, Nat.pow_succ, Nat.mul_assoc]
    · refine ⟨k + 1, s, V, lp_r ?_, fx.rfl, hV, Nat.le_refl _, ?_, Or.inr c⟩
      · dsimp only
        unfold x2_putThousandths_13_B45
        rw [if_neg q, show (2 : Int32) = jn 2 from rfl, r, bs, if_neg (jn_nz c (by omega))]
      · rw [Nat.sub_self, Nat.pow_zero, Nat.mul_one]
theorem by5_13_eq (w : Int32) : ∀ k, k ≤ 1000 → ∀ s V, gN s 200 = 6 → Bg (gA s 200) 0 6 V → ∃ k' s' V', lp (fun x : Int32 × St => x2_putThousandths_13_B75 w x.1 x.2) (jn k, s) = some (jn k', s') ∧ fx [200] [] s s' ∧ Bg (gA s' 200) 0 6 V' ∧ k' ≤ k ∧ V = V' * 5 ^ (k - k') ∧ (k' = 0 ∨ V' % 5 ≠ 0) := by
  intro k
  induction k with
  | zero =>
    intro _ s V hN hV
    exact ⟨0, s, V, lp_r (by dsimp only; unfold x2_putThousandths_13_B75; rw [if_pos (show jn 0 ≤ 0 by decide)]), fx.rfl, hV, Nat.le_refl _, (Nat.mul_one V).symm, Or.inl rfl⟩
  | succ k ih =>
    intro hk s V hN hV
    have q : ¬ jn (k + 1) ≤ 0 := fun e => by have := (jn_le (b := 0) (by omega) (by omega)).mp e; omega
    have r := rem200_eq hN hV (show 0 < 5 by omega) (show 5 ≤ 1000 by omega)
    by_cases c : V % 5 = 0
    · obtain ⟨s1, a1, a2, a3⟩ := div200_eq hN hV (show 0 < 5 by omega) (show 5 ≤ 1000 by omega)
      obtain ⟨k', s', V', b1, b2, b3, b4, b5, b6⟩ := ih (by omega) s1 _ ((a2.2 200 rfl).trans hN) a3
      refine ⟨k', s', V', (lp_l ?_).trans b1, a2.trans b2, b3, by omega, ?_, b6⟩
      · dsimp only
        unfold x2_putThousandths_13_B75
        rw [if_neg q, show (5 : Int32) = jn 5 from rfl, r, bs, c, if_pos (show jn 0 = 0 from rfl), a1, bs]
        have : jn (k + 1) + -1 = jn k := by
          rw [show jn (k + 1) = jn k + 1 from (jn_add k 1).symm, Int32.add_assoc]
          exact Int32.add_zero _
        simp only [nm, this]
      · have e : V = V / 5 * 5 := by omega
        rw [e, b5, show k + 1 - k' = (k - k') + 1 by omega, Nat.pow_succ, Nat.mul_assoc]
    · refine ⟨k + 1, s, V, lp_r ?_, fx.rfl, hV, Nat.le_refl _, ?_, Or.inr c⟩
      · dsimp only
        unfold x2_putThousandths_13_B75
        rw [if_neg q, show (5 : Int32) = jn 5 from rfl, r, bs, if_neg (jn_nz c (by omega))]
      · rw [Nat.sub_self, Nat.pow_zero, Nat.mul_one]
theorem up2_13_eq {k K : Nat} (hk : k ≤ 1000) {t : St} {B : Nat} (hN : gN t 201 = 6) (hB : Bg (gA t 201) 0 6 B) (hl : B * 2 ^ k < Bp 6) : ∃ t', lp (fun x : Int32 × St => x2_putThousandths_13_B123 (jn k) (jn K) x.1 x.2) ((0 : Int32), t) = some t' ∧ fx [201] [] t t' ∧ Bg (gA t' 201) 0 6 (B * 2 ^ k) := by
  have L := lp_cnt (b := fun x : Int32 × St => x2_putThousandths_13_B123 (jn k) (jn K) x.1 x.2) (fun i s => (jn i, s)) k
    (fun i s => fx [201] [] t s ∧ Bg (gA s 201) 0 6 (B * 2 ^ i)) (fun s => fx [201] [] t s ∧ Bg (gA s 201) 0 6 (B * 2 ^ k)) (by
      rintro i s hi ⟨w1, w2⟩
      have up : B * 2 ^ i * 2 ≤ B * 2 ^ k := by
        rw [Nat.mul_assoc, ← Nat.pow_succ]
        exact Nat.mul_le_mul_left _ (Nat.pow_le_pow_right (by omega) hi)
      obtain ⟨s', c1, c2, c3⟩ := multiply201_eq (t := s) (a := 0) (n := 6) (v := 2) (by rw [w1.2 201 rfl, hN]; omega) (by rw [w1.2 201 rfl, hN]; omega) (by omega) w2 (by omega)
      refine ⟨s', ?_, w1.trans c2.1, by rw [Nat.pow_succ, ← Nat.mul_assoc]; exact c3⟩
      dsimp only
      unfold x2_putThousandths_13_B123
      rw [if_neg (nle hi (by omega)), show (0 : Int32) = jn 0 from rfl, show (6 : Int32) = jn 6 from rfl, show (2 : Int32) = jn 2 from rfl, c1, bs]
      simp only [nm, jn_s]) (by
      rintro s hs
      exact ⟨s, by dsimp only; unfold x2_putThousandths_13_B123; rw [if_pos (lee (by omega))], hs⟩) 0 t (Nat.zero_le _) ⟨fx.rfl, by rw [Nat.pow_zero, Nat.mul_one]; exact hB⟩
  exact L
theorem up5_13_eq {k K : Nat} (hk : k ≤ 1000) {t : St} {B : Nat} (hN : gN t 201 = 6) (hB : Bg (gA t 201) 0 6 B) (hl : B * 5 ^ k < Bp 6) : ∃ t', lp (fun x : Int32 × St => x2_putThousandths_13_B150 (jn k) x.1 x.2) ((0 : Int32), t) = some t' ∧ fx [201] [] t t' ∧ Bg (gA t' 201) 0 6 (B * 5 ^ k) := by
  have L := lp_cnt (b := fun x : Int32 × St => x2_putThousandths_13_B150 (jn k) x.1 x.2) (fun i s => (jn i, s)) k
    (fun i s => fx [201] [] t s ∧ Bg (gA s 201) 0 6 (B * 5 ^ i)) (fun s => fx [201] [] t s ∧ Bg (gA s 201) 0 6 (B * 5 ^ k)) (by
      rintro i s hi ⟨w1, w2⟩
      have up : B * 5 ^ i * 5 ≤ B * 5 ^ k := by
        rw [Nat.mul_assoc, ← Nat.pow_succ]
        exact Nat.mul_le_mul_left _ (Nat.pow_le_pow_right (by omega) hi)
      obtain ⟨s', c1, c2, c3⟩ := multiply201_eq (t := s) (a := 0) (n := 6) (v := 5) (by rw [w1.2 201 rfl, hN]; omega) (by rw [w1.2 201 rfl, hN]; omega) (by omega) w2 (by omega)
      refine ⟨s', ?_, w1.trans c2.1, by rw [Nat.pow_succ, ← Nat.mul_assoc]; exact c3⟩
      dsimp only
      unfold x2_putThousandths_13_B150
      rw [if_neg (nle hi (by omega)), show (0 : Int32) = jn 0 from rfl, show (6 : Int32) = jn 6 from rfl, show (5 : Int32) = jn 5 from rfl, c1, bs]
      simp only [nm, jn_s]) (by
      rintro s hs
      exact ⟨s, by dsimp only; unfold x2_putThousandths_13_B150; rw [if_pos (lee (by omega))], hs⟩) 0 t (Nat.zero_le _) ⟨fx.rfl, by rw [Nat.pow_zero, Nat.mul_one]; exact hB⟩
  exact L
theorem th13_J {t : St} {V m : Nat} (h0 : gN t 200 = 6) (h1 : gN t 201 = 6) (hV : Bg (gA t 200) 0 6 V) (hm : m ≤ 16) : ∃ t' A B, x2_putThousandths_13_J39 t (jn (3 * m)) = some t' ∧ fx [200, 201] [] t t' ∧ Bg (gA t' 200) 0 6 A ∧ Bg (gA t' 201) 0 6 B ∧ A * 1000 ^ m = V * B ∧ Nat.Coprime A B ∧ 0 < B := by
  obtain ⟨k2, s2, V1, a1, a2, a3, a4, a5, a6⟩ := by2_13_eq (jn (3 * m)) (3 * m) (by omega) t V h0 hV
  obtain ⟨k5, s5, A, b1, b2, b3, b4, b5, b6⟩ := by5_13_eq (jn k2) (3 * m) (by omega) s2 V1 ((a2.2 200 rfl).trans h0) a3
  have n5 : gN s5 201 = 6 := (b2.2 201 rfl).trans ((a2.2 201 rfl).trans h1)
  obtain ⟨s6, c1, c2, c3⟩ := fill201_eq n5
  have le := th_le a4 b4 hm
  have lb : 2 ^ k2 * 5 ^ k5 < Bp 6 := Nat.lt_of_le_of_lt le (by decide +kernel)
  have p5 : 1 ≤ 5 ^ k5 := Nat.pow_pos (by omega)
  have p2 : 1 ≤ 2 ^ k2 := Nat.pow_pos (by omega)
  have l2 : 2 ^ k2 ≤ 2 ^ k2 * 5 ^ k5 := Nat.le_mul_of_pos_right _ p5
  have B1 : Bg (gA (sA s6 201 0 1) 201) 0 6 1 := by
    refine ⟨Nat.lt_of_lt_of_le (by decide : 1 < Bp 1) (Bp_le (by omega)), fun i hi => ?_⟩
    rw [gA_sA, show (0 : Int32).toNatClampNeg = 0 from rfl, Nat.zero_add, dgt_small (by omega)]
    by_cases c : i = 0
    · subst c; rw [upd_at, if_pos rfl]; rfl
    · rw [upd_ne c, if_neg c, c3 i hi]; rfl
  have n6 : gN (sA s6 201 0 1) 201 = 6 := (c2.2 201 rfl).trans n5
  obtain ⟨s7, d1, d2, d3⟩ := up2_13_eq (k := k2) (K := k5) (by omega) n6 B1 (by omega)
  obtain ⟨s8, e1, e2, e3⟩ := up5_13_eq (k := k5) (K := 0) (by omega) ((d2.2 201 rfl).trans n6) d3 (by rw [Nat.one_mul]; exact lb)
  rw [Nat.one_mul] at e3
  have f1 : fx [201] [] s5 s8 := c2.trans ((fx_sA rfl).trans (d2.trans e2))
  refine ⟨s8, A, 2 ^ k2 * 5 ^ k5, ?_, (a2.wk rfl rfl : fx [200, 201] [] t s2).trans ((b2.wk rfl rfl : fx [200, 201] [] s2 s5).trans (f1.wk rfl rfl)), b3.cong (fun j _ => congrFun (f1.1 200 rfl).2.2.1 _), e3, th_val a5 b5 a4 b4, cop_25 b5 a6 b6, Nat.mul_pos p2 p5⟩
  unfold x2_putThousandths_13_J39
  rw [a1, bs]
  dsimp only
  rw [b1, bs]
  dsimp only
  rw [c1, bs, c2.2 201 rfl, n5, show (0 : Int32) = jn 0 from rfl, gd_jn (by omega) (by omega)]
  simp only [nm]
  rw [show lp (fun x : Int32 × St => x2_putThousandths_13_B123 (jn k2) (jn k5) x.1 x.2) (jn 0, sA s6 201 (jn 0) 1) = some s7 from d1, bs, show lp (fun x : Int32 × St => x2_putThousandths_13_B150 (jn k5) x.1 x.2) (jn 0, s7) = some s8 from e1, bs]
theorem th13_eq {t : St} {a n V m : Nat} (hN : a + n ≤ gN t 13) (hB : gN t 13 ≤ 1000000) (hn : n ≤ 6) (h0 : gN t 200 = 6) (h1 : gN t 201 = 6) (hV : Bg (gA t 13) a n V) (hm : m ≤ 16) : ∃ t' A B, x2_putThousandths_13 t (jn a) (jn n) (jn m) = some t' ∧ fx [200, 201] [] t t' ∧ Bg (gA t' 200) 0 6 A ∧ Bg (gA t' 201) 0 6 B ∧ A * 1000 ^ m = V * B ∧ Nat.Coprime A B ∧ 0 < B := by
  obtain ⟨t1, a1, a2, a3⟩ := fill200_eq h0
  have e6 : (if (6 : Int32) < jn n then (6 : Int32) else jn n) = jn n := if_neg fun e => by
    have := (jn_lt (a := 6) (by omega) (by omega)).mp e
    omega
  generalize ht2 : sAr t1 200 (va_cpy (gA t1 13) (gA t1 200) (jn a).toNatClampNeg (0 : Int32).toNatClampNeg (jn n).toNatClampNeg) = t2
  have f2 : fx [200] [] t t2 := by
    rw [← ht2]
    exact a2.trans (fx_sAr rfl)
  have V2 : Bg (gA t2 200) 0 6 V := by
    refine ⟨Nat.lt_of_lt_of_le hV.1 (Bp_le hn), fun i hi => ?_⟩
    rw [← ht2]
    show va_cpy (gA t1 13) (gA t1 200) (jn a).toNatClampNeg (0 : Int32).toNatClampNeg (jn n).toNatClampNeg (0 + i) = _
    unfold va_cpy
    rw [jn_cl (by omega), jn_cl (by omega), show (0 : Int32).toNatClampNeg = 0 from rfl, Nat.zero_add, Nat.zero_add, Nat.sub_zero, (a2.1 13 rfl).2.2.1]
    by_cases c : i < n
    · rw [if_pos ⟨Nat.zero_le _, c⟩]
      exact hV.2 i c
    · rw [if_neg (by omega), a3 i hi, dgt_of_lt (Nat.lt_of_lt_of_le hV.1 (Bp_le (by omega)))]
      rfl
  have n0 : gN t2 200 = 6 := (f2.2 200 rfl).trans h0
  have n1 : gN t2 201 = 6 := (f2.2 201 rfl).trans h1
  have z := zer200_eq n0 V2
  have pre : ∀ w t', (V = 0 → w = 0) → (V ≠ 0 → w = m) → x2_putThousandths_13_J39 t2 (jn (3 * w)) = some t' → x2_putThousandths_13 t (jn a) (jn n) (jn m) = some t' := fun w t' w1 w2 h => by
    unfold x2_putThousandths_13
    rw [show (0 : Int32) = 0 from rfl, a1, bs, e6]
    unfold cpk
    rw [if_neg]
    · simp only [nm]
      rw [ht2, z, bs]
      by_cases c : V = 0
      · rw [if_pos c, if_neg (show ¬ (1 : Int32) = 0 by decide)]
        rw [w1 c] at h
        exact h
      · rw [if_neg c, if_pos rfl]
        rw [w2 c] at h
        rw [show (3 : Int32) = jn 3 from rfl, jn_mul]
        exact h
    · rw [jn_cl (by omega), jn_cl (by omega), a2.2 13 rfl, a2.2 200 rfl, h0, show (0 : Int32).toNatClampNeg = 0 from rfl]
      rintro (e | e | e | e | e)
      · exact jn_neg (by omega) e
      · exact absurd e (by decide)
      · exact jn_neg (by omega) e
      · omega
      · omega
  by_cases c : V = 0
  · obtain ⟨t', A, B, k1, k2, k3, k4, k5, k6, k7⟩ := th13_J (m := 0) n0 n1 V2 (by omega)
    refine ⟨t', A, B, pre 0 t' (fun _ => rfl) (fun e => absurd c e) k1, (f2.wk rfl rfl : fx [200, 201] [] t t2).trans k2, k3, k4, ?_, k6, k7⟩
    rw [c, Nat.zero_mul, Nat.pow_zero, Nat.mul_one] at k5
    rw [k5, c, Nat.zero_mul, Nat.zero_mul]
  · obtain ⟨t', A, B, k1, k2, k3, k4, k5, k6, k7⟩ := th13_J (m := m) n0 n1 V2 hm
    exact ⟨t', A, B, pre m t' (fun e => absurd e c) (fun _ => rfl) k1, (f2.wk rfl rfl : fx [200, 201] [] t t2).trans k2, k3, k4, k5, k6, k7⟩
theorem by2_405_eq (w : Int32) : ∀ k, k ≤ 1000 → ∀ s V, gN s 200 = 6 → Bg (gA s 200) 0 6 V → ∃ k' s' V', lp (fun x : Int32 × St => x2_putThousandths_405_B45 w x.1 x.2) (jn k, s) = some (jn k', s') ∧ fx [200] [] s s' ∧ Bg (gA s' 200) 0 6 V' ∧ k' ≤ k ∧ V = V' * 2 ^ (k - k') ∧ (k' = 0 ∨ V' % 2 ≠ 0) := by
  intro k
  induction k with
  | zero =>
    intro _ s V hN hV
    exact ⟨0, s, V, lp_r (by dsimp only; unfold x2_putThousandths_405_B45; rw [if_pos (show jn 0 ≤ 0 by decide)]), fx.rfl, hV, Nat.le_refl _, (Nat.mul_one V).symm, Or.inl rfl⟩
  | succ k ih =>
    intro hk s V hN hV
    have q : ¬ jn (k + 1) ≤ 0 := fun e => by have := (jn_le (b := 0) (by omega) (by omega)).mp e; omega
    have r := rem200_eq hN hV (show 0 < 2 by omega) (show 2 ≤ 1000 by omega)
    by_cases c : V % 2 = 0
    · obtain ⟨s1, a1, a2, a3⟩ := div200_eq hN hV (show 0 < 2 by omega) (show 2 ≤ 1000 by omega)
      obtain ⟨k', s', V', b1, b2, b3, b4, b5, b6⟩ := ih (by omega) s1 _ ((a2.2 200 rfl).trans hN) a3
      refine ⟨k', s', V', (lp_l ?_).trans b1, a2.trans b2, b3, by omega, ?_, b6⟩
      · dsimp only
        unfold x2_putThousandths_405_B45
        rw [if_neg q, show (2 : Int32) = jn 2 from rfl, r, bs, c, if_pos (show jn 0 = 0 from rfl), a1, bs]
        have : jn (k + 1) + -1 = jn k := by
          rw [show jn (k + 1) = jn k + 1 from (jn_add k 1).symm, Int32.add_assoc]
          exact Int32.add_zero _
        simp only [nm, this]
      · have e : V = V / 2 * 2 := by omega
        rw [e, b5, show k + 1 - k' = (k - k') + 1 by omega, Nat.pow_succ, Nat.mul_assoc]
    · refine ⟨k + 1, s, V, lp_r ?_, fx.rfl, hV, Nat.le_refl _, ?_, Or.inr c⟩
      · dsimp only
        unfold x2_putThousandths_405_B45
        rw [if_neg q, show (2 : Int32) = jn 2 from rfl, r, bs, if_neg (jn_nz c (by omega))]
      · rw [Nat.sub_self, Nat.pow_zero, Nat.mul_one]
theorem by5_405_eq (w : Int32) : ∀ k, k ≤ 1000 → ∀ s V, gN s 200 = 6 → Bg (gA s 200) 0 6 V → ∃ k' s' V', lp (fun x : Int32 × St => x2_putThousandths_405_B75 w x.1 x.2) (jn k, s) = some (jn k', s') ∧ fx [200] [] s s' ∧ Bg (gA s' 200) 0 6 V' ∧ k' ≤ k ∧ V = V' * 5 ^ (k - k') ∧ (k' = 0 ∨ V' % 5 ≠ 0) := by
  intro k
  induction k with
  | zero =>
    intro _ s V hN hV
    exact ⟨0, s, V, lp_r (by dsimp only; unfold x2_putThousandths_405_B75; rw [if_pos (show jn 0 ≤ 0 by decide)]), fx.rfl, hV, Nat.le_refl _, (Nat.mul_one V).symm, Or.inl rfl⟩
  | succ k ih =>
    intro hk s V hN hV
    have q : ¬ jn (k + 1) ≤ 0 := fun e => by have := (jn_le (b := 0) (by omega) (by omega)).mp e; omega
    have r := rem200_eq hN hV (show 0 < 5 by omega) (show 5 ≤ 1000 by omega)
    by_cases c : V % 5 = 0
    · obtain ⟨s1, a1, a2, a3⟩ := div200_eq hN hV (show 0 < 5 by omega) (show 5 ≤ 1000 by omega)
      obtain ⟨k', s', V', b1, b2, b3, b4, b5, b6⟩ := ih (by omega) s1 _ ((a2.2 200 rfl).trans hN) a3
      refine ⟨k', s', V', (lp_l ?_).trans b1, a2.trans b2, b3, by omega, ?_, b6⟩
      · dsimp only
        unfold x2_putThousandths_405_B75
        rw [if_neg q, show (5 : Int32) = jn 5 from rfl, r, bs, c, if_pos (show jn 0 = 0 from rfl), a1, bs]
        have : jn (k + 1) + -1 = jn k := by
          rw [show jn (k + 1) = jn k + 1 from (jn_add k 1).symm, Int32.add_assoc]
          exact Int32.add_zero _
        simp only [nm, this]
      · have e : V = V / 5 * 5 := by omega
        rw [e, b5, show k + 1 - k' = (k - k') + 1 by omega, Nat.pow_succ, Nat.mul_assoc]
    · refine ⟨k + 1, s, V, lp_r ?_, fx.rfl, hV, Nat.le_refl _, ?_, Or.inr c⟩
      · dsimp only
        unfold x2_putThousandths_405_B75
        rw [if_neg q, show (5 : Int32) = jn 5 from rfl, r, bs, if_neg (jn_nz c (by omega))]
      · rw [Nat.sub_self, Nat.pow_zero, Nat.mul_one]
theorem up2_405_eq {k K : Nat} (hk : k ≤ 1000) {t : St} {B : Nat} (hN : gN t 201 = 6) (hB : Bg (gA t 201) 0 6 B) (hl : B * 2 ^ k < Bp 6) : ∃ t', lp (fun x : Int32 × St => x2_putThousandths_405_B123 (jn k) (jn K) x.1 x.2) ((0 : Int32), t) = some t' ∧ fx [201] [] t t' ∧ Bg (gA t' 201) 0 6 (B * 2 ^ k) := by
  have L := lp_cnt (b := fun x : Int32 × St => x2_putThousandths_405_B123 (jn k) (jn K) x.1 x.2) (fun i s => (jn i, s)) k
    (fun i s => fx [201] [] t s ∧ Bg (gA s 201) 0 6 (B * 2 ^ i)) (fun s => fx [201] [] t s ∧ Bg (gA s 201) 0 6 (B * 2 ^ k)) (by
      rintro i s hi ⟨w1, w2⟩
      have up : B * 2 ^ i * 2 ≤ B * 2 ^ k := by
        rw [Nat.mul_assoc, ← Nat.pow_succ]
        exact Nat.mul_le_mul_left _ (Nat.pow_le_pow_right (by omega) hi)
      obtain ⟨s', c1, c2, c3⟩ := multiply201_eq (t := s) (a := 0) (n := 6) (v := 2) (by rw [w1.2 201 rfl, hN]; omega) (by rw [w1.2 201 rfl, hN]; omega) (by omega) w2 (by omega)
      refine ⟨s', ?_, w1.trans c2.1, by rw [Nat.pow_succ, ← Nat.mul_assoc]; exact c3⟩
      dsimp only
      unfold x2_putThousandths_405_B123
      rw [if_neg (nle hi (by omega)), show (0 : Int32) = jn 0 from rfl, show (6 : Int32) = jn 6 from rfl, show (2 : Int32) = jn 2 from rfl, c1, bs]
      simp only [nm, jn_s]) (by
      rintro s hs
      exact ⟨s, by dsimp only; unfold x2_putThousandths_405_B123; rw [if_pos (lee (by omega))], hs⟩) 0 t (Nat.zero_le _) ⟨fx.rfl, by rw [Nat.pow_zero, Nat.mul_one]; exact hB⟩
  exact L
theorem up5_405_eq {k K : Nat} (hk : k ≤ 1000) {t : St} {B : Nat} (hN : gN t 201 = 6) (hB : Bg (gA t 201) 0 6 B) (hl : B * 5 ^ k < Bp 6) : ∃ t', lp (fun x : Int32 × St => x2_putThousandths_405_B150 (jn k) x.1 x.2) ((0 : Int32), t) = some t' ∧ fx [201] [] t t' ∧ Bg (gA t' 201) 0 6 (B * 5 ^ k) := by
  have L := lp_cnt (b := fun x : Int32 × St => x2_putThousandths_405_B150 (jn k) x.1 x.2) (fun i s => (jn i, s)) k
    (fun i s => fx [201] [] t s ∧ Bg (gA s 201) 0 6 (B * 5 ^ i)) (fun s => fx [201] [] t s ∧ Bg (gA s 201) 0 6 (B * 5 ^ k)) (by
      rintro i s hi ⟨w1, w2⟩
      have up : B * 5 ^ i * 5 ≤ B * 5 ^ k := by
        rw [Nat.mul_assoc, ← Nat.pow_succ]
        exact Nat.mul_le_mul_left _ (Nat.pow_le_pow_right (by omega) hi)
      obtain ⟨s', c1, c2, c3⟩ := multiply201_eq (t := s) (a := 0) (n := 6) (v := 5) (by rw [w1.2 201 rfl, hN]; omega) (by rw [w1.2 201 rfl, hN]; omega) (by omega) w2 (by omega)
      refine ⟨s', ?_, w1.trans c2.1, by rw [Nat.pow_succ, ← Nat.mul_assoc]; exact c3⟩
      dsimp only
      unfold x2_putThousandths_405_B150
      rw [if_neg (nle hi (by omega)), show (0 : Int32) = jn 0 from rfl, show (6 : Int32) = jn 6 from rfl, show (5 : Int32) = jn 5 from rfl, c1, bs]
      simp only [nm, jn_s]) (by
      rintro s hs
      exact ⟨s, by dsimp only; unfold x2_putThousandths_405_B150; rw [if_pos (lee (by omega))], hs⟩) 0 t (Nat.zero_le _) ⟨fx.rfl, by rw [Nat.pow_zero, Nat.mul_one]; exact hB⟩
  exact L
theorem th405_J {t : St} {V m : Nat} (h0 : gN t 200 = 6) (h1 : gN t 201 = 6) (hV : Bg (gA t 200) 0 6 V) (hm : m ≤ 16) : ∃ t' A B, x2_putThousandths_405_J39 t (jn (3 * m)) = some t' ∧ fx [200, 201] [] t t' ∧ Bg (gA t' 200) 0 6 A ∧ Bg (gA t' 201) 0 6 B ∧ A * 1000 ^ m = V * B ∧ Nat.Coprime A B ∧ 0 < B := by
  obtain ⟨k2, s2, V1, a1, a2, a3, a4, a5, a6⟩ := by2_405_eq (jn (3 * m)) (3 * m) (by omega) t V h0 hV
  obtain ⟨k5, s5, A, b1, b2, b3, b4, b5, b6⟩ := by5_405_eq (jn k2) (3 * m) (by omega) s2 V1 ((a2.2 200 rfl).trans h0) a3
  have n5 : gN s5 201 = 6 := (b2.2 201 rfl).trans ((a2.2 201 rfl).trans h1)
  obtain ⟨s6, c1, c2, c3⟩ := fill201_eq n5
  have le := th_le a4 b4 hm
  have lb : 2 ^ k2 * 5 ^ k5 < Bp 6 := Nat.lt_of_le_of_lt le (by decide +kernel)
  have p5 : 1 ≤ 5 ^ k5 := Nat.pow_pos (by omega)
  have p2 : 1 ≤ 2 ^ k2 := Nat.pow_pos (by omega)
  have l2 : 2 ^ k2 ≤ 2 ^ k2 * 5 ^ k5 := Nat.le_mul_of_pos_right _ p5
  have B1 : Bg (gA (sA s6 201 0 1) 201) 0 6 1 := by
    refine ⟨Nat.lt_of_lt_of_le (by decide : 1 < Bp 1) (Bp_le (by omega)), fun i hi => ?_⟩
    rw [gA_sA, show (0 : Int32).toNatClampNeg = 0 from rfl, Nat.zero_add, dgt_small (by omega)]
    by_cases c : i = 0
    · subst c; rw [upd_at, if_pos rfl]; rfl
    · rw [upd_ne c, if_neg c, c3 i hi]; rfl
  have n6 : gN (sA s6 201 0 1) 201 = 6 := (c2.2 201 rfl).trans n5
  obtain ⟨s7, d1, d2, d3⟩ := up2_405_eq (k := k2) (K := k5) (by omega) n6 B1 (by omega)
  obtain ⟨s8, e1, e2, e3⟩ := up5_405_eq (k := k5) (K := 0) (by omega) ((d2.2 201 rfl).trans n6) d3 (by rw [Nat.one_mul]; exact lb)
  rw [Nat.one_mul] at e3
  have f1 : fx [201] [] s5 s8 := c2.trans ((fx_sA rfl).trans (d2.trans e2))
  refine ⟨s8, A, 2 ^ k2 * 5 ^ k5, ?_, (a2.wk rfl rfl : fx [200, 201] [] t s2).trans ((b2.wk rfl rfl : fx [200, 201] [] s2 s5).trans (f1.wk rfl rfl)), b3.cong (fun j _ => congrFun (f1.1 200 rfl).2.2.1 _), e3, th_val a5 b5 a4 b4, cop_25 b5 a6 b6, Nat.mul_pos p2 p5⟩
  unfold x2_putThousandths_405_J39
  rw [a1, bs]
  dsimp only
  rw [b1, bs]
  dsimp only
  rw [c1, bs, c2.2 201 rfl, n5, show (0 : Int32) = jn 0 from rfl, gd_jn (by omega) (by omega)]
  simp only [nm]
  rw [show lp (fun x : Int32 × St => x2_putThousandths_405_B123 (jn k2) (jn k5) x.1 x.2) (jn 0, sA s6 201 (jn 0) 1) = some s7 from d1, bs, show lp (fun x : Int32 × St => x2_putThousandths_405_B150 (jn k5) x.1 x.2) (jn 0, s7) = some s8 from e1, bs]
theorem th405_eq {t : St} {a n V m : Nat} (hN : a + n ≤ gN t 405) (hB : gN t 405 ≤ 1000000) (hn : n ≤ 6) (h0 : gN t 200 = 6) (h1 : gN t 201 = 6) (hV : Bg (gA t 405) a n V) (hm : m ≤ 16) : ∃ t' A B, x2_putThousandths_405 t (jn a) (jn n) (jn m) = some t' ∧ fx [200, 201] [] t t' ∧ Bg (gA t' 200) 0 6 A ∧ Bg (gA t' 201) 0 6 B ∧ A * 1000 ^ m = V * B ∧ Nat.Coprime A B ∧ 0 < B := by
  obtain ⟨t1, a1, a2, a3⟩ := fill200_eq h0
  have e6 : (if (6 : Int32) < jn n then (6 : Int32) else jn n) = jn n := if_neg fun e => by
    have := (jn_lt (a := 6) (by omega) (by omega)).mp e
    omega
  generalize ht2 : sAr t1 200 (va_cpy (gA t1 405) (gA t1 200) (jn a).toNatClampNeg (0 : Int32).toNatClampNeg (jn n).toNatClampNeg) = t2
  have f2 : fx [200] [] t t2 := by
    rw [← ht2]
    exact a2.trans (fx_sAr rfl)
  have V2 : Bg (gA t2 200) 0 6 V := by
    refine ⟨Nat.lt_of_lt_of_le hV.1 (Bp_le hn), fun i hi => ?_⟩
    rw [← ht2]
    show va_cpy (gA t1 405) (gA t1 200) (jn a).toNatClampNeg (0 : Int32).toNatClampNeg (jn n).toNatClampNeg (0 + i) = _
    unfold va_cpy
    rw [jn_cl (by omega), jn_cl (by omega), show (0 : Int32).toNatClampNeg = 0 from rfl, Nat.zero_add, Nat.zero_add, Nat.sub_zero, (a2.1 405 rfl).2.2.1]
    by_cases c : i < n
    · rw [if_pos ⟨Nat.zero_le _, c⟩]
      exact hV.2 i c
    · rw [if_neg (by omega), a3 i hi, dgt_of_lt (Nat.lt_of_lt_of_le hV.1 (Bp_le (by omega)))]
      rfl
  have n0 : gN t2 200 = 6 := (f2.2 200 rfl).trans h0
  have n1 : gN t2 201 = 6 := (f2.2 201 rfl).trans h1
  have z := zer200_eq n0 V2
  have pre : ∀ w t', (V = 0 → w = 0) → (V ≠ 0 → w = m) → x2_putThousandths_405_J39 t2 (jn (3 * w)) = some t' → x2_putThousandths_405 t (jn a) (jn n) (jn m) = some t' := fun w t' w1 w2 h => by
    unfold x2_putThousandths_405
    rw [show (0 : Int32) = 0 from rfl, a1, bs, e6]
    unfold cpk
    rw [if_neg]
    · simp only [nm]
      rw [ht2, z, bs]
      by_cases c : V = 0
      · rw [if_pos c, if_neg (show ¬ (1 : Int32) = 0 by decide)]
        rw [w1 c] at h
        exact h
      · rw [if_neg c, if_pos rfl]
        rw [w2 c] at h
        rw [show (3 : Int32) = jn 3 from rfl, jn_mul]
        exact h
    · rw [jn_cl (by omega), jn_cl (by omega), a2.2 405 rfl, a2.2 200 rfl, h0, show (0 : Int32).toNatClampNeg = 0 from rfl]
      rintro (e | e | e | e | e)
      · exact jn_neg (by omega) e
      · exact absurd e (by decide)
      · exact jn_neg (by omega) e
      · omega
      · omega
  by_cases c : V = 0
  · obtain ⟨t', A, B, k1, k2, k3, k4, k5, k6, k7⟩ := th405_J (m := 0) n0 n1 V2 (by omega)
    refine ⟨t', A, B, pre 0 t' (fun _ => rfl) (fun e => absurd c e) k1, (f2.wk rfl rfl : fx [200, 201] [] t t2).trans k2, k3, k4, ?_, k6, k7⟩
    rw [c, Nat.zero_mul, Nat.pow_zero, Nat.mul_one] at k5
    rw [k5, c, Nat.zero_mul, Nat.zero_mul]
  · obtain ⟨t', A, B, k1, k2, k3, k4, k5, k6, k7⟩ := th405_J (m := m) n0 n1 V2 hm
    exact ⟨t', A, B, pre m t' (fun e => absurd e c) (fun _ => rfl) k1, (f2.wk rfl rfl : fx [200, 201] [] t t2).trans k2, k3, k4, k5, k6, k7⟩
