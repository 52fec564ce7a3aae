/-! Numbers by their limbs, on the class's side. -/
theorem jl_mask {x : Nat} : jl x &&& (1073741823 : Int64) = jl (x % 1073741824) := by
  rw [show (1073741823 : Int64) = jl (2 ^ 30 - 1) from rfl, jl_and, Nat.and_two_pow_sub_one_eq_mod]
/-- a row has room for this place -/
theorem gd_at {α : Type} {a i n N : Nat} {x : Option α} (hi : i < n) (h : a + n ≤ N) (hN : N ≤ 1000000) : gd (jn a + jn i) N x = x := by
  rw [jn_add]; exact gd_jn (by omega) (by omega)
theorem at_cl {a i n N : Nat} (hi : i < n) (h : a + n ≤ N) (hN : N ≤ 1000000) : (jn a + jn i).toNatClampNeg = a + i := by
  rw [jn_add]; exact jn_cl (by omega)
theorem multiply12_eq {t : St} {a n V v : Nat} (hN : a + n ≤ gN t 12) (hB : gN t 12 ≤ 1000000) (hv : v ≤ 1000) (hV : Bg (gA t 12) a n V) (hs : V * v < Bp n) : ∃ t', x2_multiply_12 t (jn a) (jn n) (jn v) = some t' ∧ On 12 a n t t' ∧ Bg (gA t' 12) a n (V * v) := by
  have eR : v * V + 0 * 0 = V * v := by rw [Nat.mul_comm]; omega
  have l := lp_cnt (b := fun z : Int64 × Int32 × St => x2_multiply_12_B6 (jn a) (jn n) (jn v) z.1 z.2.1 z.2.2) (fun i s => (jl (cry v V 0 0 i), jn i, s)) n
    (fun i s => Wr 12 a (v * V + 0 * 0) i t s) (fun s => Wr 12 a (v * V + 0 * 0) n t s) (by
      rintro i s hi hw
      have d1 := dgt_lt V i
      have c1 := cry_le (a := v) (V := V) (b := 0) (W := 0) (i := i) (show v + 0 ≤ 1000 by omega)
      have cd := cry_dgt v V 0 0 i
      have cs := cry_s v V 0 0 i
      have m1 : v * dgt V i ≤ 1000 * dgt V i := Nat.mul_le_mul_right _ hv
      have e : jl (cry v V 0 0 i) + jl (dgt V i) * jl v = jl (cry v V 0 0 i + v * dgt V i + 0 * dgt 0 i) := by
        rw [jl_mul, jl_add, Nat.mul_comm (dgt V i)]; congr 1; omega
      dsimp only
      unfold x2_multiply_12_B6
      rw [if_neg (nle hi (by omega)), hw.1.2 12 rfl, gd_at hi hN hB, at_cl hi hN hB, hw.2.2 (a + i) (by omega), hV.2 i hi, jl_i (by omega), jl_i (by omega), e]
      simp only [nm]
      rw [gd_at hi hN hB, jl_mask, jl_shr (by omega), cd, ← cs, jl_to, jn_s, jn_add]
      exact ⟨_, rfl, hw.put (by omega) rfl⟩) (by
      rintro s hs
      exact ⟨s, by dsimp only; unfold x2_multiply_12_B6; rw [if_pos (lee (by omega))], hs⟩) 0 t (Nat.zero_le _) Wr.nil
  obtain ⟨s, k, k1⟩ := l
  rw [eR] at k1
  obtain ⟨o1, o2⟩ := k1.fin hs
  refine ⟨s, ?_, o1, o2⟩
  unfold x2_multiply_12
  have k' : lp (fun z : Int64 × Int32 × St => x2_multiply_12_B6 (jn a) (jn n) (jn v) z.1 z.2.1 z.2.2) (0, 0, t) = some s := by
    have := k
    rw [cry_0] at this
    exact this
  rw [k', bs]
theorem multiply201_eq {t : St} {a n V v : Nat} (hN : a + n ≤ gN t 201) (hB : gN t 201 ≤ 1000000) (hv : v ≤ 1000) (hV : Bg (gA t 201) a n V) (hs : V * v < Bp n) : ∃ t', x2_multiply_201 t (jn a) (jn n) (jn v) = some t' ∧ On 201 a n t t' ∧ Bg (gA t' 201) a n (V * v) := by
  have eR : v * V + 0 * 0 = V * v := by rw [Nat.mul_comm]; omega
  have l := lp_cnt (b := fun z : Int64 × Int32 × St => x2_multiply_201_B6 (jn a) (jn n) (jn v) z.1 z.2.1 z.2.2) (fun i s => (jl (cry v V 0 0 i), jn i, s)) n
    (fun i s => Wr 201 a (v * V + 0 * 0) i t s) (fun s => Wr 201 a (v * V + 0 * 0) n t s) (by
      rintro i s hi hw
      have d1 := dgt_lt V i
      have c1 := cry_le (a := v) (V := V) (b := 0) (W := 0) (i := i) (show v + 0 ≤ 1000 by omega)
      have cd := cry_dgt v V 0 0 i
      have cs := cry_s v V 0 0 i
      have m1 : v * dgt V i ≤ 1000 * dgt V i := Nat.mul_le_mul_right _ hv
      have e : jl (cry v V 0 0 i) + jl (dgt V i) * jl v = jl (cry v V 0 0 i + v * dgt V i + 0 * dgt 0 i) := by
        rw [jl_mul, jl_add, Nat.mul_comm (dgt V i)]; congr 1; omega
      dsimp only
      unfold x2_multiply_201_B6
      rw [if_neg (nle hi (by omega)), hw.1.2 201 rfl, gd_at hi hN hB, at_cl hi hN hB, hw.2.2 (a + i) (by omega), hV.2 i hi, jl_i (by omega), jl_i (by omega), e]
      simp only [nm]
      rw [gd_at hi hN hB, jl_mask, jl_shr (by omega), cd, ← cs, jl_to, jn_s, jn_add]
      exact ⟨_, rfl, hw.put (by omega) rfl⟩) (by
      rintro s hs
      exact ⟨s, by dsimp only; unfold x2_multiply_201_B6; rw [if_pos (lee (by omega))], hs⟩) 0 t (Nat.zero_le _) Wr.nil
  obtain ⟨s, k, k1⟩ := l
  rw [eR] at k1
  obtain ⟨o1, o2⟩ := k1.fin hs
  refine ⟨s, ?_, o1, o2⟩
  unfold x2_multiply_201
  have k' : lp (fun z : Int64 × Int32 × St => x2_multiply_201_B6 (jn a) (jn n) (jn v) z.1 z.2.1 z.2.2) (0, 0, t) = some s := by
    have := k
    rw [cry_0] at this
    exact this
  rw [k', bs]
theorem wipe12_eq {t : St} {a n : Nat} (hN : a + n ≤ gN t 12) (hB : gN t 12 ≤ 1000000) : ∃ t', x2_wipe_12 t (jn a) (jn n) = some t' ∧ On 12 a n t t' ∧ Bg (gA t' 12) a n 0 := by
  have l := lp_cnt (b := fun z : Int32 × St => x2_wipe_12_B2 (jn a) (jn n) z.1 z.2) (fun i s => (jn i, s)) n
    (fun i s => Wr 12 a 0 i t s) (fun s => Wr 12 a 0 n t s) (by
      rintro i s hi hw
      dsimp only
      unfold x2_wipe_12_B2
      rw [if_neg (nle hi (by omega)), hw.1.2 12 rfl, gd_at hi hN hB]
      simp only [nm, jn_s, jn_add]
      exact ⟨_, rfl, hw.put (by omega) (by rw [dgt_of_lt (Bp_pos i)]; rfl)⟩) (by
      rintro s hs
      exact ⟨s, by dsimp only; unfold x2_wipe_12_B2; rw [if_pos (lee (by omega))], hs⟩) 0 t (Nat.zero_le _) Wr.nil
  obtain ⟨s, k, k1⟩ := l
  obtain ⟨o1, o2⟩ := k1.fin (Bp_pos n)
  refine ⟨s, ?_, o1, o2⟩
  unfold x2_wipe_12
  rw [show lp (fun z : Int32 × St => x2_wipe_12_B2 (jn a) (jn n) z.1 z.2) ((0 : Int32), t) = some s from k, bs]
theorem On.trans {k a n : Nat} {t u v : St} (h : On k a n t u) (g : On k a n u v) : On k a n t v := ⟨h.1.trans g.1, fun j hj => (g.2 j hj).trans (h.2 j hj)⟩
theorem On.rfl {k a n : Nat} {t : St} : On k a n t t := ⟨fx.rfl, fun _ _ => Eq.refl _⟩
theorem putPower12_eq {t : St} {a n m : Nat} (h0 : 1 ≤ n) (hN : a + n ≤ gN t 12) (hB : gN t 12 ≤ 1000000) (hm : m ≤ 100) (hs : 1000 ^ m < Bp n) : ∃ t', x2_putPower_12 t (jn a) (jn n) (jn m) = some t' ∧ On 12 a n t t' ∧ Bg (gA t' 12) a n (1000 ^ m) := by
  obtain ⟨t1, a1, a2, a3⟩ := wipe12_eq hN hB
  generalize ht2 : sA t1 12 (jn a) 1 = t2
  have o2 : On 12 a n t1 t2 := by
    subst ht2
    refine ⟨fx_sA rfl, fun j hj => ?_⟩
    rw [gA_sA, jn_cl (by omega), upd_ne (by omega)]
  have b2 : Bg (gA t2 12) a n 1 := by
    refine ⟨Nat.lt_of_lt_of_le (by decide : 1 < Bp 1) (Bp_le h0), fun i hi => ?_⟩
    rw [← ht2, gA_sA, jn_cl (by omega), dgt_small (by omega)]
    by_cases c : i = 0
    · subst c; rw [Nat.add_zero, upd_at, if_pos rfl]; rfl
    · rw [upd_ne (by omega), if_neg c, a3.2 i hi, dgt_of_lt (Bp_pos i)]
  have l := lp_cnt (b := fun z : Int32 × St => x2_putPower_12_B13 (jn a) (jn n) (jn m) z.1 z.2) (fun i s => (jn i, s)) m
    (fun i s => On 12 a n t2 s ∧ Bg (gA s 12) a n (1000 ^ i)) (fun s => On 12 a n t2 s ∧ Bg (gA s 12) a n (1000 ^ m)) (by
      rintro i s hi ⟨w1, w2⟩
      have up : 1000 ^ i * 1000 ≤ 1000 ^ m := by
        rw [← Nat.pow_succ]
        exact Nat.pow_le_pow_right (by omega) (by omega)
      obtain ⟨s', c1, c2, c3⟩ := multiply12_eq (t := s) (v := 1000) (by rw [w1.1.2 12 rfl, o2.1.2 12 rfl, a2.1.2 12 rfl]; exact hN) (by rw [w1.1.2 12 rfl, o2.1.2 12 rfl, a2.1.2 12 rfl]; exact hB) (Nat.le_refl _) w2 (Nat.lt_of_le_of_lt up hs)
      refine ⟨s', ?_, w1.trans c2, by rw [Nat.pow_succ]; exact c3⟩
      dsimp only
      unfold x2_putPower_12_B13
      rw [if_neg (nle hi (by omega)), show (1000 : Int32) = jn 1000 from Eq.refl _, c1, bs]
      simp only [nm, jn_s]) (by
      rintro s hs
      exact ⟨s, by dsimp only; unfold x2_putPower_12_B13; rw [if_pos (lee (by omega))], hs⟩) 0 t2 (Nat.zero_le _) ⟨On.rfl, b2⟩
  obtain ⟨s, k, k1, k2⟩ := l
  refine ⟨s, ?_, a2.trans (o2.trans k1), k2⟩
  unfold x2_putPower_12
  rw [a1, bs, a2.1.2 12 (Eq.refl _), gd_jn (by omega) (by omega)]
  simp only [nm]
  rw [ht2, show lp (fun z : Int32 × St => x2_putPower_12_B13 (jn a) (jn n) (jn m) z.1 z.2) ((0 : Int32), t2) = some s from k, bs]
theorem blend12_eq {t : St} {a b c n p V W : Nat} (h0 : 1 ≤ n) (ha : a + n ≤ gN t 12) (hb : b + n ≤ gN t 12) (hc : c + n ≤ gN t 12) (hB : gN t 12 ≤ 1000000) (hp : p ≤ 1000) (hab : b = a ∨ b + n ≤ a ∨ a + n ≤ b) (hac : c = a ∨ c + n ≤ a ∨ a + n ≤ c) (hV : Bg (gA t 12) b n V) (hW : Bg (gA t 12) c n W) (hs : (p * V + (1000 - p) * W) / 1000 < Bp n) : ∃ t', x2_blend_12 t (jn a) (jn b) (jn c) (jn p) (jn n) = some t' ∧ On 12 a n t t' ∧ Bg (gA t' 12) a n ((p * V + (1000 - p) * W) / 1000) := by
  have q0 : p + (1000 - p) = 1000 := by omega
  have l := lp_cnt (b := fun z : Int64 × Int32 × St => x2_blend_12_B6 (jn a) (jn b) (jn c) (jn p) (jn n) z.1 z.2.1 z.2.2) (fun i s => (jl (cry p V (1000 - p) W i), jn i, s)) n
    (fun i s => Wr 12 a (p * V + (1000 - p) * W) i t s) (fun y => ∃ s, y = (jl (cry p V (1000 - p) W n), s) ∧ Wr 12 a (p * V + (1000 - p) * W) n t s) (by
      rintro i s hi hw
      have d1 := dgt_lt V i
      have d2 := dgt_lt W i
      have c1 := cry_le (V := V) (W := W) (i := i) (show p + (1000 - p) ≤ 1000 by omega)
      have cd := cry_dgt p V (1000 - p) W i
      have cs := cry_s p V (1000 - p) W i
      have m1 : p * dgt V i ≤ 1000 * dgt V i := Nat.mul_le_mul_right _ hp
      have m2 : (1000 - p) * dgt W i ≤ 1000 * dgt W i := Nat.mul_le_mul_right _ (by omega)
      have e : jl (cry p V (1000 - p) W i) + (jl p * jl (dgt V i) + jl (1000 - p) * jl (dgt W i)) = jl (cry p V (1000 - p) W i + p * dgt V i + (1000 - p) * dgt W i) := by
        rw [jl_mul, jl_mul, jl_add, jl_add, Nat.add_assoc]
      dsimp only
      unfold x2_blend_12_B6
      rw [if_neg (nle hi (by omega)), hw.1.2 12 rfl, gd_at hi hb hB, gd_at hi hc hB, at_cl hi hb hB, at_cl hi hc hB, hw.2.2 (b + i) (by omega), hw.2.2 (c + i) (by omega), hV.2 i hi, hW.2 i hi, show (1000 : Int32) - jn p = jn (1000 - p) from jn_sub (a := 1000) hp, jl_i (show p < 2147483648 by omega), jl_i (show dgt V i < 2147483648 by omega), jl_i (show 1000 - p < 2147483648 by omega), jl_i (show dgt W i < 2147483648 by omega), e]
      simp only [nm]
      rw [gd_at hi ha hB, jl_mask, jl_shr (by omega), cd, ← cs, jl_to, jn_s, jn_add]
      exact ⟨_, rfl, hw.put (by omega) rfl⟩) (by
      rintro s hs
      exact ⟨_, by dsimp only; unfold x2_blend_12_B6; rw [if_pos (lee (by omega))], s, rfl, hs⟩) 0 t (Nat.zero_le _) Wr.nil
  obtain ⟨y, k, s, rfl, k1⟩ := l
  rw [cry_0] at k
  have top : cry p V (1000 - p) W n = (p * V + (1000 - p) * W) / Bp n % 1000 := by
    rw [cry_top hV.1 hW.1, Nat.mod_eq_of_lt]
    refine (Nat.div_lt_iff_lt_mul (Bp_pos n)).mpr ?_
    have := (Nat.div_lt_iff_lt_mul (show 0 < 1000 by omega)).mp hs
    omega
  rw [top] at k
  generalize hR : p * V + (1000 - p) * W = R at *
  have ns : gN s 12 = gN t 12 := k1.1.2 12 rfl
  have l2 := lp_cnt (b := fun z : Int64 × Int32 × St => x2_blend_12_B77 (jn a) z.1 z.2.1 z.2.2) (fun i u => (jl (R / Bp (n - i) % 1000), dn (n - i), u)) n
    (fun i u => Wd 12 a n (R / 1000) (n - i) s u) (fun u => Wd 12 a n (R / 1000) 0 s u) (by
      rintro i u hi hw
      obtain ⟨j, hj⟩ : ∃ j, j = n - (i + 1) := ⟨_, rfl⟩
      have jl' : j < n := by omega
      have e1 : n - i = j + 1 := by omega
      rw [← hj]
      rw [e1] at hw ⊢
      have ed : dn (j + 1) = jn j := by
        unfold dn; rw [if_neg (by omega)]; rfl
      have d1 := dgt_lt R j
      have dd := dgt_div (V := R) (d := 1000) (i := j) (by omega)
      have c2 := Nat.mod_lt (R / Bp (j + 1)) (show 1000 > 0 by omega)
      dsimp only
      unfold x2_blend_12_B77
      rw [ed, if_neg (jn_neg (by omega)), hw.1.2 12 rfl, ns, gd_at jl' ha hB, at_cl jl' ha hB, hw.2.2 _ (by omega), k1.2.1 j jl', jl_shl, jl_i (by omega), jl_add]
      simp only [nm]
      rw [gd_at jl' ha hB, show (1000 : Int64) = jl 1000 from rfl, jl_rem (by omega) (by omega), jl_div (by omega) (by omega), dd.1, dd.2, jl_to, jn_add, dn_pred]
      exact ⟨_, rfl, hw.put (by omega) (by omega) rfl⟩) (by
      rintro u hu
      rw [Nat.sub_self] at *
      exact ⟨u, by dsimp only; unfold x2_blend_12_B77; rw [if_pos (show dn 0 < 0 by decide)], hu⟩) 0 s (Nat.zero_le _) Wd.nil
  obtain ⟨u, g, g1⟩ := l2
  rw [Nat.sub_zero] at g
  obtain ⟨o1, o2⟩ := g1.fin hs
  refine ⟨u, ?_, ⟨k1.1.trans o1.1, fun j hj => (o1.2 j hj).trans (k1.2.2 j hj)⟩, o2⟩
  have k' : lp (fun z : Int64 × Int32 × St => x2_blend_12_B6 (jn a) (jn b) (jn c) (jn p) (jn n) z.1 z.2.1 z.2.2) (0, 0, t) = some (jl (R / Bp n % 1000), s) := k
  unfold x2_blend_12
  rw [k', bs]
  simp only [nm]
  rw [show jn n - 1 = dn n from by
    rw [Int32.sub_eq_add_neg]; exact dn_pred n, g, bs]
