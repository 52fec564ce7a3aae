/-! Chances, on the reference's side. -/
theorem getD_mapN {H : Nat} {N : List (Nat × Nat × Nat)} {i : Nat} (hi : i < N.length) : (N.map (oN H)).getD i (0, 0, 0) = oN H (N.getD i (0, 0, 0)) := by
  rw [List.getD_eq_getElem?_getD, List.getD_eq_getElem?_getD, List.getElem?_map, List.getElem?_eq_getElem hi]
  rfl
theorem nm_lv {t : St} {H : Nat} {N : List (Nat × Nat × Nat)} (hN : NM t (N.map (oN H))) (h9 : ∀ i, i < 2 → gA t 39 i = jn 16) {x : Nat} (hx : x < N.length + 2) : gA t 39 x = jn (lv6 H N x) := by
  unfold lv6
  by_cases c : x < 2
  · rw [if_pos c]; exact h9 x c
  · rw [if_neg c]
    have := (hN.2 (x - 2) (by rw [List.length_map]; omega)).1
    rw [show x - 2 + 2 = x by omega, getD_mapN (by omega)] at this
    exact this
theorem brings_eq {t : St} {x node R l from_ : Nat} (hx : x ≤ 4507) (hn : node ≤ 4507) (hne : node ≠ x) (hR : BM t node R) (hl : gA t 39 node = jn l) (h1 : from_ ≤ l) (h2 : l ≤ 16) (hb : R * 1000 ^ (l - from_) < Bp 7) : ∃ t', m_brings t (jn x) (jn node) (jn from_) = some t' ∧ Sl [x] t t' ∧ BM t' x (R * 1000 ^ (l - from_)) := by
  obtain ⟨t1, a1, a2, a3⟩ := takes_eq hx hn hne hR
  have L := lp_cnt (b := fun z : Int32 × St => m_brings_B9 (jn x) (jn node) z.1 z.2) (fun i s => (jn (from_ + i), s)) (l - from_)
    (fun i s => Sl [x] t s ∧ BM s x (R * 1000 ^ i)) (fun s => Sl [x] t s ∧ BM s x (R * 1000 ^ (l - from_))) (by
      rintro i s hi ⟨w1, w2⟩
      have up : R * 1000 ^ i * 1000 ≤ R * 1000 ^ (l - from_) := by
        rw [Nat.mul_assoc, ← Nat.pow_succ]
        exact Nat.mul_le_mul_left _ (Nat.pow_le_pow_right (by omega) hi)
      obtain ⟨s', c1, c2, c3⟩ := times_eq (v := 1000) hx (Nat.le_refl _) w2 (by omega)
      refine ⟨s', ?_, w1.trans c2, by rw [Nat.pow_succ, ← Nat.mul_assoc]; exact c3⟩
      dsimp only
      unfold m_brings_B9
      rw [gd_jn (by omega) (by omega), jn_cl (by omega), (w1.1.1 39 rfl).2.2.1, hl, if_neg (nle (show from_ + i < l by omega) (by omega)), show (1000 : Int32) = jn 1000 from rfl, c1, bs]
      simp only [nm, jn_s]
      rfl) (by
      rintro s hs
      refine ⟨s, ?_, hs⟩
      dsimp only
      unfold m_brings_B9
      rw [gd_jn (by omega) (by omega), jn_cl (by omega), (hs.1.1.1 39 rfl).2.2.1, hl, show from_ + (l - from_) = l by omega, if_pos (lee (by omega))]) 0 t1 (Nat.zero_le _) ⟨a2, by rw [Nat.pow_zero, Nat.mul_one]; exact a3⟩
  obtain ⟨s, k, k1, k2⟩ := L
  refine ⟨s, ?_, k1, k2⟩
  unfold m_brings
  rw [a1, bs]
  rw [show lp (fun z : Int32 × St => m_brings_B9 (jn x) (jn node) z.1 z.2) (jn from_, t1) = some s from k, bs]
theorem rng_in {to z : Nat} (h : z < 402 ∨ z = 4502 ∨ z = to) : z ∈ List.range 402 ++ [4502, to] := by
  rw [List.mem_append, List.mem_range]
  rcases h with e | e | e
  · exact Or.inl e
  · exact Or.inr (by rw [e]; simp)
  · exact Or.inr (by rw [e]; simp)
theorem rng_no {to z : Nat} (h1 : 402 ≤ z) (h2 : z ≠ 4502) (h3 : z ≠ to) : z ∉ List.range 402 ++ [4502, to] := by
  rw [List.mem_append, List.mem_range]
  simp
  omega
theorem chances_eq {t : St} {H top to : Nat} {N : List (Nat × Nat × Nat)} {u : Nat → Nat} (hN : NM t (N.map (oN H))) (h37 : gI t 37 = jn top) (h39 : ∀ i, i < 2 → gA t 39 i = jn 16) (hl : N.length ≤ 400) (hw : Wf N) (hwl : Wl N) (hm : ∀ i, i < N.length → (N.getD i (0, 0, 0)).1 < mN H) (htop : top < N.length + 2) (hu : ∀ s, s < 16 → u s ≤ 1000 ∧ gA t 43 s = jn (u s)) (hto : 402 ≤ to) (hto2 : to ≤ 4507) (hto3 : to ≠ 4502) : ∃ t' T, m_chances t (jn to) = some t' ∧ Sl (List.range 402 ++ [4502, to]) t t' ∧ BM t' to T ∧ T * 1000 ^ mN H = nv N (fun r => u (odr H r)) (mN H) N.length top * 1000 ^ 16 ∧ T ≤ 1000 ^ 16 := by
  have hp : ∀ r, r < mN H → (fun r => u (odr H r)) r ≤ 1000 := fun r hr => (hu _ (odr_ok hr).1).1
  have ok := nv_ok hw hwl hm hp
  have b16 := p16
  generalize hM : mN H = m at *
  obtain ⟨t1, a1, a2, a3⟩ := puts_eq (t := t) (x := 0) (v := 0) (by omega) (by omega)
  obtain ⟨t2, b1, b2, b3⟩ := puts_eq (t := t1) (x := 1) (v := 1) (by omega) (by omega)
  have s02 : Sl (List.range 402 ++ [4502, to]) t t2 := (a2.wk (fun z hz => rng_in (by rw [List.mem_singleton.mp hz]; omega))).trans (b2.wk (fun z hz => rng_in (by rw [List.mem_singleton.mp hz]; omega)))
  have L := lp_cnt (b := fun z : Int32 × St => m_chances_B14 (jn to) z.1 z.2) (fun i s => (jn (i + 2), s)) N.length
    (fun i s => Sl (List.range 402 ++ [4502, to]) t s ∧ ∀ x, x < i + 2 → ∃ R, BM s x R ∧ R * 1000 ^ lv6 H N x * 1000 ^ m = nv N (fun r => u (odr H r)) m i x * 1000 ^ 16)
    (fun s => Sl (List.range 402 ++ [4502, to]) t s ∧ ∀ x, x < N.length + 2 → ∃ R, BM s x R ∧ R * 1000 ^ lv6 H N x * 1000 ^ m = nv N (fun r => u (odr H r)) m N.length x * 1000 ^ 16) (by
      rintro i s hi ⟨w1, w2⟩
      obtain ⟨v1, v2, v3⟩ := hN.2 i (by rw [List.length_map]; exact hi)
      rw [getD_mapN hi] at v1 v2 v3
      obtain ⟨c1, c2, -⟩ := hw i hi
      have mi := hm i hi
      have lu := lvl_up hw hwl hm hi
      have cx := nv_x hw hwl hm hp hi
      have e36 : gI s 36 = jn (N.length + 2) := by rw [(w1.1.1 36 rfl).1, hN.1, List.length_map]
      have v1' : gA s 39 (i + 2) = jn (odr H (N.getD i (0, 0, 0)).1) := by rw [(w1.1.1 39 rfl).2.2.1]; exact v1
      have v2' : gA s 40 (i + 2) = jn (N.getD i (0, 0, 0)).2.1 := by rw [(w1.1.1 40 rfl).2.2.1]; exact v2
      have v3' : gA s 41 (i + 2) = jn (N.getD i (0, 0, 0)).2.2 := by rw [(w1.1.1 41 rfl).2.2.1]; exact v3
      have l6 : lv6 H N (i + 2) = odr H (N.getD i (0, 0, 0)).1 := by
        unfold lv6; rw [if_neg (by omega), Nat.add_sub_cancel]
      obtain ⟨Ra, ra1, ra2⟩ := w2 _ c1
      obtain ⟨Rb, rb1, rb2⟩ := w2 _ c2
      have okA := (ok i (by omega) _ c1).1
      have okB := (ok i (by omega) _ c2).1
      have g39a : gA s 39 (N.getD i (0, 0, 0)).2.1 = jn (lv6 H N (N.getD i (0, 0, 0)).2.1) := by rw [(w1.1.1 39 rfl).2.2.1]; exact nm_lv hN h39 (by omega)
      have g39b : gA s 39 (N.getD i (0, 0, 0)).2.2 = jn (lv6 H N (N.getD i (0, 0, 0)).2.2) := by rw [(w1.1.1 39 rfl).2.2.1]; exact nm_lv hN h39 (by omega)
      have l6a := lv6_up (H := H) (x := (N.getD i (0, 0, 0)).2.1) (r := (N.getD i (0, 0, 0)).1) (by rw [hM]; exact hm) (by omega) (by omega) (by rw [hM]; exact lu.1)
      have l6b := lv6_up (H := H) (x := (N.getD i (0, 0, 0)).2.2) (r := (N.getD i (0, 0, 0)).1) (by rw [hM]; exact hm) (by omega) (by omega) (by rw [hM]; exact lu.2)
      have s16 : odr H (N.getD i (0, 0, 0)).1 < 16 := (odr_ok (show (N.getD i (0, 0, 0)).1 < mN H by omega)).1
      obtain ⟨us1, us2⟩ := hu _ s16
      generalize hr : (N.getD i (0, 0, 0)).1 = r at *
      generalize hA : (N.getD i (0, 0, 0)).2.1 = a at *
      generalize hB : (N.getD i (0, 0, 0)).2.2 = b at *
      generalize hS : odr H r = S at *
      have Al := r_le ra2 okA
      have Bl := r_le rb2 okB
      have cutA : Ra * 1000 ^ (lv6 H N a - (S + 1)) ≤ 1000 ^ 16 := Nat.le_trans (Nat.mul_le_mul_left _ (Nat.pow_le_pow_right (by omega) (by omega))) Al
      have cutB : Rb * 1000 ^ (lv6 H N b - (S + 1)) ≤ 1000 ^ 16 := Nat.le_trans (Nat.mul_le_mul_left _ (Nat.pow_le_pow_right (by omega) (by omega))) Bl
      have rs := r_step ra2 rb2 cx l6a.1 l6b.1
      have okN := (ok (i + 1) (by omega) (i + 2) (by omega)).1
      have RN := r_le rs okN
      have RN' : Ra * 1000 ^ (lv6 H N a - (S + 1)) * (1000 - u S) + Rb * 1000 ^ (lv6 H N b - (S + 1)) * u S ≤ 1000 ^ 16 := Nat.le_trans (Nat.le_mul_of_pos_right _ (Nat.pow_pos (by omega))) RN
      generalize hxA : Ra * 1000 ^ (lv6 H N a - (S + 1)) = xA at *
      generalize hxB : Rb * 1000 ^ (lv6 H N b - (S + 1)) = xB at *
      obtain ⟨s1, d1, d2, d3⟩ := brings_eq (x := i + 2) (node := a) (from_ := S + 1) (by omega) (by omega) (by omega) ra1 g39a l6a.1 l6a.2 (by omega)
      rw [hxA] at d3
      obtain ⟨s2, e1, e2, e3⟩ := times_eq (x := i + 2) (v := 1000 - u S) (by omega) (by omega) d3 (by
        have : xA * (1000 - u S) ≤ 1000 ^ 16 * 1000 := Nat.mul_le_mul cutA (by omega)
        omega)
      have rb1' := (rb1.sl1 d2 (show b ≠ i + 2 by omega)).sl1 e2 (by omega)
      obtain ⟨s3, f1, f2, f3⟩ := brings_eq (x := 4502) (node := b) (from_ := S + 1) (by omega) (by omega) (by omega) rb1' (by rw [(e2.1.1 39 rfl).2.2.1, (d2.1.1 39 rfl).2.2.1]; exact g39b) l6b.1 l6b.2 (by omega)
      rw [hxB] at f3
      obtain ⟨s4, g1, g2, g3⟩ := times_eq (x := 4502) (v := u S) (by omega) us1 f3 (by
        have : xB * u S ≤ 1000 ^ 16 * 1000 := Nat.mul_le_mul cutB us1
        omega)
      have e4 := (e3.sl1 f2 (show i + 2 ≠ 4502 by omega)).sl1 g2 (by omega)
      obtain ⟨s5, h1, h2, h3⟩ := adds_eq (x := i + 2) (y := 4502) (by omega) (by omega) (by omega) e4 g3 (by omega)
      have in2 : ∀ z, z ∈ [i + 2] → z ∈ List.range 402 ++ [4502, to] := fun z hz => rng_in (by rw [List.mem_singleton.mp hz]; omega)
      have in5 : ∀ z, z ∈ [4502] → z ∈ List.range 402 ++ [4502, to] := fun z hz => rng_in (by rw [List.mem_singleton.mp hz]; omega)
      refine ⟨s5, ?_, w1.trans ((d2.wk in2).trans ((e2.wk in2).trans ((f2.wk in5).trans ((g2.wk in5).trans (h2.wk in2))))), fun x hx => ?_⟩
      · have g43 : ∀ q : St, fx [34] [] s q → gA q 43 S = jn (u S) := fun q hq => by rw [(hq.1 43 rfl).2.2.1, (w1.1.1 43 rfl).2.2.1]; exact us2
        have g41 : ∀ q : St, fx [34] [] s q → gA q 41 (i + 2) = jn b := fun q hq => by rw [(hq.1 41 rfl).2.2.1]; exact v3'
        dsimp only
        unfold m_chances_B14
        rw [e36, if_neg (nle (show i + 2 < N.length + 2 by omega) (by omega)), gd_jn (by omega) (by omega), jn_cl (by omega), v1']
        simp only [nm]
        rw [gd_jn (by omega) (by omega), v2', jn_s, d1, bs, gd_jn (by omega) (by omega), jn_cl (by omega), g43 s1 d2.1, show (1000 : Int32) = jn 1000 from rfl, jn_sub us1, e1, bs, gd_jn (by omega) (by omega), g41 s2 (d2.1.trans e2.1), show (4502 : Int32) = jn 4502 from rfl, f1, bs, gd_jn (by omega) (by omega), g43 s3 (d2.1.trans (e2.1.trans f2.1)), g1, bs, h1, bs, jn_s]
      · by_cases c : x = i + 2
        · subst c
          refine ⟨_, h3, ?_⟩
          rw [l6]
          exact rs
        · obtain ⟨R, q1, q2⟩ := w2 x (by omega)
          refine ⟨R, ((((q1.sl1 d2 c).sl1 e2 c).sl1 f2 (by omega)).sl1 g2 (by omega)).sl1 h2 c, ?_⟩
          rw [nv_s, if_neg c]
          exact q2) (by
      rintro s ⟨w1, w2⟩
      refine ⟨s, ?_, w1, w2⟩
      dsimp only
      unfold m_chances_B14
      rw [(w1.1.1 36 rfl).1, hN.1, List.length_map, if_pos (lee (by omega))]) 0 t2 (Nat.zero_le _) ⟨s02, fun x hx => by
        have z6 : lv6 H N x = 16 := if_pos (by omega)
        rw [z6]
        show ∃ R, BM t2 x R ∧ R * 1000 ^ 16 * 1000 ^ m = (if x = 1 then 1000 ^ m else 0) * 1000 ^ 16
        by_cases c : x = 1
        · subst c
          exact ⟨1, b3, by rw [if_pos rfl, Nat.one_mul, Nat.mul_comm]⟩
        · have : x = 0 := by omega
          subst this
          exact ⟨0, a3.sl1 b2 (by omega), by rw [if_neg c]; simp⟩⟩
  obtain ⟨s, k, k1, k2⟩ := L
  obtain ⟨R, q1, q2⟩ := k2 top htop
  have okT := (ok N.length (Nat.le_refl _) top htop).1
  have Rl := r_le q2 okT
  have l6 : lv6 H N top ≤ 16 := by
    unfold lv6
    by_cases c : top < 2
    · rw [if_pos c]; omega
    · rw [if_neg c]
      exact Nat.le_of_lt (odr_ok (by rw [hM]; exact hm _ (by omega))).1
  obtain ⟨s', e1, e2, e3⟩ := brings_eq (x := to) (node := top) (from_ := 0) hto2 (by omega) (by omega) q1 (by rw [(k1.1.1 39 rfl).2.2.1]; exact nm_lv hN h39 htop) (Nat.zero_le _) l6 (by rw [Nat.sub_zero]; omega)
  rw [Nat.sub_zero] at e3
  refine ⟨s', R * 1000 ^ lv6 H N top, ?_, k1.trans (e2.wk (fun z hz => rng_in (by rw [List.mem_singleton.mp hz]; omega))), e3, q2, Rl⟩
  unfold m_chances
  rw [show (0 : Int32) = jn 0 from rfl, a1, bs, show (1 : Int32) = jn 1 from rfl, b1, bs, show (2 : Int32) = jn (0 + 2) from rfl, k, bs, (k1.1.1 37 rfl).1, h37, e1, bs]
theorem wholes_eq {t : St} {x n : Nat} (hx : x ≤ 4507) (hn : n ≤ 16) : ∃ t', m_wholes t (jn x) (jn n) = some t' ∧ Sl [x] t t' ∧ BM t' x (1000 ^ n) := by
  have b16 := p16
  obtain ⟨t1, a1, a2, a3⟩ := puts_eq (t := t) (x := x) (v := 1) hx (by omega)
  have L := lp_cnt (b := fun z : Int32 × St => m_wholes_B8 (jn x) (jn n) z.1 z.2) (fun i s => (jn i, s)) n
    (fun i s => Sl [x] t s ∧ BM s x (1000 ^ i)) (fun s => Sl [x] t s ∧ BM s x (1000 ^ n)) (by
      rintro i s hi ⟨w1, w2⟩
      have up : 1000 ^ i * 1000 ≤ 1000 ^ 16 := by
        rw [← Nat.pow_succ]
        exact Nat.pow_le_pow_right (by omega) (by omega)
      obtain ⟨s', c1, c2, c3⟩ := times_eq (v := 1000) hx (Nat.le_refl _) w2 (Nat.lt_of_le_of_lt up (Nat.lt_of_le_of_lt (Nat.le_mul_of_pos_right _ (by omega)) b16))
      refine ⟨s', ?_, w1.trans c2, by rw [Nat.pow_succ]; exact c3⟩
      dsimp only
      unfold m_wholes_B8
      rw [if_neg (nle hi (by omega)), show (1000 : Int32) = jn 1000 from rfl, c1, bs]
      simp only [nm, jn_s]) (by
      rintro s hs
      exact ⟨s, by dsimp only; unfold m_wholes_B8; rw [if_pos (lee (by omega))], hs⟩) 0 t1 (Nat.zero_le _) ⟨a2, a3⟩
  obtain ⟨s, k, k1, k2⟩ := L
  refine ⟨s, ?_, k1, k2⟩
  unfold m_wholes
  rw [show (1 : Int32) = jn 1 from rfl, a1, bs]
  rw [show lp (fun z : Int32 × St => m_wholes_B8 (jn x) (jn n) z.1 z.2) ((0 : Int32), t1) = some s from k, bs]
theorem uses_eq {t : St} {never : Nat} (hn : never < 2147483648) : ∃ t', m_uses t (jn never) = some t' ∧ fx [43] [] t t' ∧ ∀ s, s < 16 → gA t' 43 s = if never.testBit s then 0 else gA t 2 s := by
  have L := lp_cnt (b := fun z : Int32 × St => m_uses_B2 (jn never) z.1 z.2) (fun i s => (jn i, s)) 16
    (fun i s => fx [43] [] t s ∧ ∀ j, j < i → gA s 43 j = if never.testBit j then 0 else gA t 2 j)
    (fun s => fx [43] [] t s ∧ ∀ j, j < 16 → gA s 43 j = if never.testBit j then 0 else gA t 2 j) (by
      rintro i s hi ⟨w1, w2⟩
      have J : ∀ w : Int32, m_uses_J32 s (jn never) (jn i) (jn i) w = some (.inl (jn (i + 1), sA s 43 (jn i) w)) := fun w => by
        unfold m_uses_J32
        rw [gd_jn (by omega) (by omega)]
        simp only [nm, jn_s]
      have put : ∀ w : Int32, w = (if never.testBit i then 0 else gA t 2 i) → fx [43] [] t (sA s 43 (jn i) w) ∧ ∀ j, j < i + 1 → gA (sA s 43 (jn i) w) 43 j = if never.testBit j then 0 else gA t 2 j := fun w hw => by
        refine ⟨w1.trans (fx_sA rfl), fun j hj => ?_⟩
        rw [gA_sA, jn_cl (by omega)]
        by_cases e : j = i
        · subst e; rw [upd_at, hw]
        · rw [upd_ne e]; exact w2 j (by omega)
      dsimp only
      unfold m_uses_B2
      rw [show (16 : Int32) = jn 16 from rfl, if_neg (nle hi (by omega)), jn_bit hn (by omega), J, gd_jn hi (by omega), J, jn_cl (by omega), (w1.1 2 rfl).2.2.1]
      cases hb : never.testBit i with
      | true =>
        rw [if_pos rfl, if_pos (show jn 1 = 1 from rfl)]
        exact ⟨_, rfl, put _ (by rw [hb, if_pos rfl])⟩
      | false =>
        rw [if_neg (show ¬ (false = true) by decide), if_neg (show ¬ jn 0 = 1 by decide)]
        exact ⟨_, rfl, put _ (by rw [hb, if_neg (by decide)])⟩) (by
      rintro s hs
      exact ⟨s, by dsimp only; unfold m_uses_B2; rw [if_pos (show (16 : Int32) ≤ jn 16 by decide)], hs⟩) 0 t (Nat.zero_le _) ⟨fx.rfl, fun j hj => absurd hj (Nat.not_lt_zero j)⟩
  obtain ⟨s, k, k1, k2⟩ := L
  refine ⟨s, ?_, k1, k2⟩
  unfold m_uses
  rw [show lp (fun z : Int32 × St => m_uses_B2 (jn never) z.1 z.2) ((0 : Int32), t) = some s from k, bs]
