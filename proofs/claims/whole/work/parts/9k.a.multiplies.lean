/-! Products on the reference's side. -/
theorem cry_b (V b W i : Nat) : cry 1 V b W i ≤ b := by
  unfold cry
  have p := Bp_pos i
  have h1 := Nat.mod_lt V p
  have h2 := Nat.mod_lt W p
  have h3 : b * (W % Bp i) ≤ b * Bp i := Nat.mul_le_mul_left _ (Nat.le_of_lt h2)
  refine Nat.le_of_lt_succ ?_
  rw [Nat.div_lt_iff_lt_mul p]
  have e : (b + 1) * Bp i = b * Bp i + Bp i := Nat.succ_mul _ _
  show _ < (b + 1) * Bp i
  omega
theorem dgt_hi {X v W i k : Nat} : dgt (X + v * W * Bp i) (i + k) = dgt (1 * (X / Bp i) + v * W) k := by
  unfold dgt
  rw [Bp_add, ← Nat.div_div_eq_div_mul, Nat.add_mul_div_right _ _ (Bp_pos i), Nat.one_mul]
theorem dgt_up {X i k : Nat} : dgt X (i + k) = dgt (X / Bp i) k := by
  unfold dgt
  rw [Bp_add, ← Nat.div_div_eq_div_mul]
theorem dgt_lo {X v W i j : Nat} (h : j < i) : dgt (X + v * W * Bp i) j = dgt X j := by
  obtain ⟨d, rfl⟩ : ∃ d, i = j + (d + 1) := ⟨i - j - 1, by omega⟩
  unfold dgt
  rw [Bp_add, Nat.mul_comm (Bp j), ← Nat.mul_assoc, Nat.add_mul_div_right _ _ (Bp_pos j), Bp_s, ← Nat.mul_assoc, Nat.add_mul_mod_self_right]
/-- a product's row: what stands at slot x limb by limb -/
def Lm (t : St) (x X : Nat) : Prop := ∀ j, j < 7 → gA t 34 (7 * x + j) = jn (dgt X j)
theorem mul_in {s0 : St} {x y z X V W i : Nat} (hx : x ≤ 4507) (hy : y ≤ 4507) (hz : z ≤ 4507) (hxy : y ≠ x) (hxz : z ≠ x) (hX : Lm s0 x X) (hV : Lm s0 y V) (hW : Lm s0 z W) (hi : i < 7) : ∃ s', lp (fun u : Int64 × Int32 × St => m_multiplies_B22 (jn x) (jn y) (jn z) (jn i) u.1 u.2.1 u.2.2) ((0 : Int64), (0 : Int32), s0) = some s' ∧ Sl [x] s0 s' ∧ Lm s' x (X + dgt V i * W * Bp i) := by
  have v1 := dgt_lt V i
  have L := lp_cnt (b := fun u : Int64 × Int32 × St => m_multiplies_B22 (jn x) (jn y) (jn z) (jn i) u.1 u.2.1 u.2.2) (fun k s => (jl (cry 1 (X / Bp i) (dgt V i) W k), jn k, s)) (7 - i)
    (fun k s => fx [34] [] s0 s ∧ (∀ j, j < 7 → gA s 34 (7 * x + j) = jn (if i ≤ j ∧ j < i + k then dgt (X + dgt V i * W * Bp i) j else dgt X j)) ∧ ∀ r, (r < 7 * x ∨ 7 * x + 7 ≤ r) → gA s 34 r = gA s0 34 r)
    (fun s => fx [34] [] s0 s ∧ (∀ j, j < 7 → gA s 34 (7 * x + j) = jn (if i ≤ j ∧ j < i + (7 - i) then dgt (X + dgt V i * W * Bp i) j else dgt X j)) ∧ ∀ r, (r < 7 * x ∨ 7 * x + 7 ≤ r) → gA s 34 r = gA s0 34 r) (by
      rintro k s hk ⟨hf, h1, h2⟩
      have w1 := dgt_lt W k
      have x1 := dgt_lt X (i + k)
      have cb := cry_b (X / Bp i) (dgt V i) W k
      have cd := cry_dgt 1 (X / Bp i) (dgt V i) W k
      have cs := cry_s 1 (X / Bp i) (dgt V i) W k
      have pm : dgt V i * dgt W k ≤ 1073741823 * 1073741823 := Nat.mul_le_mul (by omega) (by omega)
      have eV : gA s 34 (7 * y + i) = jn (dgt V i) := by
        rw [h2 _ (by omega)]; exact hV i hi
      have eW : gA s 34 (7 * z + k) = jn (dgt W k) := by
        rw [h2 _ (by omega)]; exact hW k (by omega)
      have eX : gA s 34 (7 * x + (i + k)) = jn (dgt X (i + k)) := by
        rw [h1 (i + k) (by omega), if_neg (by omega)]
      have du := dgt_up (X := X) (i := i) (k := k)
      have dh := dgt_hi (X := X) (v := dgt V i) (W := W) (i := i) (k := k)
      rw [← du] at cd cs
      have e : jl (dgt V i) * jl (dgt W k) + jl (dgt X (i + k)) + jl (cry 1 (X / Bp i) (dgt V i) W k) = jl (cry 1 (X / Bp i) (dgt V i) W k + 1 * dgt X (i + k) + dgt V i * dgt W k) := by
        rw [jl_mul, jl_add, jl_add]; congr 1; omega
      generalize hcar : cry 1 (X / Bp i) (dgt V i) W k = car at *
      refine ⟨sA s 34 (jn (7 * x + (i + k))) (jn (dgt (X + dgt V i * W * Bp i) (i + k))), ?_, hf.trans (fx_sA rfl), fun j hj => ?_, fun r hr => ?_⟩
      · (try dsimp only)
        unfold m_multiplies_B22
        rw [show jn i + jn k = jn (i + k) from jn_add i k, if_neg (nle7 (show i + k < 7 by omega)), j7, j7, j7, jn_add, gd_jn (by omega) (by omega), gd_jn (by omega) (by omega), show 7 * x + i + k = 7 * x + (i + k) by omega, gd_jn (by omega) (by omega), jn_cl (by omega), jn_cl (by omega), jn_cl (by omega), eV, eW, eX, jl_i (by omega), jl_i (by omega), jl_i (by omega), e, nm_eq, gd_jn (by omega) (by omega), nm_eq, nm_eq, nm_eq, show (1073741824 : Int64) = jl 1073741824 from rfl, jl_rem (by omega) (by omega), jl_div (by omega) (by omega), cd, ← cs, jl_to, ← dh, jn_s]
      · rw [gA_sA, jn_cl (by omega)]
        by_cases c : j = i + k
        · rw [c, upd_at, if_pos ⟨by omega, by omega⟩]
        · rw [upd_ne (by omega), h1 j hj]
          by_cases d : i ≤ j ∧ j < i + k
          · rw [if_pos d, if_pos ⟨d.1, by omega⟩]
          · rw [if_neg d, if_neg (by omega)]
      · rw [gA_sA, jn_cl (by omega), upd_ne (by omega)]
        exact h2 r hr) (by
      rintro s hs
      exact ⟨s, by (try dsimp only); unfold m_multiplies_B22; rw [show jn i + jn (7 - i) = jn 7 from by rw [jn_add]; congr 1; omega, if_pos (show (7 : Int32) ≤ jn 7 by decide)], hs⟩) 0 s0 (Nat.zero_le _) ⟨fx.rfl, fun j hj => by rw [if_neg (by omega)]; exact hX j hj, fun _ _ => rfl⟩
  obtain ⟨s, k, k1, k2, k3⟩ := L
  refine ⟨s, ?_, Sl.of ⟨k1, k3⟩, fun j hj => ?_⟩
  · rw [cry_0] at k
    exact k
  · rw [k2 j hj]
    by_cases c : i ≤ j
    · rw [if_pos ⟨c, by omega⟩]
    · rw [if_neg (fun z => c z.1), dgt_lo (by omega)]
theorem multiplies_eq {t : St} {x y z V W : Nat} (hx : x ≤ 4507) (hy : y ≤ 4507) (hz : z ≤ 4507) (hxy : y ≠ x) (hxz : z ≠ x) (hV : BM t y V) (hW : BM t z W) (hs : V * W < Bp 7) : ∃ t', m_multiplies t (jn x) (jn y) (jn z) = some t' ∧ Sl [x] t t' ∧ BM t' x (V * W) := by
  obtain ⟨t1, a1, a2, a3⟩ := puts_eq (t := t) (x := x) (v := 0) hx (by omega)
  have L := lp_cnt (b := fun u : Int32 × St => m_multiplies_B9 (jn x) (jn y) (jn z) u.1 u.2) (fun i s => (jn i, s)) 7
    (fun i s => Sl [x] t s ∧ Lm s x (V % Bp i * W)) (fun s => Sl [x] t s ∧ Lm s x (V % Bp 7 * W)) (by
      rintro i s hi ⟨h1, h2⟩
      obtain ⟨s', k1, k2, k3⟩ := mul_in (s0 := s) (i := i) hx hy hz hxy hxz h2 (hV.sl1 h1 hxy).2 (hW.sl1 h1 hxz).2 hi
      refine ⟨s', ?_, h1.trans k2, ?_⟩
      · (try dsimp only)
        unfold m_multiplies_B9
        rw [if_neg (nle7 hi), show lp (fun u : Int64 × Int32 × St => m_multiplies_B22 (jn x) (jn y) (jn z) (jn i) u.1 u.2.1 u.2.2) ((0 : Int64), (0 : Int32), s) = some s' from k1, bs, nm_eq, jn_s]
      · have e : V % Bp (i + 1) * W = V % Bp i * W + dgt V i * W * Bp i := by
          rw [mod_s, Nat.add_mul]
          congr 1
          ac_rfl
        rw [e]
        exact k3) (by
      rintro s hs
      exact ⟨s, by (try dsimp only); unfold m_multiplies_B9; rw [if_pos (show (7 : Int32) ≤ jn 7 by decide)], hs⟩) 0 t1 (Nat.zero_le _) ⟨a2, by rw [Bp_0, Nat.mod_one, Nat.zero_mul]; exact a3.2⟩
  obtain ⟨s, k, k1, k2⟩ := L
  refine ⟨s, ?_, k1, hs, ?_⟩
  · unfold m_multiplies
    rw [show (0 : Int32) = jn 0 from rfl, a1, bs, show lp (fun u : Int32 × St => m_multiplies_B9 (jn x) (jn y) (jn z) u.1 u.2) (jn 0, t1) = some s from k, bs]
  · rw [Nat.mod_eq_of_lt hV.1] at k2
    exact k2
