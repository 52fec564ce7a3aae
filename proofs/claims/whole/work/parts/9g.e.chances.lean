/-! Chances: what a node is worth. -/
def nv (N : List (Nat × Nat × Nat)) (p : Nat → Nat) (m : Nat) : Nat → Nat → Nat
  | 0, x => if x = 1 then 1000 ^ m else 0
  | k + 1, x => if x = k + 2 then (p (N.getD k (0, 0, 0)).1 * nv N p m k (N.getD k (0, 0, 0)).2.2 + (1000 - p (N.getD k (0, 0, 0)).1) * nv N p m k (N.getD k (0, 0, 0)).2.1) / 1000 else nv N p m k x
theorem nv_s (N : List (Nat × Nat × Nat)) (p : Nat → Nat) (m k x : Nat) : nv N p m (k + 1) x = if x = k + 2 then (p (N.getD k (0, 0, 0)).1 * nv N p m k (N.getD k (0, 0, 0)).2.2 + (1000 - p (N.getD k (0, 0, 0)).1) * nv N p m k (N.getD k (0, 0, 0)).2.1) / 1000 else nv N p m k x := rfl
def lvl (N : List (Nat × Nat × Nat)) (m x : Nat) : Nat := if x < 2 then m else (N.getD (x - 2) (0, 0, 0)).1
theorem lvl_up {N : List (Nat × Nat × Nat)} {m k : Nat} (hw : Wf N) (hl : Wl N) (hm : ∀ i, i < N.length → (N.getD i (0, 0, 0)).1 < m) (hk : k < N.length) : (N.getD k (0, 0, 0)).1 < lvl N m (N.getD k (0, 0, 0)).2.1 ∧ (N.getD k (0, 0, 0)).1 < lvl N m (N.getD k (0, 0, 0)).2.2 := by
  have up : ∀ x, (∀ j, x = j + 2 → (N.getD k (0, 0, 0)).1 < (N.getD j (0, 0, 0)).1) → (N.getD k (0, 0, 0)).1 < lvl N m x := fun x h => by
    unfold lvl
    by_cases c : x < 2
    · rw [if_pos c]; exact hm k hk
    · rw [if_neg c]
      exact h (x - 2) (by omega)
  exact ⟨up _ (hl k hk).1, up _ (hl k hk).2⟩
theorem nv_ok {N : List (Nat × Nat × Nat)} {p : Nat → Nat} {m : Nat} (hw : Wf N) (hl : Wl N) (hm : ∀ i, i < N.length → (N.getD i (0, 0, 0)).1 < m) (hp : ∀ r, r < m → p r ≤ 1000) : ∀ k, k ≤ N.length → ∀ x, x < k + 2 → nv N p m k x ≤ 1000 ^ m ∧ 1000 ^ lvl N m x ∣ nv N p m k x := by
  intro k
  induction k with
  | zero =>
    intro _ x hx
    show (if x = 1 then 1000 ^ m else 0) ≤ _ ∧ _ ∣ (if x = 1 then 1000 ^ m else 0)
    have e : lvl N m x = m := if_pos (by omega)
    rw [e]
    by_cases c : x = 1
    · rw [if_pos c]; exact ⟨Nat.le_refl _, Nat.dvd_refl _⟩
    · rw [if_neg c]; exact ⟨Nat.zero_le _, Nat.dvd_zero _⟩
  | succ k ih =>
    intro hk x hx
    have ih := ih (by omega)
    rw [nv_s]
    by_cases c : x = k + 2
    · subst c
      rw [if_pos rfl]
      obtain ⟨w1, w2, -⟩ := hw k (by omega)
      obtain ⟨u1, u2⟩ := lvl_up hw hl hm (show k < N.length by omega)
      have e : lvl N m (k + 2) = (N.getD k (0, 0, 0)).1 := by
        unfold lvl; rw [if_neg (by omega), Nat.add_sub_cancel]
      have pr := hp _ (hm k (by omega))
      obtain ⟨a1, a2⟩ := ih _ w1
      obtain ⟨b1, b2⟩ := ih _ w2
      rw [e]
      generalize (N.getD k (0, 0, 0)).1 = r at *
      generalize hA : nv N p m k (N.getD k (0, 0, 0)).2.1 = A at *
      generalize hB : nv N p m k (N.getD k (0, 0, 0)).2.2 = B at *
      generalize lvl N m (N.getD k (0, 0, 0)).2.1 = la at *
      generalize lvl N m (N.getD k (0, 0, 0)).2.2 = lb at *
      have d1 : 1000 ^ (r + 1) ∣ A := Nat.dvd_trans (Nat.pow_dvd_pow 1000 u1) a2
      have d2 : 1000 ^ (r + 1) ∣ B := Nat.dvd_trans (Nat.pow_dvd_pow 1000 u2) b2
      have d3 : 1000 ^ (r + 1) ∣ p r * B + (1000 - p r) * A := Nat.dvd_add (Nat.dvd_trans d2 (Nat.dvd_mul_left _ _)) (Nat.dvd_trans d1 (Nat.dvd_mul_left _ _))
      constructor
      · have m1 : p r * B ≤ p r * 1000 ^ m := Nat.mul_le_mul_left _ b1
        have m2 : (1000 - p r) * A ≤ (1000 - p r) * 1000 ^ m := Nat.mul_le_mul_left _ a1
        have m3 : p r * 1000 ^ m + (1000 - p r) * 1000 ^ m = 1000 * 1000 ^ m := by
          rw [← Nat.add_mul]; congr 1; omega
        omega
      · obtain ⟨z, hz⟩ := d3
        rw [hz, Nat.pow_succ, Nat.mul_assoc, Nat.mul_comm 1000 z, ← Nat.mul_assoc, Nat.mul_div_cancel _ (by omega)]
        exact Nat.dvd_mul_right _ _
    · rw [if_neg c]
      exact ih x (by omega)
/-- nothing is lost in a division -/
theorem nv_x {N : List (Nat × Nat × Nat)} {p : Nat → Nat} {m : Nat} (hw : Wf N) (hl : Wl N) (hm : ∀ i, i < N.length → (N.getD i (0, 0, 0)).1 < m) (hp : ∀ r, r < m → p r ≤ 1000) {k : Nat} (hk : k < N.length) : 1000 * nv N p m (k + 1) (k + 2) = p (N.getD k (0, 0, 0)).1 * nv N p m k (N.getD k (0, 0, 0)).2.2 + (1000 - p (N.getD k (0, 0, 0)).1) * nv N p m k (N.getD k (0, 0, 0)).2.1 := by
  rw [nv_s, if_pos rfl]
  obtain ⟨w1, w2, -⟩ := hw k (by omega)
  obtain ⟨u1, u2⟩ := lvl_up hw hl hm hk
  have ok := nv_ok hw hl hm hp k (by omega)
  have a2 := (ok _ w1).2
  have b2 := (ok _ w2).2
  have d1 : 1000 ^ 1 ∣ nv N p m k (N.getD k (0, 0, 0)).2.1 := Nat.dvd_trans (Nat.pow_dvd_pow 1000 (by omega)) a2
  have d2 : 1000 ^ 1 ∣ nv N p m k (N.getD k (0, 0, 0)).2.2 := Nat.dvd_trans (Nat.pow_dvd_pow 1000 (by omega)) b2
  rw [Nat.pow_one] at d1 d2
  exact Nat.mul_div_cancel' (Nat.dvd_add (Nat.dvd_trans d2 (Nat.dvd_mul_left _ _)) (Nat.dvd_trans d1 (Nat.dvd_mul_left _ _)))
theorem odr_up {H r u : Nat} (hu : u < mN H) (h : r < u) : odr H r < odr H u := by
  obtain ⟨a1, a2, a3⟩ := odr_ok (show r < mN H by omega)
  obtain ⟨b1, b2, b3⟩ := odr_ok hu
  by_cases c : odr H r < odr H u
  · exact c
  · by_cases e : odr H u = odr H r
    · rw [e, a3] at b3; omega
    · have := rk_up (show odr H u < odr H r by omega) b2
      omega
/-- a node's level among sixteen steps -/
def lv6 (H : Nat) (N : List (Nat × Nat × Nat)) (x : Nat) : Nat := if x < 2 then 16 else odr H (N.getD (x - 2) (0, 0, 0)).1
theorem lv6_up {H : Nat} {N : List (Nat × Nat × Nat)} {x r : Nat} (hm : ∀ i, i < N.length → (N.getD i (0, 0, 0)).1 < mN H) (hx : x < N.length + 2) (hr : r < mN H) (h : r < lvl N (mN H) x) : odr H r + 1 ≤ lv6 H N x ∧ lv6 H N x ≤ 16 := by
  unfold lvl at h
  unfold lv6
  by_cases c : x < 2
  · rw [if_pos c]
    exact ⟨(odr_ok hr).1, Nat.le_refl _⟩
  · rw [if_neg c] at h ⊢
    have := hm (x - 2) (by omega)
    exact ⟨odr_up this h, Nat.le_of_lt (odr_ok this).1⟩
theorem p16 : 1000 ^ 16 * 1000 < Bp 7 := by decide +kernel
theorem r_le {R C l m : Nat} (h : R * 1000 ^ l * 1000 ^ m = C * 1000 ^ 16) (hC : C ≤ 1000 ^ m) : R * 1000 ^ l ≤ 1000 ^ 16 := by
  have p : 0 < 1000 ^ m := Nat.pow_pos (by omega)
  refine Nat.le_of_mul_le_mul_right (c := 1000 ^ m) ?_ p
  rw [h, Nat.mul_comm (1000 ^ 16)]
  exact Nat.mul_le_mul_right _ hC
/-- one step of it, told by steps -/
theorem r_step {Ra Rb Ca Cb C la lb s u m : Nat} (ha : Ra * 1000 ^ la * 1000 ^ m = Ca * 1000 ^ 16) (hb : Rb * 1000 ^ lb * 1000 ^ m = Cb * 1000 ^ 16) (hC : 1000 * C = u * Cb + (1000 - u) * Ca) (h1 : s + 1 ≤ la) (h2 : s + 1 ≤ lb) : (Ra * 1000 ^ (la - (s + 1)) * (1000 - u) + Rb * 1000 ^ (lb - (s + 1)) * u) * 1000 ^ s * 1000 ^ m = C * 1000 ^ 16 := by
  have ea : Ra * 1000 ^ (la - (s + 1)) * 1000 ^ (s + 1) = Ra * 1000 ^ la := by
    rw [Nat.mul_assoc, ← Nat.pow_add, Nat.sub_add_cancel h1]
  have eb : Rb * 1000 ^ (lb - (s + 1)) * 1000 ^ (s + 1) = Rb * 1000 ^ lb := by
    rw [Nat.mul_assoc, ← Nat.pow_add, Nat.sub_add_cancel h2]
  generalize Ra * 1000 ^ (la - (s + 1)) = x at *
  generalize Rb * 1000 ^ (lb - (s + 1)) = y at *
  refine Nat.eq_of_mul_eq_mul_right (show 0 < 1000 by omega) ?_
  have e1 : (x * (1000 - u) + y * u) * 1000 ^ s * 1000 ^ m * 1000 = (x * 1000 ^ (s + 1)) * 1000 ^ m * (1000 - u) + (y * 1000 ^ (s + 1)) * 1000 ^ m * u := by
    rw [Nat.pow_succ]
    generalize 1000 ^ s = S
    generalize 1000 ^ m = M
    generalize 1000 - u = v
    rw [Nat.add_mul, Nat.add_mul, Nat.add_mul]
    ac_rfl
  rw [e1, ea, eb, ha, hb, Nat.mul_right_comm C, Nat.mul_comm C 1000, hC]
  generalize 1000 ^ 16 = S
  generalize 1000 - u = v
  rw [Nat.add_mul, Nat.add_comm]
  ac_rfl
