/-! What stands in a game's tables is below 2 to the 63rd. -/
def pmS (s : Nat) : Nat → Nat → Nat := fun j i => if j = s then (if i < 6 then 1 else 0) else if i < 6 then 1001 else 1
theorem pmS_0 : pmN 7 (pmS 0) = 4320 * 1001 ^ 5 := by decide +kernel
theorem pmS_1 : pmN 7 (pmS 1) = 4320 * 1001 ^ 5 := by decide +kernel
theorem pmS_2 : pmN 7 (pmS 2) = 4320 * 1001 ^ 5 := by decide +kernel
theorem pmS_3 : pmN 7 (pmS 3) = 4320 * 1001 ^ 5 := by decide +kernel
theorem pmS_4 : pmN 7 (pmS 4) = 4320 * 1001 ^ 5 := by decide +kernel
theorem pmS_5 : pmN 7 (pmS 5) = 4320 * 1001 ^ 5 := by decide +kernel
theorem pmS_6 : pmN 7 (pmS 6) = 4320 * 1001 ^ 5 := by decide +kernel
theorem pmS_all {s : Nat} (h : s < 7) : pmN 7 (pmS s) = 4320 * 1001 ^ 5 := by
  rcases (show s = 0 ∨ s = 1 ∨ s = 2 ∨ s = 3 ∨ s = 4 ∨ s = 5 ∨ s = 6 by omega) with rfl | rfl | rfl | rfl | rfl | rfl | rfl
  · exact pmS_0
  · exact pmS_1
  · exact pmS_2
  · exact pmS_3
  · exact pmS_4
  · exact pmS_5
  · exact pmS_6
def pmP (p : Nat) : Nat → Nat → Nat := fun _ i => if i < p then 1001 else 1
theorem pmP_0 : pmN 1 (pmP 0) = 1 := by decide +kernel
theorem pmP_1 : pmN 2 (pmP 1) = 2 * 1001 := by decide +kernel
theorem pmP_2 : pmN 3 (pmP 2) = 6 * 1001 ^ 2 := by decide +kernel
theorem pmP_3 : pmN 4 (pmP 3) = 24 * 1001 ^ 3 := by decide +kernel
theorem pmP_4 : pmN 5 (pmP 4) = 120 * 1001 ^ 4 := by decide +kernel
theorem pmP_5 : pmN 6 (pmP 5) = 720 * 1001 ^ 5 := by decide +kernel
theorem pmP_le {p : Nat} (h : p < 6) : pmN (p + 1) (pmP p) ≤ 720 * 1001 ^ 5 := by
  have a := pmP_0
  have b := pmP_1
  have c := pmP_2
  have d := pmP_3
  have e := pmP_4
  have f := pmP_5
  rcases (show p = 0 ∨ p = 1 ∨ p = 2 ∨ p = 3 ∨ p = 4 ∨ p = 5 by omega) with rfl | rfl | rfl | rfl | rfl | rfl
  · rw [a]; decide
  · rw [b]; decide
  · rw [c]; decide
  · rw [d]; decide
  · rw [e]; decide
  · rw [f]; decide
theorem gC_abs {A : Nat → Nat → Int} {p w c i : Nat} (hA : ∀ c i, c < w → i < p → 0 < A c i ∧ A c i ≤ 1001) : (gC A p w c i).natAbs ≤ if i < p then 1001 else 1 := by
  by_cases h : i < p
  · rw [show (if i < p then 1001 else 1) = 1001 from if_pos h]
    unfold gC
    by_cases a : c < w
    · rw [if_pos a, if_pos h]
      have := hA c i a h
      omega
    · rw [if_neg a]
      split
      · split <;> decide
      · split
        · decide
        · split <;> decide
  · rw [show (if i < p then 1001 else 1) = 1 from if_neg h]
    unfold gC
    by_cases a : c < w
    · rw [if_pos a, if_neg h]; decide
    · rw [if_neg a]
      split
      · split <;> decide
      · split
        · decide
        · split <;> decide
theorem gdt_bd {A : Nat → Nat → Int} {p w : Nat} (hp : p ≤ 6) (hA : ∀ c i, c < w → i < p → 0 < A c i ∧ A c i ≤ 1001) (κ : Nat → Nat) (hκ : ∀ j, j < p + 1 → κ j ≤ w + p + 1) : (dt (p + 1) (fun j => gC A p w (κ j))).natAbs ≤ 9 * 1001 ^ 6 := by
  have e6 : (1001 : Nat) ^ 6 = 1006015020015006001 := by decide
  have e5 : (1001 : Nat) ^ 5 = 1005010010005001 := by decide
  by_cases c6 : p < 6
  · have a := dt_abs (n := p + 1) (V := fun j => gC A p w (κ j)) (w := pmP p) (fun j i _ _ => gC_abs hA)
    have b := pmP_le c6
    omega
  · have p6 : p = 6 := by omega
    subst p6
    show (dt 7 (fun j => gC A 6 w (κ j))).natAbs ≤ 9 * 1001 ^ 6
    by_cases sp : ∃ j, j < 7 ∧ w ≤ κ j ∧ κ j ≤ w + 6
    · obtain ⟨s, s1, s2, s3⟩ := sp
      have a := dt_abs (n := 7) (V := fun j => gC A 6 w (κ j)) (w := pmS s) (fun j i _ _ => by
        unfold pmS
        by_cases q : j = s
        · rw [if_pos q, q]
          unfold gC
          rw [if_neg (by omega)]
          by_cases h : i < 6
          · rw [if_pos h]
            split
            · split <;> decide
            · split
              · decide
              · split <;> decide
          · rw [if_neg h]
            split
            · rw [if_neg (by omega)]; decide
            · rw [if_pos (by omega)]; decide
        · rw [if_neg q]
          exact gC_abs hA)
      have b := pmS_all s1
      omega
    · have cs : ∀ j, j < 7 → κ j < w ∨ κ j = w + 7 := fun j hj => by
        have k := hκ j hj
        by_cases z : κ j < w
        · exact Or.inl z
        · by_cases y : κ j ≤ w + 6
          · exact absurd ⟨j, hj, by omega, y⟩ sp
          · exact Or.inr (by omega)
      have obj : ∀ i, i < 7 → gC A 6 w (w + 7) i = if i = 6 then 1 else 0 := fun i _ => by
        unfold gC
        rw [if_neg (by omega), if_neg (by omega), if_neg (by omega)]
      by_cases two : ∃ j k, j < k ∧ k < 7 ∧ κ j = w + 7 ∧ κ k = w + 7
      · obtain ⟨j, k, jk, k7, hj, hk⟩ := two
        rw [dt_eq (n := 7) (a := j) (b := k) (by omega) k7 (by omega) fun i _ => by rw [hj, hk]]
        exact Nat.zero_le _
      · -- at most one of them is the sum's unit: it is put for its contrary
        have big := big_seven six_nine (V := fun j i => if κ j < w then gC A 6 w (κ j) i else (if i < 6 then 0 else -1)) (fun j i hj hi => by
          (try dsimp only)
          by_cases z : κ j < w
          · rw [if_pos z]
            unfold gC
            rw [if_pos z, if_pos hi]
            have := hA (κ j) i z hi
            omega
          · rw [if_neg z, if_pos hi]
            decide) (fun j hj => by
          (try dsimp only)
          by_cases z : κ j < w
          · rw [if_pos z]
            unfold gC
            rw [if_pos z, if_neg (by omega)]
          · rw [if_neg z, if_neg (by omega)])
        have bigN : (dt 7 (fun j i => if κ j < w then gC A 6 w (κ j) i else (if i < 6 then 0 else -1))).natAbs ≤ 9 * 1001 ^ 6 := by
          have e6' : (1001 : Int) ^ 6 = 1006015020015006001 := by decide
          rw [e6'] at big
          omega
        by_cases one : ∃ j, j < 7 ∧ κ j = w + 7
        · obtain ⟨s, s1, s2⟩ := one
          have ot : ∀ j, j < 7 → j ≠ s → κ j < w := fun j hj hne => by
            rcases cs j hj with z | z
            · exact z
            · exfalso
              rcases Nat.lt_or_gt_of_ne hne with l | l
              · exact two ⟨j, s, l, s1, z, s2⟩
              · exact two ⟨s, j, l, hj, s2, z⟩
          have e : dt 7 (fun j => gC A 6 w (κ j)) = dt 7 (st (fun j i => if κ j < w then gC A 6 w (κ j) i else (if i < 6 then 0 else -1)) s (fun i => -1 * (fun i => if i < 6 then (0 : Int) else -1) i)) := dt_ext fun j i hj hi => by
            by_cases q : j = s
            · subst q
              rw [st_at, s2, obj i hi]
              (try dsimp only)
              by_cases z : i = 6
              · rw [if_pos z, if_neg (by omega)]; rfl
              · rw [if_neg z, if_pos (by omega)]; rfl
            · rw [st_ne q, if_pos (ot j hj q)]
          have e2 : dt 7 (st (fun j i => if κ j < w then gC A 6 w (κ j) i else (if i < 6 then 0 else -1)) s (fun i => if i < 6 then (0 : Int) else -1)) = dt 7 (fun j i => if κ j < w then gC A 6 w (κ j) i else (if i < 6 then 0 else -1)) := dt_ext fun j i hj hi => by
            by_cases q : j = s
            · subst q
              rw [st_at, if_neg (show ¬ κ j < w by omega)]
            · rw [st_ne q]
          rw [e, st_mul s1, e2, Int.natAbs_mul, show (-1 : Int).natAbs = 1 from rfl, Nat.one_mul]
          exact bigN
        · have e : dt 7 (fun j => gC A 6 w (κ j)) = dt 7 (fun j i => if κ j < w then gC A 6 w (κ j) i else (if i < 6 then 0 else -1)) := dt_ext fun j i hj hi => by
            rcases cs j hj with z | z
            · rw [if_pos z]
            · exact absurd ⟨j, hj, z⟩ one
          rw [e]
          exact bigN
theorem gT_bd {A : Nat → Nat → Int} {p w : Nat} (hp : p ≤ 6) (hA : ∀ c i, c < w → i < p → 0 < A c i ∧ A c i ≤ 1001) {B : Nat → Nat} (ok : OkB A p w B) (r : Nat) {c : Nat} (hc : c ≤ w + p) : (gT A p w B r c).natAbs ≤ 9 * 1001 ^ 6 := by
  have k := gdt_bd hp hA (fun j => if j = r then c else B j) (fun j hj => by
    (try dsimp only)
    split
    · omega
    · by_cases q : j = p
      · rw [q, ok.2.2.1]; exact Nat.le_refl _
      · have := ok.2.2.2.1 j (by omega)
        omega)
  have e : gT A p w B r c = dt (p + 1) (fun j => gC A p w ((fun j => if j = r then c else B j) j)) := dt_ext fun j i _ _ => by
    unfold st VB
    (try dsimp only)
    split <;> rfl
  rw [e]
  exact k
theorem gD_bd {A : Nat → Nat → Int} {p w : Nat} (hp : p ≤ 6) (hA : ∀ c i, c < w → i < p → 0 < A c i ∧ A c i ≤ 1001) {B : Nat → Nat} (ok : OkB A p w B) : (gD A p w B).natAbs ≤ 9 * 1001 ^ 6 := gdt_bd hp hA B (fun j hj => by
  by_cases q : j = p
  · rw [q, ok.2.2.1]; exact Nat.le_refl _
  · have := ok.2.2.2.1 j (by omega)
    omega)
/-- the sum is no more than the divisor -/
theorem sum_le {A : Nat → Nat → Int} {p w : Nat} (hp : 0 < p) (hA : ∀ c i, c < w → i < p → 0 < A c i ∧ A c i ≤ 1001) {B : Nat → Nat} (ok : OkB A p w B) : 0 ≤ gT A p w B p (w + p) ∧ gT A p w B p (w + p) ≤ gD A p w B := by
  obtain ⟨h1, h2, h3, h4, h5, h6⟩ := ok
  have a : gD A p w B * gC A p w (w + p) 0 = zS (fun r => gT A p w B r (w + p) * gC A p w (B r) 0) (p + 1) := h2 (w + p) 0 (by omega)
  have b : gD A p w B * gC A p w (w + p) p = zS (fun r => gT A p w B r (w + p) * gC A p w (B r) p) (p + 1) := h2 (w + p) p (by omega)
  have r0 : gC A p w (w + p) 0 = 1 := by
    unfold gC
    rw [if_neg (by omega), if_neg (by omega), if_pos rfl, if_pos hp]
  have rp : gC A p w (w + p) p = 0 := by
    unfold gC
    rw [if_neg (by omega), if_neg (by omega), if_pos rfl, if_neg (by omega)]
  have o0 : gC A p w (B p) 0 = 0 := by
    rw [h3]
    unfold gC
    rw [if_neg (by omega), if_neg (by omega), if_neg (by omega), if_neg (by omega)]
  have op : gC A p w (B p) p = 1 := by
    rw [h3]
    unfold gC
    rw [if_neg (by omega), if_neg (by omega), if_neg (by omega), if_pos rfl]
  rw [r0, Int.mul_one, zS_s, o0, Int.mul_zero, Int.add_zero] at a
  rw [rp, Int.mul_zero, zS_s, op, Int.mul_one] at b
  have key : ∀ r, r < p → gC A p w (B r) p = 0 ∨ gC A p w (B r) p = -1 := fun r hr => by
    have := h4 r hr
    unfold gC
    by_cases q : B r < w
    · rw [if_pos q, if_neg (by omega)]; exact Or.inr rfl
    · rw [if_neg q, if_pos this, if_neg (by omega)]; exact Or.inl rfl
  have key2 : ∀ r, r < p → 0 ≤ gC A p w (B r) 0 + gC A p w (B r) p := fun r hr => by
    have := h4 r hr
    unfold gC
    by_cases q : B r < w
    · rw [if_pos q, if_pos q, if_pos hp, if_neg (by omega)]
      have := (hA (B r) 0 q hp).1
      omega
    · rw [if_neg q, if_neg q, if_pos this, if_pos this]
      split <;> split <;> decide
  have s1 : zS (fun r => gT A p w B r (w + p) * gC A p w (B r) p) p ≤ 0 := zS_nonpos fun r hr => by
    (try dsimp only)
    rcases key r hr with z | z
    · rw [z, Int.mul_zero]; exact Int.le_refl _
    · have := h6 r hr
      rw [z]
      omega
  have s2 : zS (fun r => -(gT A p w B r (w + p) * gC A p w (B r) 0 + gT A p w B r (w + p) * gC A p w (B r) p)) p ≤ 0 := zS_nonpos fun r hr => by
    (try dsimp only)
    have := Int.mul_nonneg (h6 r hr) (key2 r hr)
    rw [Int.mul_add] at this
    omega
  have s3 : zS (fun r => -(gT A p w B r (w + p) * gC A p w (B r) 0 + gT A p w B r (w + p) * gC A p w (B r) p)) p = -(zS (fun r => gT A p w B r (w + p) * gC A p w (B r) 0) p + zS (fun r => gT A p w B r (w + p) * gC A p w (B r) p) p) := by
    rw [← zS_add, ← Int.neg_one_mul, ← zS_mul]
    exact zS_cong fun r _ => (Int.neg_one_mul _).symm
  omega
/-- at the end it is above nothing -/
theorem sum_pos {A : Nat → Nat → Int} {p w : Nat} (hw : 0 < w) (hA : ∀ c i, c < w → i < p → 0 < A c i ∧ A c i ≤ 1001) {B : Nat → Nat} (ok : OkB A p w B) (fin : ∀ c, c < w + p → 0 ≤ gT A p w B p c) : 0 < gT A p w B p (w + p) := by
  obtain ⟨h1, h2, h3, h4, h5, h6⟩ := ok
  -- a vector by its units
  have lin : ∀ c, (∀ i, i < p + 1 → gC A p w c i = zS (fun l => gC A p w c l * gC A p w (if l < p then w + l else w + p + 1) i) (p + 1)) := fun c i hi => by
    have un : ∀ l, l < p + 1 → gC A p w (if l < p then w + l else w + p + 1) i = eN l i := fun l hl => gB0_unit (A := A) hl hi
    rw [zS_one (a := i) hi fun l hl hne => by rw [un l hl, show eN l i = 0 from if_neg fun z => hne z.symm, Int.mul_zero], un i hi, show eN i i = 1 from if_pos rfl, Int.mul_one]
  have tl : ∀ c, gT A p w B p c = zS (fun l => gC A p w c l * gT A p w B p (if l < p then w + l else w + p + 1)) (p + 1) := fun c => by
    have e : gT A p w B p c = dt (p + 1) (st (VB (gC A p w) B) p (fun i => zS (fun l => gC A p w c l * (fun l => gC A p w (if l < p then w + l else w + p + 1)) l i) (p + 1))) := dt_ext fun j i hj hi => by
      by_cases q : j = p
      · rw [q, st_at, st_at]; exact lin c i hi
      · rw [st_ne q, st_ne q]
    rw [e, st_sum (by omega)]
    rfl
  have y : ∀ l, l < p → 0 ≤ gT A p w B p (w + l) := fun l hl => fin _ (by omega)
  have a := tl 0
  have b := tl (w + p)
  rw [zS_s, if_neg (Nat.lt_irrefl p), gT_obj h3] at a b
  have c0 : gC A p w 0 p = -1 := by
    unfold gC
    rw [if_pos hw, if_neg (Nat.lt_irrefl p)]
  have cl : gC A p w (w + p) p = 0 := by
    unfold gC
    rw [if_neg (by omega), if_neg (by omega), if_pos rfl, if_neg (Nat.lt_irrefl p)]
  rw [c0] at a
  rw [cl, Int.zero_mul, Int.add_zero] at b
  have f0 := fin 0 (by omega)
  have pos : 0 < zS (fun l => gC A p w 0 l * gT A p w B p (if l < p then w + l else w + p + 1)) p := by omega
  obtain ⟨l, l1, l2⟩ := zS_pos pos
  (try dsimp only at l2)
  rw [if_pos l1] at l2
  have yl : 0 < gT A p w B p (w + l) := by
    have := y l l1
    by_cases z : gT A p w B p (w + l) = 0
    · rw [z, Int.mul_zero] at l2; omega
    · omega
  rw [b]
  have one : ∀ m, m < p → gC A p w (w + p) m = 1 := fun m hm => by
    unfold gC
    rw [if_neg (by omega), if_neg (by omega), if_pos rfl, if_pos hm]
  have neg : zS (fun m => (-1) * (gC A p w (w + p) m * gT A p w B p (if m < p then w + m else w + p + 1)) + (if m = l then gT A p w B p (w + l) else 0)) p ≤ 0 := zS_nonpos fun m hm => by
    (try dsimp only)
    rw [one m hm, if_pos hm]
    have := y m hm
    by_cases z : m = l
    · rw [if_pos z, z]; omega
    · rw [if_neg z]; omega
  rw [zS_add, zS_mul, zS_one (a := l) l1 (fun m _ hne => if_neg hne), if_pos rfl] at neg
  omega
