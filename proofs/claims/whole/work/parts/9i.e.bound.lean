/-! How great a determinant may be. -/
theorem dt_rlin : ∀ {n : Nat} {V W U : Nat → Nat → Int} {c : Nat} {a b : Int}, c < n → (∀ j, j < n → V j c = a * W j c + b * U j c) → (∀ j i, j < n → i < n → i ≠ c → V j i = W j i ∧ V j i = U j i) → dt n V = a * dt n W + b * dt n U := by
  intro n
  induction n with
  | zero => intro _ _ _ c _ _ h; omega
  | succ n ih =>
    intro V W U c a b hc h g
    rw [dt_s, dt_s, dt_s, ← zS_mul, ← zS_mul, ← zS_add]
    refine zS_cong fun j hj => ?_
    cases c with
    | zero =>
      rw [h j hj, dt_ext (V := fun k i => V (sk j k) (i + 1)) (W := fun k i => W (sk j k) (i + 1)) fun k i hk hi => (g _ _ (sk_lt hk) (by omega) (by omega)).1, dt_ext (V := fun k i => U (sk j k) (i + 1)) (W := fun k i => W (sk j k) (i + 1)) fun k i hk hi => ((g _ _ (sk_lt hk) (by omega) (by omega)).2).symm.trans (g _ _ (sk_lt hk) (by omega) (by omega)).1]
      exact ring1 _ _ _ _ _ _
    | succ c =>
      have gj := g j 0 hj (by omega) (by omega)
      have k := ih (V := fun k i => V (sk j k) (i + 1)) (W := fun k i => W (sk j k) (i + 1)) (U := fun k i => U (sk j k) (i + 1)) (c := c) (a := a) (b := b) (by omega) (fun k hk => h _ (sk_lt hk)) (fun k i hk hi hne => g _ _ (sk_lt hk) (by omega) (by omega))
      rw [k, ← gj.1, ← gj.2]
      exact ring2 _ _ _ _ _ _
def zP (s : Nat → Int) : Nat → Int
  | 0 => 1
  | n + 1 => s 0 * zP (fun i => s (i + 1)) n
theorem dt_scale : ∀ {n : Nat} {s : Nat → Int} {U : Nat → Nat → Int}, dt n (fun j i => s i * U j i) = zP s n * dt n U := by
  intro n
  induction n with
  | zero => intro s U; rfl
  | succ n ih =>
    intro s U
    rw [dt_s, dt_s, ← zS_mul]
    refine zS_cong fun j hj => ?_
    have k := ih (s := fun i => s (i + 1)) (U := fun k i => U (sk j k) (i + 1))
    rw [k]
    show _ = s 0 * zP (fun i => s (i + 1)) n * _
    ac_rfl
/-- the units with those of b put to those of a -/
def gU (a b l i : Nat) : Int := if i = l then 1 else if l = a then (if i = b then 1 else 0) else 0
theorem req_col {n a b : Nat} (hab : a ≠ b) (hb : b < n) {x : Nat → Int} (h : x a = x b) {i : Nat} (ha : a < n) (hi : i < n) : x i = zS (fun l => (if l = b then 0 else x l) * gU a b l i) n := by
  by_cases c : i = b
  · rw [zS_one (a := a) ha fun l hl hne => ?_]
    · rw [if_neg hab, c, ← h]
      unfold gU
      rw [if_neg (fun z => hab z.symm), if_pos rfl, if_pos rfl, Int.mul_one]
    · by_cases d : l = b
      · rw [if_pos d, Int.zero_mul]
      · unfold gU
        rw [if_neg d, if_neg (show ¬ i = l from fun z => d (z.symm.trans c)), if_neg hne, Int.mul_zero]
  · rw [zS_one (a := i) hi fun l hl hne => ?_]
    · rw [if_neg c]
      unfold gU
      rw [if_pos rfl, Int.mul_one]
    · by_cases q : l = b
      · rw [if_pos q, Int.zero_mul]
      · unfold gU
        rw [if_neg q, if_neg (show ¬ i = l from fun z => hne z.symm)]
        by_cases d : l = a
        · rw [if_pos d, if_neg c, Int.mul_zero]
        · rw [if_neg d, Int.mul_zero]
theorem dt_req {n a b : Nat} (ha : a < n) (hb : b < n) (hab : a ≠ b) : ∀ d m (V : Nat → Nat → Int), m + d = n → (∀ j, j < n → V j a = V j b) → (∀ j, j < m → ∃ l, l < n ∧ l ≠ b ∧ ∀ i, i < n → V j i = gU a b l i) → dt n V = 0 := by
  intro d
  induction d with
  | zero =>
    intro m V hm _ hf
    have hm : m = n := by omega
    subst hm
    -- two of them are the same
    by_cases c : ∃ j k, j < k ∧ k < m ∧ ∃ l, (∀ i, i < m → V j i = gU a b l i) ∧ ∀ i, i < m → V k i = gU a b l i
    · obtain ⟨j, k, jk, hk, l, l1, l2⟩ := c
      exact dt_eq (a := j) (b := k) (by omega) hk (by omega) fun i hi => (l1 i hi).trans (l2 i hi).symm
    · exfalso
      have ch : ∃ f : Nat → Nat, ∀ j, j < m → f j < m ∧ f j ≠ b ∧ ∀ i, i < m → V j i = gU a b (f j) i := by
        refine ⟨fun j => Classical.epsilon fun l => l < m ∧ l ≠ b ∧ ∀ i, i < m → V j i = gU a b l i, fun j hj => ?_⟩
        exact Classical.epsilon_spec (p := fun l => l < m ∧ l ≠ b ∧ ∀ i, i < m → V j i = gU a b l i) (hf j hj)
      obtain ⟨f, hf'⟩ := ch
      have := inj_le (g := fun j => sb b (f j)) m (m - 1) (fun j hj => by
        obtain ⟨f1, f2, -⟩ := hf' j hj
        have := sb_lt (n := m - 1) f2 (by omega) (by omega)
        exact this) (fun j k jk hk e => by
        obtain ⟨f1, f2, f3⟩ := hf' j (by omega)
        obtain ⟨g1, g2, g3⟩ := hf' k hk
        have ee : f j = f k := by
          rw [← sk_sb f2, ← sk_sb g2]
          exact congrArg (sk b) e
        exact c ⟨j, k, jk, hk, f j, f3, fun i hi => by rw [ee]; exact g3 i hi⟩)
      omega
  | succ d ih =>
    intro m V hm hr hf
    have hmn : m < n := by omega
    have e : dt n V = dt n (st V m (fun i => zS (fun l => (if l = b then 0 else V m l) * gU a b l i) n)) := dt_ext fun j i hj hi => by
      by_cases c : j = m
      · subst c
        rw [st_at]
        exact req_col hab hb (hr j hj) ha hi
      · rw [st_ne c]
    rw [e, st_sum hmn, zS_zero fun l hl => ?_]
    by_cases c : l = b
    · rw [if_pos c, Int.zero_mul]
    · rw [ih (m + 1) (st V m (gU a b l)) (by omega) (fun j hj => ?_) (fun j hj => ?_), Int.mul_zero]
      · by_cases q : j = m
        · subst q
          rw [st_at]
          unfold gU
          by_cases z : l = a
          · rw [if_pos z.symm, if_neg (fun y => c y.symm), if_pos z, if_pos rfl]
          · rw [if_neg (fun y => z y.symm), if_neg z, if_neg (fun y => c y.symm), if_neg z]
        · rw [st_ne q]; exact hr j hj
      · by_cases q : j = m
        · exact ⟨l, hl, c, fun i _ => by rw [q, st_at]⟩
        · obtain ⟨l', q1, q2, q3⟩ := hf j (by omega)
          exact ⟨l', q1, q2, fun i hi => by rw [st_ne q]; exact q3 i hi⟩
/-- by sums of sizes -/
def pmN : Nat → (Nat → Nat → Nat) → Nat
  | 0, _ => 1
  | n + 1, w => smm (fun j => w j 0 * pmN n (fun k i => w (sk j k) (i + 1))) (n + 1)
theorem abs_zS (f : Nat → Int) : ∀ n, (zS f n).natAbs ≤ smm (fun i => (f i).natAbs) n := by
  intro n
  induction n with
  | zero => exact Nat.le_refl _
  | succ n ih =>
    rw [zS_s]
    show _ ≤ smm (fun i => (f i).natAbs) n + (f n).natAbs
    have := Int.natAbs_add_le (zS f n) (f n)
    omega
theorem abs_sg (j : Nat) : (sg j).natAbs = 1 := by
  unfold sg
  split <;> rfl
theorem dt_abs : ∀ {n : Nat} {V : Nat → Nat → Int} {w : Nat → Nat → Nat}, (∀ j i, j < n → i < n → (V j i).natAbs ≤ w j i) → (dt n V).natAbs ≤ pmN n w := by
  intro n
  induction n with
  | zero => intro _ _ _; exact Nat.le_refl _
  | succ n ih =>
    intro V w h
    rw [dt_s]
    refine Nat.le_trans (abs_zS _ _) (smm_mono fun j hj => ?_)
    rw [Int.natAbs_mul, Int.natAbs_mul, abs_sg, Nat.one_mul]
    exact Nat.mul_le_mul (h j 0 hj (by omega)) (ih fun k i hk hi => h _ _ (sk_lt hk) (by omega))
/-- the last vector is the last unit -/
theorem dt_last : ∀ {n : Nat} {V : Nat → Nat → Int}, (∀ i, i < n + 1 → V n i = eN n i) → dt (n + 1) V = dt n V := by
  intro n
  induction n with
  | zero =>
    intro V h
    rw [dt_s, zS_s]
    rw [show zS (fun j => sg j * (V j 0 * dt 0 fun k i => V (sk j k) (i + 1))) 0 = 0 from rfl, h 0 (by omega)]
    rfl
  | succ n ih =>
    intro V h
    rw [dt_s, zS_s, h 0 (by omega), show eN (n + 1) 0 = 0 from if_neg (by omega), Int.zero_mul, Int.mul_zero, Int.add_zero, dt_s n]
    refine zS_cong fun j hj => ?_
    rw [ih (V := fun k i => V (sk j k) (i + 1)) fun i hi => ?_]
    rw [show sk j n = n + 1 from by unfold sk; rw [if_neg (by omega)], h _ (by omega)]
    unfold eN
    by_cases c : i = n
    · rw [if_pos (by omega), if_pos c]
    · rw [if_neg (by omega), if_neg c]
def Bits (n : Nat) (u : Nat → Nat → Int) : Prop := ∀ j i, j < n → i < 6 → u j i = 0 ∨ u j i = 1
/-- seven points of the cube, where those of six and the corner are known -/
theorem seven_bits (h6 : ∀ u, Bits 6 u → (dt 6 u).natAbs ≤ 9) : ∀ n, n ≤ 6 → ∀ U : Nat → Nat → Int, Bits 7 U → (∀ j, j < 7 → U j 6 = -1) → (∀ i, n ≤ i → i < 6 → U 6 i = 0) → (dt 7 U).natAbs ≤ 9 := by
  intro n
  induction n with
  | zero =>
    intro _ U hb h1 h0
    have e : dt 7 U = dt 7 (st U 6 (fun i => -1 * eN 6 i)) := dt_ext fun j i hj hi => by
      by_cases c : j = 6
      · subst c
        rw [st_at]
        unfold eN
        by_cases d : i = 6
        · rw [if_pos d, d, h1 6 (by omega)]; rfl
        · rw [if_neg d, h0 i (by omega) (by omega)]; rfl
      · rw [st_ne c]
    rw [e, st_mul (by omega), Int.natAbs_mul, show (-1 : Int).natAbs = 1 from rfl, Nat.one_mul, dt_last fun i _ => by rw [st_at]]
    rw [dt_ext (n := 6) (V := st U 6 (eN 6)) (W := U) fun j i hj _ => by rw [st_ne (by omega)]]
    exact h6 U fun j i hj hi => hb j i (by omega) hi
  | succ n ih =>
    intro hn U hb h1 h0
    rcases hb 6 n (by omega) (by omega) with c | c
    · exact ih (by omega) U hb h1 fun i hi hi6 => by
        by_cases d : i = n
        · rw [d]; exact c
        · exact h0 i (by omega) hi6
    · -- the other way round
      have k := ih (by omega) (fun j i => if i = n then 1 - U j i else U j i) (fun j i hj hi => by
        (try dsimp only)
        rcases hb j i hj hi with z | z
        · split
          · right; omega
          · left; exact z
        · split
          · left; omega
          · right; exact z) (fun j hj => by
        (try dsimp only)
        rw [if_neg (by omega)]; exact h1 j hj) (fun i hi hi6 => by
        (try dsimp only)
        by_cases d : i = n
        · rw [if_pos d, d]; omega
        · rw [if_neg d]; exact h0 i (by omega) hi6)
      have z := dt_req (n := 7) (a := 6) (b := n) (by omega) (by omega) (by omega) 7 0 (fun j i => if i = n then U j 6 else U j i) rfl (fun j hj => by
        (try dsimp only)
        rw [if_neg (by omega), if_pos rfl]) (fun j hj => absurd hj (Nat.not_lt_zero j))
      have l := dt_rlin (n := 7) (V := fun j i => if i = n then 1 - U j i else U j i) (W := U) (U := fun j i => if i = n then U j 6 else U j i) (c := n) (a := -1) (b := -1) (by omega) (fun j hj => by
        (try dsimp only)
        rw [if_pos rfl, if_pos rfl, h1 j hj]
        omega) (fun j i hj hi hne => by
        (try dsimp only)
        rw [if_neg hne, if_neg hne]
        exact ⟨rfl, rfl⟩)
      rw [z] at l
      rw [l] at k
      omega
/-- the same for a greater cube, corner by corner -/
theorem box_seven {M : Int} (hM : 0 < M) {K : Int} (hK : ∀ V : Nat → Nat → Int, (∀ j i, j < 7 → i < 6 → V j i = 0 ∨ V j i = M) → (∀ j, j < 7 → V j 6 = -1) → -K ≤ dt 7 V ∧ dt 7 V ≤ K) : ∀ n, ∀ V : Nat → Nat → Int, (∀ j i, j < 7 → i < 6 → 0 ≤ V j i ∧ V j i ≤ M) → (∀ j, j < 7 → V j 6 = -1) → (∀ j i, j < 7 → i < 6 → n ≤ 6 * j + i → V j i = 0 ∨ V j i = M) → -K ≤ dt 7 V ∧ dt 7 V ≤ K := by
  intro n
  induction n with
  | zero => intro V _ h1 h2; exact hK V (fun j i hj hi => h2 j i hj hi (Nat.zero_le _)) h1
  | succ n ih =>
    intro V hb h1 h2
    by_cases c : n < 42
    · have hj : n / 6 < 7 := by omega
      have hi : n % 6 < 6 := by omega
      have part : ∀ y : Int, (y = 0 ∨ y = M) → -K ≤ dt 7 (st V (n / 6) (fun i => if i = n % 6 then y else V (n / 6) i)) ∧ dt 7 (st V (n / 6) (fun i => if i = n % 6 then y else V (n / 6) i)) ≤ K := fun y hy => by
        have at_ : ∀ j i, j < 7 → st V (n / 6) (fun i => if i = n % 6 then y else V (n / 6) i) j i = if j = n / 6 ∧ i = n % 6 then y else V j i := fun j i _ => by
          by_cases a : j = n / 6
          · rw [a, st_at]
            by_cases b : i = n % 6
            · rw [if_pos b, if_pos ⟨rfl, b⟩]
            · rw [if_neg b, if_neg fun z => b z.2]
          · rw [st_ne a, if_neg fun z => a z.1]
        refine ih _ (fun j i hj hi => ?_) (fun j hj => ?_) (fun j i hj hi hn => ?_)
        · rw [at_ j i hj]
          split
          · rcases hy with z | z <;> omega
          · exact hb j i hj hi
        · rw [at_ j 6 hj, if_neg (by omega)]
          exact h1 j hj
        · rw [at_ j i hj]
          by_cases a : j = n / 6 ∧ i = n % 6
          · rw [if_pos a]; exact hy
          · rw [if_neg a]
            refine h2 j i hj hi ?_
            omega
      have p0 := part 0 (Or.inl rfl)
      have pM := part M (Or.inr rfl)
      have x := hb (n / 6) (n % 6) hj hi
      have l := st_lin (n := 7) (V := V) (c := n / 6) hj (M - V (n / 6) (n % 6)) (V (n / 6) (n % 6)) (fun i => if i = n % 6 then 0 else V (n / 6) i) (fun i => if i = n % 6 then M else V (n / 6) i)
      have e : (fun i => (M - V (n / 6) (n % 6)) * (if i = n % 6 then 0 else V (n / 6) i) + V (n / 6) (n % 6) * (if i = n % 6 then M else V (n / 6) i)) = fun i => M * V (n / 6) i := by
        funext i
        by_cases a : i = n % 6
        · rw [if_pos a, if_pos a, a, Int.mul_zero, Int.zero_add, Int.mul_comm]
        · rw [if_neg a, if_neg a, ← Int.add_mul]
          congr 1
          omega
      rw [e, st_mul hj, st_same] at l
      generalize dt 7 (st V (n / 6) fun i => if i = n % 6 then 0 else V (n / 6) i) = D0 at *
      generalize dt 7 (st V (n / 6) fun i => if i = n % 6 then M else V (n / 6) i) = DM at *
      generalize dt 7 V = D at *
      generalize V (n / 6) (n % 6) = v at *
      have a1 : (M - v) * D0 ≤ (M - v) * K := Int.mul_le_mul_of_nonneg_left p0.2 (by omega)
      have a2 : v * DM ≤ v * K := Int.mul_le_mul_of_nonneg_left pM.2 x.1
      have b1 : (M - v) * -K ≤ (M - v) * D0 := Int.mul_le_mul_of_nonneg_left p0.1 (by omega)
      have b2 : v * -K ≤ v * DM := Int.mul_le_mul_of_nonneg_left pM.1 x.1
      have s1 : (M - v) * K + v * K = M * K := by rw [← Int.add_mul]; congr 1; omega
      have s2 : (M - v) * -K + v * -K = M * -K := by rw [← Int.add_mul]; congr 1; omega
      exact ⟨Int.le_of_mul_le_mul_left (show M * -K ≤ M * D by omega) hM, Int.le_of_mul_le_mul_left (show M * D ≤ M * K by omega) hM⟩
    · exact ih V hb h1 fun j i hj hi hn => by omega
theorem big_seven (h6 : ∀ u, Bits 6 u → (dt 6 u).natAbs ≤ 9) {V : Nat → Nat → Int} (hb : ∀ j i, j < 7 → i < 6 → 0 ≤ V j i ∧ V j i ≤ 1001) (h1 : ∀ j, j < 7 → V j 6 = -1) : -(9 * 1001 ^ 6) ≤ dt 7 V ∧ dt 7 V ≤ 9 * 1001 ^ 6 := by
  refine box_seven (M := 1001) (by decide) (K := 9 * 1001 ^ 6) (fun W hW hW1 => ?_) 42 V hb h1 (fun j i hj hi hn => by omega)
  have e : dt 7 W = dt 7 (fun j i => (fun i => if i < 6 then (1001 : Int) else 1) i * (fun j i => if i < 6 then (if W j i = 0 then 0 else 1) else -1) j i) := dt_ext fun j i hj hi => by
    (try dsimp only)
    by_cases c : i < 6
    · rw [if_pos c, if_pos c]
      rcases hW j i hj c with z | z
      · rw [if_pos z, z]; rfl
      · rw [if_neg (by omega), z]; rfl
    · rw [if_neg c, if_neg c, show i = 6 by omega, hW1 j hj]; rfl
  rw [e, dt_scale, show zP (fun i => if i < 6 then (1001 : Int) else 1) 7 = 1001 ^ 6 from by decide]
  have k := seven_bits h6 6 (Nat.le_refl _) (fun j i => if i < 6 then (if W j i = 0 then 0 else 1) else -1) (fun j i hj hi => by
    (try dsimp only)
    rw [if_pos hi]
    split
    · exact Or.inl rfl
    · exact Or.inr rfl) (fun j hj => if_neg (by omega)) (fun i h1 h2 => by omega)
  generalize dt 7 (fun j i => if i < 6 then (if W j i = 0 then (0 : Int) else 1) else -1) = D at *
  have e6 : (1001 : Int) ^ 6 = 1006015020015006001 := by decide
  rw [e6]
  omega
