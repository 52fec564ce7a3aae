/-! Determinants of whole numbers. -/
def zS (f : Nat → Int) : Nat → Int
  | 0 => 0
  | n + 1 => zS f n + f n
theorem zS_s (f : Nat → Int) (n : Nat) : zS f (n + 1) = zS f n + f n := rfl
theorem zS_cong {f g : Nat → Int} : ∀ {n : Nat}, (∀ i, i < n → f i = g i) → zS f n = zS g n := by
  intro n
  induction n with
  | zero => intro _; rfl
  | succ n ih => intro h; rw [zS_s, zS_s, ih fun i hi => h i (by omega), h n (by omega)]
theorem zS_add (f g : Nat → Int) : ∀ n, zS (fun i => f i + g i) n = zS f n + zS g n := by
  intro n
  induction n with
  | zero => rfl
  | succ n ih => rw [zS_s, zS_s, zS_s, ih]; omega
theorem zS_mul (c : Int) (f : Nat → Int) : ∀ n, zS (fun i => c * f i) n = c * zS f n := by
  intro n
  induction n with
  | zero => exact (Int.mul_zero c).symm
  | succ n ih => rw [zS_s, zS_s, ih, Int.mul_add]
theorem zS_zero {f : Nat → Int} : ∀ {n : Nat}, (∀ i, i < n → f i = 0) → zS f n = 0 := by
  intro n
  induction n with
  | zero => intro _; rfl
  | succ n ih => intro h; rw [zS_s, ih fun i hi => h i (by omega), h n (by omega)]; rfl
theorem zS_one {f : Nat → Int} {a : Nat} : ∀ {n : Nat}, a < n → (∀ i, i < n → i ≠ a → f i = 0) → zS f n = f a := by
  intro n
  induction n with
  | zero => intro h; omega
  | succ n ih =>
    intro h g
    rw [zS_s]
    by_cases c : a = n
    · subst c
      rw [zS_zero fun i hi => g i (by omega) (by omega)]
      omega
    · rw [ih (by omega) fun i hi => g i (by omega), g n (by omega) (by omega)]
      omega
theorem zS_pair {f : Nat → Int} {a b : Nat} : ∀ {n : Nat}, a < b → b < n → (∀ i, i < n → i ≠ a → i ≠ b → f i = 0) → zS f n = f a + f b := by
  intro n
  induction n with
  | zero => intro _ h; omega
  | succ n ih =>
    intro h1 h2 g
    rw [zS_s]
    by_cases c : b = n
    · subst c
      rw [zS_one (a := a) (by omega) fun i hi ha => g i (by omega) ha (by omega)]
    · rw [ih h1 (by omega) fun i hi => g i (by omega), g n (by omega) (by omega) (by omega)]
      omega
theorem zS_pos {f : Nat → Int} : ∀ {n : Nat}, 0 < zS f n → ∃ i, i < n ∧ 0 < f i := by
  intro n
  induction n with
  | zero => intro h; exact absurd h (Int.lt_irrefl 0)
  | succ n ih =>
    intro h
    rw [zS_s] at h
    by_cases c : 0 < f n
    · exact ⟨n, by omega, c⟩
    · obtain ⟨i, i1, i2⟩ := ih (by omega)
      exact ⟨i, by omega, i2⟩
theorem zS_nonpos {f : Nat → Int} : ∀ {n : Nat}, (∀ i, i < n → f i ≤ 0) → zS f n ≤ 0 := by
  intro n
  induction n with
  | zero => intro _; exact Int.le_refl _
  | succ n ih =>
    intro h
    have a := ih fun i hi => h i (by omega)
    have b := h n (by omega)
    rw [zS_s]
    omega
def sk (j k : Nat) : Nat := if k < j then k else k + 1
theorem sk_ne (j k : Nat) : sk j k ≠ j := by unfold sk; split <;> omega
theorem sk_lt {j k n : Nat} (hk : k < n) : sk j k < n + 1 := by unfold sk; split <;> omega
theorem sk_inj {j k l : Nat} (h : sk j k = sk j l) : k = l := by
  unfold sk at h
  split at h <;> split at h <;> omega
def sb (j c : Nat) : Nat := if c < j then c else c - 1
theorem sk_sb {j c : Nat} (h : c ≠ j) : sk j (sb j c) = c := by
  unfold sk sb
  by_cases l : c < j
  · rw [if_pos l, if_pos l]
  · rw [if_neg l, if_neg (by omega)]
    omega
theorem sb_lt {j c n : Nat} (h : c ≠ j) (hj : j < n + 1) (hc : c < n + 1) : sb j c < n := by
  unfold sb
  split <;> omega
def sg (j : Nat) : Int := if j % 2 = 0 then 1 else -1
theorem sg_s (j : Nat) : sg (j + 1) = - sg j := by
  unfold sg
  split <;> split <;> omega
/-- V j i: number i of vector j -/
def dt : Nat → (Nat → Nat → Int) → Int
  | 0, _ => 1
  | n + 1, V => zS (fun j => sg j * (V j 0 * dt n (fun k i => V (sk j k) (i + 1)))) (n + 1)
theorem dt_s (n : Nat) (V : Nat → Nat → Int) : dt (n + 1) V = zS (fun j => sg j * (V j 0 * dt n (fun k i => V (sk j k) (i + 1)))) (n + 1) := rfl
theorem dt_ext : ∀ {n : Nat} {V W : Nat → Nat → Int}, (∀ j i, j < n → i < n → V j i = W j i) → dt n V = dt n W := by
  intro n
  induction n with
  | zero => intro _ _ _; rfl
  | succ n ih =>
    intro V W h
    rw [dt_s, dt_s]
    refine zS_cong fun j hj => ?_
    rw [h j 0 hj (by omega), ih fun k i hk hi => h _ _ (sk_lt hk) (by omega)]
theorem ring1 (s a b W U M : Int) : s * ((a * W + b * U) * M) = a * (s * (W * M)) + b * (s * (U * M)) := by
  rw [Int.add_mul, Int.mul_add]
  congr 1 <;> ac_rfl
theorem ring2 (s v a b M N : Int) : s * (v * (a * M + b * N)) = a * (s * (v * M)) + b * (s * (v * N)) := by
  rw [Int.mul_add, Int.mul_add]
  congr 1 <;> ac_rfl
theorem dt_lin : ∀ {n : Nat} {V W U : Nat → Nat → Int} {c : Nat} {a b : Int}, c < n → (∀ i, i < n → V c i = a * W c i + b * U c i) → (∀ k, k < n → k ≠ c → ∀ i, i < n → V k i = W k i ∧ V k i = U k i) → dt n V = a * dt n W + b * dt n U := by
  intro n
  induction n with
  | zero => intro _ _ _ c _ _ h; omega
  | succ n ih =>
    intro V W U c a b hc h g
    rw [dt_s, dt_s, dt_s, ← zS_mul, ← zS_mul, ← zS_add]
    refine zS_cong fun j hj => ?_
    by_cases e : j = c
    · subst e
      rw [h 0 (by omega), dt_ext (V := fun k i => V (sk j k) (i + 1)) (W := fun k i => W (sk j k) (i + 1)) fun k i hk hi => (g _ (sk_lt hk) (sk_ne j k) _ (by omega)).1, dt_ext (V := fun k i => U (sk j k) (i + 1)) (W := fun k i => W (sk j k) (i + 1)) fun k i hk hi => ((g _ (sk_lt hk) (sk_ne j k) _ (by omega)).2).symm.trans (g _ (sk_lt hk) (sk_ne j k) _ (by omega)).1]
      exact ring1 _ _ _ _ _ _
    · have cj : c ≠ j := fun z => e z.symm
      have gj := g j hj e 0 (by omega)
      have k := ih (V := fun k i => V (sk j k) (i + 1)) (W := fun k i => W (sk j k) (i + 1)) (U := fun k i => U (sk j k) (i + 1)) (c := sb j c) (a := a) (b := b) (sb_lt cj hj hc) (fun i hi => by
        (try dsimp only)
        rw [sk_sb cj]
        exact h _ (by omega)) (fun k hk hkc i hi => g _ (sk_lt hk) (fun z => hkc (sk_inj (z.trans (sk_sb cj).symm))) _ (by omega))
      rw [k, ← gj.1, ← gj.2]
      exact ring2 _ _ _ _ _ _
theorem dt_adj : ∀ {n : Nat} {V : Nat → Nat → Int} {c : Nat}, c + 1 < n → (∀ i, i < n → V c i = V (c + 1) i) → dt n V = 0 := by
  intro n
  induction n with
  | zero => intro _ c h; omega
  | succ n ih =>
    intro V c hc h
    rw [dt_s, zS_pair (a := c) (b := c + 1) (by omega) hc]
    · rw [sg_s, h 0 (by omega), dt_ext (V := fun k i => V (sk c k) (i + 1)) (W := fun k i => V (sk (c + 1) k) (i + 1)) fun k i hk hi => by
        unfold sk
        by_cases e : k = c
        · subst e
          rw [if_neg (by omega), if_pos (by omega)]
          exact (h _ (by omega)).symm
        · by_cases l : k < c
          · rw [if_pos l, if_pos (by omega)]
          · rw [if_neg l, if_neg (by omega)], Int.neg_mul]
      omega
    · intro j hj j1 j2
      have z : dt n (fun k i => V (sk j k) (i + 1)) = 0 := by
        by_cases l : j < c
        · refine ih (c := c - 1) (by omega) fun i hi => ?_
          (try dsimp only)
          rw [show sk j (c - 1) = c from by unfold sk; rw [if_neg (by omega)]; omega, show sk j (c - 1 + 1) = c + 1 from by unfold sk; rw [if_neg (by omega)]; omega]
          exact h _ (by omega)
        · refine ih (c := c) (by omega) fun i hi => ?_
          (try dsimp only)
          rw [show sk j c = c from by unfold sk; rw [if_pos (by omega)], show sk j (c + 1) = c + 1 from by unfold sk; rw [if_pos (by omega)]]
          exact h _ (by omega)
      rw [z, Int.mul_zero, Int.mul_zero]
def st (V : Nat → Nat → Int) (c : Nat) (x : Nat → Int) : Nat → Nat → Int := fun k => if k = c then x else V k
theorem st_at {V : Nat → Nat → Int} {c : Nat} {x : Nat → Int} : st V c x c = x := if_pos rfl
theorem st_ne {V : Nat → Nat → Int} {c k : Nat} {x : Nat → Int} (h : k ≠ c) : st V c x k = V k := if_neg h
theorem st_lin {n : Nat} {V : Nat → Nat → Int} {c : Nat} (hc : c < n) (a b : Int) (x y : Nat → Int) : dt n (st V c (fun i => a * x i + b * y i)) = a * dt n (st V c x) + b * dt n (st V c y) :=
  dt_lin hc (fun i _ => by rw [st_at, st_at, st_at]) (fun k _ hk i _ => by rw [st_ne hk, st_ne hk, st_ne hk]; exact ⟨rfl, rfl⟩)
theorem st_swap_adj {n : Nat} {V : Nat → Nat → Int} {p : Nat} (hp : p + 1 < n) (x y : Nat → Int) : dt n (st (st V p x) (p + 1) y) = - dt n (st (st V p y) (p + 1) x) := by
  have e1 : ∀ u w : Nat → Int, (∀ i, u i = w i) → dt n (st (st V p u) (p + 1) w) = 0 := fun u w h => dt_adj hp fun i _ => by
    rw [st_at, st_ne (by omega), st_at]; exact h i
  have z := e1 (fun i => 1 * x i + 1 * y i) (fun i => 1 * x i + 1 * y i) fun _ => rfl
  have cm : ∀ u w : Nat → Int, st (st V p u) (p + 1) w = st (st V (p + 1) w) p u := fun u w => by
    funext k
    unfold st
    by_cases a : k = p
    · rw [if_neg (by omega), if_pos a, if_pos a]
    · by_cases b : k = p + 1
      · rw [if_pos b, if_neg a, if_pos b]
      · rw [if_neg b, if_neg a, if_neg a, if_neg b]
  rw [st_lin hp, cm, cm, st_lin (by omega), st_lin (by omega), ← cm, ← cm, ← cm, ← cm, e1 x x fun _ => rfl, e1 y y fun _ => rfl] at z
  omega
/-- two like vectors -/
theorem dt_two : ∀ d {n : Nat} {V : Nat → Nat → Int} {a : Nat}, a + d + 1 < n → (∀ i, i < n → V a i = V (a + d + 1) i) → dt n V = 0 := by
  intro d
  induction d with
  | zero => intro n V a ha h; exact dt_adj ha h
  | succ d ih =>
    intro n V a ha h
    have sw := st_swap_adj (V := V) (p := a + d + 1) (n := n) (by omega) (V (a + d + 1)) (V (a + d + 1 + 1))
    have e : dt n V = dt n (st (st V (a + d + 1) (V (a + d + 1))) (a + d + 1 + 1) (V (a + d + 1 + 1))) := dt_ext fun j i _ _ => by
      by_cases c : j = a + d + 1 + 1
      · subst c; rw [st_at]
      · rw [st_ne c]
        by_cases b : j = a + d + 1
        · subst b; rw [st_at]
        · rw [st_ne b]
    rw [e, sw, ih (a := a) (by omega) fun i hi => by
      rw [st_ne (show a ≠ a + d + 1 + 1 by omega), st_ne (show a ≠ a + d + 1 by omega), st_ne (show a + d + 1 ≠ a + d + 1 + 1 by omega), st_at]
      exact h i hi]
    rfl
theorem dt_eq {n : Nat} {V : Nat → Nat → Int} {a b : Nat} (ha : a < n) (hb : b < n) (hab : a ≠ b) (h : ∀ i, i < n → V a i = V b i) : dt n V = 0 := by
  rcases Nat.lt_or_ge a b with l | l
  · obtain ⟨d, rfl⟩ : ∃ d, b = a + d + 1 := ⟨b - a - 1, by omega⟩
    exact dt_two d hb h
  · obtain ⟨d, rfl⟩ : ∃ d, a = b + d + 1 := ⟨a - b - 1, by omega⟩
    exact dt_two d ha fun i hi => (h i hi).symm
theorem st_comm {V : Nat → Nat → Int} {p q : Nat} (h : p ≠ q) (x y : Nat → Int) : st (st V p x) q y = st (st V q y) p x := by
  funext k
  unfold st
  by_cases a : k = p
  · rw [if_neg (by omega), if_pos a, if_pos a]
  · by_cases b : k = q
    · rw [if_pos b, if_neg a, if_pos b]
    · rw [if_neg b, if_neg a, if_neg a, if_neg b]
theorem st_swap {n : Nat} {V : Nat → Nat → Int} {p q : Nat} (hp : p < n) (hq : q < n) (h : p ≠ q) (x y : Nat → Int) : dt n (st (st V p x) q y) = - dt n (st (st V p y) q x) := by
  have e1 : ∀ u : Nat → Int, dt n (st (st V p u) q u) = 0 := fun u => dt_eq hp hq h fun i _ => by
    rw [st_at, st_ne h, st_at]
  have z := e1 (fun i => 1 * x i + 1 * y i)
  rw [st_lin hq, st_comm h, st_comm h, st_lin hp, st_lin hp, ← st_comm h, ← st_comm h, ← st_comm h, ← st_comm h, e1 x, e1 y] at z
  omega
theorem st_same {n : Nat} {V : Nat → Nat → Int} {c : Nat} : dt n (st V c (V c)) = dt n V := dt_ext fun j i _ _ => by
  by_cases e : j = c
  · subst e; rw [st_at]
  · rw [st_ne e]
theorem st_st {V : Nat → Nat → Int} {c : Nat} {x y : Nat → Int} : st (st V c x) c y = st V c y := by
  funext k
  unfold st
  by_cases e : k = c
  · rw [if_pos e, if_pos e]
  · rw [if_neg e, if_neg e, if_neg e]
theorem st_sum {n : Nat} {V : Nat → Nat → Int} {c : Nat} (hc : c < n) (f : Nat → Int) (X : Nat → Nat → Int) : ∀ m, dt n (st V c (fun i => zS (fun l => f l * X l i) m)) = zS (fun l => f l * dt n (st V c (X l))) m := by
  intro m
  induction m with
  | zero =>
    have := st_lin (V := V) hc 0 0 (X 0) (X 0)
    rw [Int.zero_mul, Int.zero_add] at this
    rw [show zS (fun l => f l * dt n (st V c (X l))) 0 = 0 from rfl, ← this]
    refine dt_ext fun j i _ _ => ?_
    by_cases e : j = c
    · subst e
      rw [st_at, st_at, Int.zero_mul]
      rfl
    · rw [st_ne e, st_ne e]
  | succ m ih =>
    have := st_lin (V := V) hc 1 (f m) (fun i => zS (fun l => f l * X l i) m) (X m)
    rw [ih, Int.one_mul] at this
    rw [zS_s, ← this]
    refine dt_ext fun j i _ _ => ?_
    by_cases e : j = c
    · subst e
      rw [st_at, st_at, Int.one_mul]
      rfl
    · rw [st_ne e, st_ne e]
theorem st_mul {n : Nat} {V : Nat → Nat → Int} {c : Nat} (hc : c < n) (a : Int) (x : Nat → Int) : dt n (st V c (fun i => a * x i)) = a * dt n (st V c x) := by
  have := st_lin (V := V) hc a 0 x x
  rw [Int.zero_mul, Int.add_zero] at this
  rw [← this]
  refine dt_ext fun j i _ _ => ?_
  by_cases e : j = c
  · subst e; rw [st_at, st_at, Int.zero_mul, Int.add_zero]
  · rw [st_ne e, st_ne e]
def eN (j i : Nat) : Int := if i = j then 1 else 0
theorem dt_eN : ∀ n, dt n eN = 1 := by
  intro n
  induction n with
  | zero => rfl
  | succ n ih =>
    rw [dt_s, zS_one (a := 0) (by omega)]
    · rw [show sg 0 = 1 from rfl, show eN 0 0 = 1 from rfl, Int.one_mul, Int.one_mul, ← ih]
      refine dt_ext fun j i _ _ => ?_
      unfold eN sk
      rw [if_neg (show ¬ j < 0 by omega)]
      by_cases e : i = j
      · rw [if_pos (by omega), if_pos e]
      · rw [if_neg (by omega), if_neg e]
    · intro j hj h
      rw [show eN j 0 = 0 from if_neg (fun z => h z.symm), Int.zero_mul, Int.mul_zero]
/-- the units with one other vector -/
theorem dt_unit {n r : Nat} (hr : r < n) (a : Nat → Int) : dt n (st eN r a) = a r := by
  have e : dt n (st eN r a) = dt n (st eN r (fun i => zS (fun l => a l * eN l i) n)) := dt_ext fun j i _ hi => by
    by_cases c : j = r
    · subst c
      rw [st_at, st_at, zS_one (a := i) hi fun l _ hl => by
        unfold eN
        rw [if_neg (fun z => hl z.symm), Int.mul_zero]]
      unfold eN
      rw [if_pos rfl, Int.mul_one]
    · rw [st_ne c, st_ne c]
  rw [e, st_sum hr, zS_one (a := r) hr fun l hl hne => ?_, st_same, dt_eN, Int.mul_one]
  rw [dt_eq hl hr hne fun i _ => by rw [st_ne hne, st_at], Int.mul_zero]
