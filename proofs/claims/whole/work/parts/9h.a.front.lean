/-! The front of a price against a chance, as a row of sets. -/
def cov (pr V : Nat → Nat) (f t : Nat) : Prop := pr f ≤ pr t ∧ V f ≤ V t ∧ (pr f = pr t → V f = V t → f ≤ t)
theorem cov.self {pr V : Nat → Nat} {t : Nat} : cov pr V t t := ⟨Nat.le_refl _, Nat.le_refl _, fun _ _ => Nat.le_refl _⟩
theorem cov.trans {pr V : Nat → Nat} {a b c : Nat} (h : cov pr V a b) (g : cov pr V b c) : cov pr V a c := by
  obtain ⟨h1, h2, h3⟩ := h
  obtain ⟨g1, g2, g3⟩ := g
  refine ⟨by omega, by omega, fun e1 e2 => ?_⟩
  have := h3 (by omega) (by omega)
  have := g3 (by omega) (by omega)
  omega
theorem cov.anti {pr V : Nat → Nat} {a b : Nat} (h : cov pr V a b) (g : cov pr V b a) : a = b := by
  obtain ⟨h1, h2, h3⟩ := h
  obtain ⟨g1, g2, g3⟩ := g
  have := h3 (by omega) (by omega)
  have := g3 (by omega) (by omega)
  omega
/-- the n sets g 0 .. are the front of those of S -/
def Fr (pr V : Nat → Nat) (S : Nat → Prop) (n : Nat) (g : Nat → Nat) : Prop := (∀ i, i < n → S (g i)) ∧ (∀ t, S t → ∃ i, i < n ∧ cov pr V (g i) t) ∧ ∀ i j, i < j → j < n → pr (g i) < pr (g j) ∧ V (g j) < V (g i)
theorem Fr.up {pr V : Nat → Nat} {S S' : Nat → Prop} {n : Nat} {g : Nat → Nat} (h : Fr pr V S' n g) (h1 : ∀ t, S' t → S t) (h2 : ∀ t, S t → ∃ t', S' t' ∧ cov pr V t' t) : Fr pr V S n g := by
  obtain ⟨a, b, c⟩ := h
  refine ⟨fun i hi => h1 _ (a i hi), fun t ht => ?_, c⟩
  obtain ⟨t', k1, k2⟩ := h2 t ht
  obtain ⟨i, i1, i2⟩ := b t' k1
  exact ⟨i, i1, i2.trans k2⟩
theorem Fr.sub {pr V : Nat → Nat} {S : Nat → Prop} {n m : Nat} {g h : Nat → Nat} (a : Fr pr V S n g) (b : Fr pr V S m h) : ∀ i, i < n → ∃ j, j < m ∧ g i = h j := by
  intro i hi
  obtain ⟨j, j1, j2⟩ := b.2.1 _ (a.1 i hi)
  obtain ⟨k, k1, k2⟩ := a.2.1 _ (b.1 j j1)
  have e : k = i := by
    have c := k2.trans j2
    rcases Nat.lt_trichotomy k i with q | q | q
    · have := a.2.2 k i q hi
      have := c.2.1
      omega
    · exact q
    · have := a.2.2 i k q k1
      have := c.1
      omega
  rw [e] at k2
  exact ⟨j, j1, k2.anti j2⟩
theorem Fr.same {pr V : Nat → Nat} {S : Nat → Prop} {n m : Nat} {g h : Nat → Nat} (a : Fr pr V S n g) (b : Fr pr V S m h) : ∀ i, i < n → i < m ∧ g i = h i := by
  intro i
  induction i using Nat.strongRecOn with
  | _ i ih =>
    intro hi
    obtain ⟨j, j1, j2⟩ := a.sub b i hi
    have ji : i ≤ j := by
      rcases Nat.lt_or_ge j i with q | q
      · obtain ⟨-, e⟩ := ih j q (by omega)
        have := (a.2.2 j i q hi).1
        rw [e, ← j2] at this
        omega
      · exact q
    have im : i < m := by omega
    obtain ⟨k, k1, k2⟩ := b.sub a i im
    have ki : i ≤ k := by
      rcases Nat.lt_or_ge k i with q | q
      · obtain ⟨km, e⟩ := ih k q (by omega)
        have := (b.2.2 k i q im).1
        rw [← e, ← k2] at this
        omega
      · exact q
    have e : j = i := by
      rcases Nat.lt_or_ge i j with q | q
      · have h1 := (b.2.2 i j q j1).1
        rw [← j2, k2] at h1
        rcases Nat.lt_or_ge i k with r | r
        · have := (a.2.2 i k r k1).1
          omega
        · have : k = i := by omega
          rw [this] at h1
          omega
      · omega
    rw [e] at j2
    exact ⟨im, j2⟩
theorem Fr.len {pr V : Nat → Nat} {S : Nat → Prop} {n m : Nat} {g h : Nat → Nat} (a : Fr pr V S n g) (b : Fr pr V S m h) : n = m := by
  have h1 : n ≤ m := by
    rcases Nat.eq_zero_or_pos n with q | q
    · omega
    · have := (a.same b (n - 1) (by omega)).1
      omega
  have h2 : m ≤ n := by
    rcases Nat.eq_zero_or_pos m with q | q
    · omega
    · have := (b.same a (m - 1) (by omega)).1
      omega
  omega
theorem Fr.cong {pr V V' : Nat → Nat} {S : Nat → Prop} {n : Nat} {g g' : Nat → Nat} (h : Fr pr V S n g) (e : ∀ i, i < n → g' i = g i) (hV : ∀ s t, (V s < V t ↔ V' s < V' t)) : Fr pr V' S n g' := by
  have hle : ∀ s t, V s ≤ V t ↔ V' s ≤ V' t := fun s t => by
    have := hV t s
    omega
  obtain ⟨a, b, c⟩ := h
  refine ⟨fun i hi => by rw [e i hi]; exact a i hi, fun t ht => ?_, fun i j hij hj => ?_⟩
  · obtain ⟨i, i1, i2, i3, i4⟩ := b t ht
    refine ⟨i, i1, ?_⟩
    rw [e i i1]
    exact ⟨i2, (hle _ _).mp i3, fun q1 q2 => i4 q1 (by
      have h1 := (hle (g i) t).mpr (by omega)
      have h2 := (hle t (g i)).mpr (by omega)
      omega)⟩
  · rw [e i (by omega), e j hj]
    exact ⟨(c i j hij hj).1, (hV _ _).mp (c i j hij hj).2⟩
/-- the class: sets come by price, then number -/
def Bfr (pr : Nat → Nat) (t s : Nat) : Prop := pr t < pr s ∨ (pr t = pr s ∧ t < s)
theorem Fr.skip {pr V : Nat → Nat} {S : Nat → Prop} {n : Nat} {g : Nat → Nat} (h : Fr pr V S n g) {s : Nat} (hn : 0 < n) (hb : ∀ t, S t → Bfr pr t s) (hv : V (g (n - 1)) ≤ V s) : Fr pr V (fun t => S t ∨ t = s) n g := by
  obtain ⟨a, b, c⟩ := h
  refine ⟨fun i hi => Or.inl (a i hi), fun t ht => ?_, c⟩
  rcases ht with ht | rfl
  · exact b t ht
  · refine ⟨n - 1, by omega, ?_, hv, fun e _ => ?_⟩
    · rcases hb _ (a (n - 1) (by omega)) with q | q <;> omega
    · rcases hb _ (a (n - 1) (by omega)) with q | q <;> omega
theorem Fr.push {pr V : Nat → Nat} {S : Nat → Prop} {n : Nat} {g g' : Nat → Nat} (h : Fr pr V S n g) {s : Nat} (hv : 0 < n → V s < V (g (n - 1)) ∧ pr (g (n - 1)) < pr s) (e : ∀ i, i < n → g' i = g i) (es : g' n = s) : Fr pr V (fun t => S t ∨ t = s) (n + 1) g' := by
  obtain ⟨a, b, c⟩ := h
  refine ⟨fun i hi => ?_, fun t ht => ?_, fun i j hij hj => ?_⟩
  · by_cases q : i = n
    · subst q; exact Or.inr es
    · rw [e i (by omega)]; exact Or.inl (a i (by omega))
  · rcases ht with ht | rfl
    · obtain ⟨i, i1, i2⟩ := b t ht
      exact ⟨i, by omega, by rw [e i i1]; exact i2⟩
    · exact ⟨n, by omega, by rw [es]; exact cov.self⟩
  · by_cases q : j = n
    · subst q
      obtain ⟨v1, v2⟩ := hv (by omega)
      rw [e i hij, es]
      by_cases r : i = j - 1
      · subst r; exact ⟨v2, v1⟩
      · obtain ⟨w1, w2⟩ := c i (j - 1) (by omega) (by omega)
        exact ⟨by omega, by omega⟩
    · rw [e i (by omega), e j (by omega)]
      exact c i j hij (by omega)
theorem Fr.put {pr V : Nat → Nat} {S : Nat → Prop} {n : Nat} {g g' : Nat → Nat} (h : Fr pr V S n g) {s : Nat} (hn : 0 < n) (hv : V s < V (g (n - 1))) (hp : pr (g (n - 1)) = pr s) (e : ∀ i, i < n - 1 → g' i = g i) (es : g' (n - 1) = s) : Fr pr V (fun t => S t ∨ t = s) n g' := by
  obtain ⟨a, b, c⟩ := h
  refine ⟨fun i hi => ?_, fun t ht => ?_, fun i j hij hj => ?_⟩
  · by_cases q : i = n - 1
    · subst q; exact Or.inr es
    · rw [e i (by omega)]; exact Or.inl (a i hi)
  · rcases ht with ht | rfl
    · obtain ⟨i, i1, i2⟩ := b t ht
      by_cases q : i = n - 1
      · subst q
        obtain ⟨k1, k2, k3⟩ := i2
        exact ⟨n - 1, i1, by rw [es]; exact ⟨by omega, by omega, fun _ z => by omega⟩⟩
      · exact ⟨i, i1, by rw [e i (by omega)]; exact i2⟩
    · exact ⟨n - 1, by omega, by rw [es]; exact cov.self⟩
  · by_cases q : j = n - 1
    · subst q
      obtain ⟨w1, w2⟩ := c i (n - 1) hij (by omega)
      rw [e i hij, es]
      exact ⟨by omega, by omega⟩
    · rw [e i (by omega), e j (by omega)]
      exact c i j hij hj
/-- the reference: the next is the first of those with less chance -/
def Nx (V : Nat → Nat) (n : Nat) (g : Nat → Nat) (t : Nat) : Prop := n = 0 ∨ V t < V (g (n - 1))
def lexLe (pr V : Nat → Nat) (b t : Nat) : Prop := pr b < pr t ∨ (pr b = pr t ∧ (V b < V t ∨ (V b = V t ∧ b ≤ t)))
def Gr (pr V : Nat → Nat) (S : Nat → Prop) (n : Nat) (g : Nat → Nat) : Prop := (∀ i, i < n → S (g i)) ∧ (∀ i j, i < j → j < n → pr (g i) < pr (g j) ∧ V (g j) < V (g i)) ∧ (∀ t, S t → 0 < n → V t < V (g (n - 1)) → pr (g (n - 1)) < pr t) ∧ ∀ t, S t → 0 < n → V (g (n - 1)) ≤ V t → ∃ i, i < n ∧ cov pr V (g i) t
theorem Gr.nil {pr V : Nat → Nat} {S : Nat → Prop} {g : Nat → Nat} : Gr pr V S 0 g := ⟨fun i hi => absurd hi (Nat.not_lt_zero i), fun i j _ hj => absurd hj (Nat.not_lt_zero j), fun _ _ h => absurd h (Nat.lt_irrefl 0), fun _ _ h => absurd h (Nat.lt_irrefl 0)⟩
theorem Gr.next {pr V : Nat → Nat} {S : Nat → Prop} {n : Nat} {g g' : Nat → Nat} (h : Gr pr V S n g) {b : Nat} (hb : S b) (hx : Nx V n g b) (hl : ∀ t, S t → Nx V n g t → lexLe pr V b t) (e : ∀ i, i < n → g' i = g i) (es : g' n = b) : Gr pr V S (n + 1) g' := by
  obtain ⟨a, c, d, f⟩ := h
  refine ⟨fun i hi => ?_, fun i j hij hj => ?_, fun t ht _ hv => ?_, fun t ht _ hv => ?_⟩
  · by_cases q : i = n
    · subst q; rw [es]; exact hb
    · rw [e i (by omega)]; exact a i (by omega)
  · by_cases q : j = n
    · subst q
      rcases hx with hx | hx
      · omega
      have k := d b hb (by omega) hx
      rw [e i hij, es]
      by_cases r : i = j - 1
      · subst r; exact ⟨k, hx⟩
      · obtain ⟨w1, w2⟩ := c i (j - 1) (by omega) (by omega)
        exact ⟨by omega, by omega⟩
    · rw [e i (by omega), e j (by omega)]
      exact c i j hij (by omega)
  · rw [Nat.add_sub_cancel, es] at hv ⊢
    have nx : Nx V n g t := by
      rcases hx with hx | hx
      · exact Or.inl hx
      · exact Or.inr (by omega)
    rcases hl t ht nx with q | ⟨-, q | q⟩ <;> omega
  · rw [Nat.add_sub_cancel, es] at hv
    by_cases q : Nx V n g t
    · refine ⟨n, by omega, ?_⟩
      rw [es]
      rcases hl t ht q with r | ⟨r1, r | r⟩
      · exact ⟨by omega, hv, fun z => by omega⟩
      · exact ⟨by omega, hv, fun _ z => by omega⟩
      · exact ⟨by omega, hv, fun _ _ => r.2⟩
    · have n0 : 0 < n := by
        rcases Nat.eq_zero_or_pos n with z | z
        · exact absurd (Or.inl z) q
        · exact z
      have : V (g (n - 1)) ≤ V t := by
        rcases Nat.lt_or_ge (V t) (V (g (n - 1))) with z | z
        · exact absurd (Or.inr z) q
        · exact z
      obtain ⟨i, i1, i2⟩ := f t ht n0 this
      exact ⟨i, by omega, by rw [e i i1]; exact i2⟩
theorem Gr.fin {pr V : Nat → Nat} {S : Nat → Prop} {n : Nat} {g : Nat → Nat} (h : Gr pr V S n g) (hn : ∀ t, S t → ¬ Nx V n g t) : Fr pr V S n g := by
  obtain ⟨a, c, d, f⟩ := h
  refine ⟨a, fun t ht => ?_, c⟩
  have q := hn t ht
  have n0 : 0 < n := by
    rcases Nat.eq_zero_or_pos n with z | z
    · exact absurd (Or.inl z) q
    · exact z
  refine f t ht n0 ?_
  rcases Nat.lt_or_ge (V t) (V (g (n - 1))) with z | z
  · exact absurd (Or.inr z) q
  · exact z
/-- a front of sets below M has M at most -/
theorem inj_le {g : Nat → Nat} : ∀ n M, (∀ i, i < n → g i < M) → (∀ i j, i < j → j < n → g i ≠ g j) → n ≤ M := by
  intro n
  induction n generalizing g with
  | zero => intro M _ _; exact Nat.zero_le _
  | succ n ih =>
    intro M h1 h2
    have hM : 0 < M := Nat.lt_of_le_of_lt (Nat.zero_le _) (h1 n (by omega))
    -- the last value and M - 1 change places
    have k := ih (g := fun i => if g i = M - 1 then g n else g i) (M - 1) (fun i hi => by
      have a := h1 i (by omega)
      have b := h1 n (by omega)
      have c := h2 i n hi (by omega)
      skip
      split <;> omega) (fun i j hij hj => by
      have c := h2 i j hij (by omega)
      have c1 := h2 i n (by omega) (by omega)
      have c2 := h2 j n hj (by omega)
      skip
      split <;> split <;> omega)
    omega
theorem Gr.le {pr V : Nat → Nat} {M n : Nat} {g : Nat → Nat} (h : Gr pr V (fun t => t < M) n g) : n ≤ M := inj_le n M h.1 fun i j hij hj e => by
  have := (h.2.1 i j hij hj).1
  rw [e] at this
  omega
theorem Fr.le {pr V : Nat → Nat} {S : Nat → Prop} {M n : Nat} {g : Nat → Nat} (h : Fr pr V S n g) (hS : ∀ t, S t → t < M) : n ≤ M := inj_le n M (fun i hi => hS _ (h.1 i hi)) fun i j hij hj e => by
  have := (h.2.2 i j hij hj).1
  rw [e] at this
  omega
