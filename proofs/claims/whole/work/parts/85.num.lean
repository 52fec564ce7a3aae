/-! Numbers and loops of the pure functions. -/
abbrev jn (n : Nat) : Int32 := Int32.ofNat n
theorem jn_lt {a b : Nat} (ha : a < 2147483648) (hb : b < 2147483648) : jn a < jn b ↔ a < b := Int32.ofNat_lt_iff_lt ha hb
theorem jn_le {a b : Nat} (ha : a < 2147483648) (hb : b < 2147483648) : jn a ≤ jn b ↔ a ≤ b := Int32.ofNat_le_iff_le ha hb
theorem jn_cl {a : Nat} (h : a < 2147483648) : (jn a).toNatClampNeg = a := Int32.toNatClampNeg_ofNat_of_lt h
theorem jn_int {a : Nat} (h : a < 2147483648) : (jn a).toInt = a := Int32.toInt_ofNat_of_lt h
theorem jn_add (a b : Nat) : jn a + jn b = jn (a + b) := (Int32.ofNat_add a b).symm
theorem jn_mul (a b : Nat) : jn a * jn b = jn (a * b) := (Int32.ofNat_mul a b).symm
theorem jn_sub {a b : Nat} (h : b ≤ a) : jn a - jn b = jn (a - b) := (Int32.ofNat_sub a b h).symm
theorem jn_neg {a : Nat} (h : a < 2147483648) : ¬ jn a < 0 := by
  rw [Int32.lt_iff_toInt_lt, jn_int h]
  simp
theorem jn_nn {a : Nat} (h : a < 2147483648) : (0 : Int32) ≤ jn a := Int32.zero_le_ofNat_of_lt h
theorem jn_inj {a b : Nat} (ha : a < 2147483648) (hb : b < 2147483648) : jn a = jn b ↔ a = b := by
  constructor
  · intro h
    have := congrArg Int32.toInt h
    rw [jn_int ha, jn_int hb] at this
    omega
  · intro h; rw [h]
theorem gd_jn {α : Type} {a n : Nat} {x : Option α} (h : a < n) (ha : a < 2147483648) : gd (jn a) n x = x := by
  unfold gd
  rw [if_neg]
  rintro (h1 | h1)
  · exact jn_neg ha h1
  · rw [jn_cl ha] at h1; omega
theorem ex_jn {x : Int32} (h : 0 ≤ x) : ∃ k : Nat, k < 2147483648 ∧ x = jn k := by
  have h0 : (0 : Int) ≤ x.toInt := by
    have := Int32.le_iff_toInt_le.mp h
    simpa using this
  have h1 := Int32.toInt_lt x
  refine ⟨x.toInt.toNat, by omega, ?_⟩
  apply Int32.toInt_inj.mp
  rw [jn_int (by omega)]
  omega
/-- a number between two bounds is a small Nat -/
theorem ex_in {x : Int32} {lo hi : Nat} (hl : lo < 2147483648) (hh : hi < 2147483648) (h1 : jn lo ≤ x) (h2 : x ≤ jn hi) : ∃ k : Nat, lo ≤ k ∧ k ≤ hi ∧ x = jn k := by
  have h0 : (0 : Int32) ≤ x := by
    rw [Int32.le_iff_toInt_le] at h1 h2 ⊢
    rw [jn_int hl] at h1
    have : (0 : Int32).toInt = 0 := rfl
    omega
  obtain ⟨k, hk, rfl⟩ := ex_jn h0
  refine ⟨k, ?_, ?_, rfl⟩
  · rwa [jn_le hl hk] at h1
  · rwa [jn_le hk hh] at h2
theorem io (x : Int32) (lo hi : Nat) (hl : lo < 2147483648 := by decide) (hh : hi < 2147483648 := by decide) : (∃ k : Nat, lo ≤ k ∧ k ≤ hi ∧ x = jn k) ∨ ¬ (jn lo ≤ x ∧ x ≤ jn hi) := by
  by_cases h : jn lo ≤ x ∧ x ≤ jn hi
  · exact Or.inl (ex_in hl hh h.1 h.2)
  · exact Or.inr h
theorem z0 {α : Type} {a b : α} : (if (0 : Int32) = 0 then a else b) = a := if_pos rfl
theorem o0 {α : Type} {a b : α} : (if (1 : Int32) = 0 then a else b) = b := if_neg (by decide)
theorem bs {α β : Type} {a : α} {f : α → Option β} : (some a).bind f = f a := rfl
/-- a loop with a measure that falls -/
theorem lp_wf {X Y : Type} {b : X → Option (X ⊕ Y)} (μ : X → Nat) (I : X → Prop) (Q : Y → Prop) (h : ∀ x, I x → (∃ x', b x = some (.inl x') ∧ I x' ∧ μ x' < μ x) ∨ (∃ y, b x = some (.inr y) ∧ Q y)) : ∀ x, I x → ∃ y, lp b x = some y ∧ Q y := by
  intro x
  induction hm : μ x using Nat.strongRecOn generalizing x with
  | _ n ih =>
    intro hx
    rcases h x hx with ⟨x', e, hx', hlt⟩ | ⟨y, e, hq⟩
    · obtain ⟨y, hy, hq⟩ := ih (μ x') (by omega) x' rfl hx'
      exact ⟨y, by rw [lp_l e]; exact hy, hq⟩
    · exact ⟨y, lp_r e, hq⟩
/-- a loop that counts from a up to n; f lays its variables out -/
theorem lp_cnt {X Y S : Type} {b : X → Option (X ⊕ Y)} (f : Nat → S → X) (n : Nat) (I : Nat → S → Prop) (Q : Y → Prop) (step : ∀ i s, i < n → I i s → ∃ s', b (f i s) = some (.inl (f (i + 1) s')) ∧ I (i + 1) s') (fin : ∀ s, I n s → ∃ y, b (f n s) = some (.inr y) ∧ Q y) : ∀ a s, a ≤ n → I a s → ∃ y, lp b (f a s) = some y ∧ Q y := by
  intro a
  induction hm : n - a generalizing a with
  | zero =>
    intro s ha hI
    have : a = n := by omega
    subst this
    obtain ⟨y, e, hq⟩ := fin s hI
    exact ⟨y, lp_r e, hq⟩
  | succ m ih =>
    intro s ha hI
    obtain ⟨s', e, hI'⟩ := step a s (by omega) hI
    obtain ⟨y, hy, hq⟩ := ih (a + 1) (by omega) s' (by omega) hI'
    exact ⟨y, by rw [lp_l e]; exact hy, hq⟩
/-- the same, going on while a test holds, and told by what the state is -/
theorem lp_it {X Y S : Type} {b : X → Option (X ⊕ Y)} (f : Nat → S → X) (n : Nat) (g : Nat → S → S) (out : S → Y) (step : ∀ i s, i < n → b (f i s) = some (.inl (f (i + 1) (g i s)))) (fin : ∀ s, b (f n s) = some (.inr (out s))) : ∀ a s, a ≤ n → lp b (f a s) = some (out ((List.range' a (n - a)).foldl (fun s i => g i s) s)) := by
  intro a
  induction hm : n - a generalizing a with
  | zero =>
    intro s ha
    have : a = n := by omega
    subst this
    exact lp_r (fin s)
  | succ m ih =>
    intro s ha
    rw [lp_l (step a s (by omega)), ih (a + 1) (by omega) _ (by omega)]
    rfl
theorem m_in_eq (t : St) (a lo hi : Int32) : m_in t a lo hi = some (if lo ≤ a ∧ a ≤ hi then 1 else 0) := by
  unfold m_in
  by_cases h1 : a < lo
  · rw [if_pos h1, if_neg]
    rintro ⟨h2, -⟩
    rw [Int32.lt_iff_toInt_lt] at h1
    rw [Int32.le_iff_toInt_le] at h2
    omega
  · rw [if_neg h1]
    have h1' : lo ≤ a := by
      rw [Int32.lt_iff_toInt_lt] at h1
      rw [Int32.le_iff_toInt_le]
      omega
    by_cases h2 : hi < a
    · rw [if_pos h2, if_neg]
      rintro ⟨-, h3⟩
      rw [Int32.lt_iff_toInt_lt] at h2
      rw [Int32.le_iff_toInt_le] at h3
      omega
    · rw [if_neg h2, if_pos]
      refine ⟨h1', ?_⟩
      rw [Int32.lt_iff_toInt_lt] at h2
      rw [Int32.le_iff_toInt_le]
      omega
theorem x11_outside_eq (t : St) (a lo hi : Int32) : x11_outside t a lo hi = some (if lo ≤ a ∧ a ≤ hi then 0 else 1) := by
  unfold x11_outside
  by_cases h1 : a < lo
  · rw [if_pos h1, if_neg]
    rintro ⟨h2, -⟩
    rw [Int32.lt_iff_toInt_lt] at h1
    rw [Int32.le_iff_toInt_le] at h2
    omega
  · rw [if_neg h1]
    have h1' : lo ≤ a := by
      rw [Int32.lt_iff_toInt_lt] at h1
      rw [Int32.le_iff_toInt_le]
      omega
    by_cases h2 : a ≤ hi
    · rw [if_pos h2, if_pos ⟨h1', h2⟩]
    · rw [if_neg h2, if_neg]
      rintro ⟨-, h3⟩
      exact h2 h3
theorem oT {k lo hi : Nat} (h1 : lo ≤ k) (h2 : k ≤ hi) (hh : hi < 2147483648) (t : St) : x11_outside t (jn k) (jn lo) (jn hi) = some 0 := by
  rw [x11_outside_eq, if_pos ⟨(jn_le (by omega) (by omega)).mpr h1, (jn_le (by omega) (by omega)).mpr h2⟩]
theorem oF {x : Int32} {lo hi : Nat} (h : ¬ (jn lo ≤ x ∧ x ≤ jn hi)) (t : St) : x11_outside t x (jn lo) (jn hi) = some 1 := by
  rw [x11_outside_eq, if_neg h]
theorem iT {k lo hi : Nat} (h1 : lo ≤ k) (h2 : k ≤ hi) (hh : hi < 2147483648) (t : St) : m_in t (jn k) (jn lo) (jn hi) = some 1 := by
  rw [m_in_eq, if_pos ⟨(jn_le (by omega) (by omega)).mpr h1, (jn_le (by omega) (by omega)).mpr h2⟩]
theorem iF {x : Int32} {lo hi : Nat} (h : ¬ (jn lo ≤ x ∧ x ≤ jn hi)) (t : St) : m_in t x (jn lo) (jn hi) = some 0 := by
  rw [m_in_eq, if_neg h]
theorem up_at {α : Type} {f : Nat → α} {k : Nat} {v : α} : va_up f k v k = v := if_pos rfl
theorem up_ne {α : Type} {f : Nat → α} {k j : Nat} {v : α} (h : j ≠ k) : va_up f k v j = f j := if_neg h
theorem gA_sA {t : St} {k : Nat} {i v : Int32} : gA (sA t k i v) k = upd (gA t k) i.toNatClampNeg v := up_at
theorem gA_sA_ne {t : St} {k j : Nat} {i v : Int32} (h : j ≠ k) : gA (sA t k i v) j = gA t j := up_ne h
theorem upd_at {f : Nat → Int32} {k : Nat} {v : Int32} : upd f k v k = v := by simp [upd]
theorem upd_ne {f : Nat → Int32} {k j : Nat} {v : Int32} (h : j ≠ k) : upd f k v j = f j := by simp [upd, h]
/-- two loops side by side -/
theorem lp_two {X X' Y Y' : Type} {b : X → Option (X ⊕ Y)} {b' : X' → Option (X' ⊕ Y')} (μ : X → Nat) (I : X → X' → Prop) (Q : Y → Y' → Prop) (h : ∀ x x', I x x' → (∃ u u', b x = some (.inl u) ∧ b' x' = some (.inl u') ∧ I u u' ∧ μ u < μ x) ∨ (∃ y y', b x = some (.inr y) ∧ b' x' = some (.inr y') ∧ Q y y')) : ∀ x x', I x x' → ∃ y y', lp b x = some y ∧ lp b' x' = some y' ∧ Q y y' := by
  intro x
  induction hm : μ x using Nat.strongRecOn generalizing x with
  | _ n ih =>
    intro x' hx
    rcases h x x' hx with ⟨u, u', e, e', hu, hlt⟩ | ⟨y, y', e, e', hq⟩
    · obtain ⟨y, y', hy, hy', hq⟩ := ih (μ u) (by omega) u rfl u' hu
      exact ⟨y, y', by rw [lp_l e]; exact hy, by rw [lp_l e']; exact hy', hq⟩
    · exact ⟨y, y', lp_r e, lp_r e', hq⟩
theorem jn_div {a b : Nat} (ha : a < 2147483648) (hb : b < 2147483648) : jn a / jn b = jn (a / b) := (Int32.ofNat_div ha hb).symm
theorem jn_rem {a b : Nat} (ha : a < 2147483648) (hb : b < 2147483648) : jn a - jn a / jn b * jn b = jn (a % b) := by
  rw [jn_div ha hb, jn_mul, jn_sub (Nat.div_mul_le_self a b)]
  congr 1
  have := Nat.div_add_mod a b
  rw [Nat.mul_comm] at this
  omega
theorem dv_jn {α : Type} {a : Nat} {x : Option α} (h0 : 0 < a) (ha : a < 2147483648) : dv (jn a) x = x := by
  unfold dv
  rw [if_neg]
  intro e
  have := (jn_inj (b := 0) ha (by omega)).mp e
  omega
theorem jn_nz {n : Nat} (h : ¬ n = 0) (hn : n < 2147483648) : ¬ jn n = (0 : Int32) := fun e => h ((jn_inj (b := 0) hn (by omega)).mp e)
