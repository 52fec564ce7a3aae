/-! Diagrams: with four steps told, no more than 168 unlike tellings are left. -/
def Bw : Nat → Nat
  | 0 => 2
  | d + 1 => Bw d * Bw d
theorem Bw_pos (d : Nat) : 2 ≤ Bw d := by
  induction d with
  | zero => exact Nat.le_refl _
  | succ d ih => exact Nat.le_trans (show 2 ≤ 2 * 2 by decide) (Nat.mul_le_mul ih ih)
def leq : Nat → Nat → Nat → Bool
  | 0, a, b => decide (a ≤ b)
  | d + 1, a, b => leq d (a / Bw d) (b / Bw d) && leq d (a % Bw d) (b % Bw d)
def mlst : Nat → List Nat
  | 0 => [0, 1]
  | d + 1 => (mlst d).flatMap fun a => ((mlst d).filter (fun b => leq d a b)).map (fun b => a * Bw d + b)
theorem mlst4 : (mlst 4).length = 168 := by decide +kernel
theorem mlst3 : (mlst 3).length = 20 := by decide +kernel
theorem inj_len {v : Nat → Nat} : ∀ {n : Nat} {L : List Nat}, (∀ x, x < n → v x ∈ L) → (∀ x y, x < n → y < n → v x = v y → x = y) → n ≤ L.length := by
  intro n
  induction n with
  | zero => intro L _ _; exact Nat.zero_le _
  | succ n ih =>
    intro L h1 h2
    have hm := h1 n (by omega)
    have e := List.length_erase_of_mem hm
    have pos := List.length_pos_of_mem hm
    have := ih (L := L.erase (v n)) (fun x hx => (List.mem_erase_of_ne (fun e => by have := h2 x n (by omega) (by omega) e; omega)).mpr (h1 x (by omega))) (fun x y hx hy => h2 x y (by omega) (by omega))
    omega
/-- what a telling leaves, d levels from the end -/
def tbl (f : Nat → Bool) (m : Nat) : Nat → Nat → Nat
  | 0, s => if f s then 1 else 0
  | d + 1, s => tbl f m d s * Bw d + tbl f m d (s + 2 ^ (m - 1 - d))
theorem tbl_lt (f : Nat → Bool) (m d s : Nat) : tbl f m d s < Bw d := by
  induction d generalizing s with
  | zero => show (if f s then 1 else 0) < 2; split <;> omega
  | succ d ih =>
    have h1 := ih s
    have h2 := ih (s + 2 ^ (m - 1 - d))
    show tbl f m d s * Bw d + tbl f m d (s + 2 ^ (m - 1 - d)) < Bw d * Bw d
    have : (tbl f m d s + 1) * Bw d ≤ Bw d * Bw d := Nat.mul_le_mul_right _ h1
    rw [Nat.succ_mul] at this
    omega
theorem pair_div {a b B : Nat} (hb : b < B) : (a * B + b) / B = a ∧ (a * B + b) % B = b := by
  constructor
  · rw [Nat.mul_comm, Nat.mul_add_div (by omega), Nat.div_eq_of_lt hb]; rfl
  · rw [Nat.mul_comm, Nat.mul_add_mod, Nat.mod_eq_of_lt hb]
theorem pair_inj {a b a' b' B : Nat} (hb : b < B) (hb' : b' < B) (h : a * B + b = a' * B + b') : a = a' ∧ b = b' := by
  have h1 := pair_div (a := a) hb
  have h2 := pair_div (a := a') hb'
  rw [h] at h1
  exact ⟨h1.1.symm.trans h2.1, h1.2.symm.trans h2.2⟩
def subB (s u : Nat) : Prop := ∀ i, s.testBit i = true → u.testBit i = true
def MonF (f : Nat → Bool) (m : Nat) : Prop := ∀ s u, s < 2 ^ m → u < 2 ^ m → subB s u → f s = true → f u = true
theorem add_bit {s r : Nat} (h : s < 2 ^ r) (i : Nat) : (s + 2 ^ r).testBit i = (s.testBit i || decide (i = r)) := by
  rw [Nat.add_comm, show 2 ^ r + s = 2 ^ r * 1 + s by omega, Nat.testBit_two_pow_mul_add 1 h]
  by_cases c : i < r
  · rw [if_pos c, decide_eq_false (by omega), Bool.or_false]
  · rw [if_neg c, Nat.testBit_lt_two_pow (Nat.lt_of_lt_of_le h (Nat.pow_le_pow_right (by omega) (by omega))), Bool.false_or]
    by_cases e : i = r
    · subst e; rw [Nat.sub_self]; simp
    · rw [decide_eq_false e, show i - r = (i - r - 1) + 1 by omega, Nat.testBit_succ]
      simp
theorem tbl_mono {f : Nat → Bool} {m : Nat} (hf : MonF f m) {d : Nat} (hd : d ≤ m) : ∀ s u, s < 2 ^ (m - d) → u < 2 ^ (m - d) → subB s u → leq d (tbl f m d s) (tbl f m d u) = true := by
  induction d with
  | zero =>
    intro s u hs hu h
    refine decide_eq_true ?_
    show (if f s then 1 else 0) ≤ (if f u then 1 else 0)
    cases e : f s with
    | false => exact Nat.zero_le _
    | true => rw [hf s u hs hu h e]; exact Nat.le_refl _
  | succ d ih =>
    intro s u hs hu h
    have e2 : 2 ^ (m - d) = 2 ^ (m - 1 - d) + 2 ^ (m - 1 - d) := by
      rw [show m - d = (m - 1 - d) + 1 by omega, Nat.pow_succ]; omega
    rw [show m - (d + 1) = m - 1 - d by omega] at hs hu
    have i1 := ih (by omega) s u (by omega) (by omega) h
    have i2 := ih (by omega) (s + 2 ^ (m - 1 - d)) (u + 2 ^ (m - 1 - d)) (by omega) (by omega) (fun i hi => by
      rw [add_bit hs] at hi
      rw [add_bit hu]
      cases e : s.testBit i with
      | true => rw [h i e]; rfl
      | false => rw [e, Bool.false_or] at hi; rw [hi, Bool.or_true])
    show (leq d ((tbl f m d s * Bw d + tbl f m d (s + 2 ^ (m - 1 - d))) / Bw d) ((tbl f m d u * Bw d + tbl f m d (u + 2 ^ (m - 1 - d))) / Bw d) && leq d ((tbl f m d s * Bw d + tbl f m d (s + 2 ^ (m - 1 - d))) % Bw d) ((tbl f m d u * Bw d + tbl f m d (u + 2 ^ (m - 1 - d))) % Bw d)) = true
    rw [(pair_div (tbl_lt f m d _)).1, (pair_div (tbl_lt f m d _)).2, (pair_div (tbl_lt f m d _)).1, (pair_div (tbl_lt f m d _)).2, i1, i2]
    rfl
/-- a node's table -/
def vtb (f : Nat → Bool) (m : Nat) : Nat → Nat → Nat
  | 0, x => x
  | d + 1, x => if x < (dg f m d).1.length + 2 then vtb f m d x * Bw d + vtb f m d x else vtb f m d ((dg f m (d + 1)).1.getD (x - 2) (0, 0, 0)).2.1 * Bw d + vtb f m d ((dg f m (d + 1)).1.getD (x - 2) (0, 0, 0)).2.2
theorem vtb_old {f : Nat → Bool} {m d x : Nat} (h : x < (dg f m d).1.length + 2) : vtb f m (d + 1) x = vtb f m d x * Bw d + vtb f m d x := if_pos h
theorem vtb_new {f : Nat → Bool} {m d x : Nat} (h : ¬ x < (dg f m d).1.length + 2) : vtb f m (d + 1) x = vtb f m d ((dg f m (d + 1)).1.getD (x - 2) (0, 0, 0)).2.1 * Bw d + vtb f m d ((dg f m (d + 1)).1.getD (x - 2) (0, 0, 0)).2.2 := if_neg h
theorem mem_addN {N : List (Nat × Nat × Nat)} {r a b : Nat} {x : Nat × Nat × Nat} (h : x ∈ addN N r a b) : x ∈ N ∨ (x = (r, a, b) ∧ a ≠ b) := by
  unfold addN at h
  by_cases c : a = b ∨ (r, a, b) ∈ N
  · rw [if_pos c] at h; exact Or.inl h
  · rw [if_neg c] at h
    rcases List.mem_append.mp h with h | h
    · exact Or.inl h
    · exact Or.inr ⟨List.mem_singleton.mp h, fun e => c (Or.inl e)⟩
theorem mem_lvN {N : List (Nat × Nat × Nat)} {r w : Nat} {g : Nat → Nat} {n : Nat} {x : Nat × Nat × Nat} (h : x ∈ lvN N r w g n) : x ∈ N ∨ ∃ s, s < n ∧ x = (r, g s, g (s + w)) ∧ g s ≠ g (s + w) := by
  induction n with
  | zero => exact Or.inl h
  | succ n ih =>
    rcases mem_addN h with h | ⟨h1, h2⟩
    · rcases ih h with h | ⟨s, s1, s2⟩
      · exact Or.inl h
      · exact Or.inr ⟨s, by omega, s2⟩
    · exact Or.inr ⟨n, by omega, h1, h2⟩
theorem dg_mem {f : Nat → Bool} {m d : Nat} (hd : d ≤ m) {x : Nat × Nat × Nat} (h : x ∈ (dg f m d).1) : m - d ≤ x.1 ∧ x.1 < m := by
  induction d with
  | zero => exact absurd h List.not_mem_nil
  | succ d ih =>
    rw [dg_s] at h
    rcases mem_lvN h with h | ⟨s, -, e, -⟩
    · have := ih (by omega) h
      omega
    · rw [e]
      dsimp only
      omega
theorem leq_rfl : ∀ d a, leq d a a = true := by
  intro d
  induction d with
  | zero => intro a; exact decide_eq_true (Nat.le_refl _)
  | succ d ih =>
    intro a
    show (leq d _ _ && leq d _ _) = true
    rw [ih, ih]
    rfl
theorem mlst_pair {d a b : Nat} (ha : a ∈ mlst d) (hb : b ∈ mlst d) (h : leq d a b = true) : a * Bw d + b ∈ mlst (d + 1) := by
  show _ ∈ (mlst d).flatMap fun a => ((mlst d).filter (fun b => leq d a b)).map (fun b => a * Bw d + b)
  rw [List.mem_flatMap]
  exact ⟨a, ha, List.mem_map.mpr ⟨b, List.mem_filter.mpr ⟨hb, h⟩, rfl⟩⟩
theorem dg_ext (f : Nat → Bool) (m d : Nat) : Ext (dg f m d).1 (dg f m (d + 1)).1 := lvN_ext (dg f m d).1 (m - 1 - d) (2 ^ (m - 1 - d)) (dg f m d).2 (Nat.zero_le _)
/-- a node of a level -/
theorem dg_new {f : Nat → Bool} {m d i : Nat} (h1 : (dg f m d).1.length ≤ i) (h2 : i < (dg f m (d + 1)).1.length) : ∃ s, s < 2 ^ (m - 1 - d) ∧ (dg f m (d + 1)).1.getD i (0, 0, 0) = (m - 1 - d, (dg f m d).2 s, (dg f m d).2 (s + 2 ^ (m - 1 - d))) ∧ (dg f m d).2 s ≠ (dg f m d).2 (s + 2 ^ (m - 1 - d)) := by
  have hm := getD_memN h2
  have hm2 : (dg f m (d + 1)).1.getD i (0, 0, 0) ∈ lvN (dg f m d).1 (m - 1 - d) (2 ^ (m - 1 - d)) (dg f m d).2 (2 ^ (m - 1 - d)) := hm
  rcases mem_lvN hm2 with h | ⟨s, s1, s2, s3⟩
  · obtain ⟨j1, j2⟩ := ixn_mem h
    have e := (dg_ext f m d).at j1
    rw [j2] at e
    have := nd_at (dg_nd f m (d + 1)) (by have := (dg_ext f m d).len; omega) h2 e
    omega
  · exact ⟨s, s1, s2, s3⟩
theorem vtb_ok {f : Nat → Bool} {m : Nat} (hf : MonF f m) {d : Nat} (hd : d ≤ m) : (∀ s, s < 2 ^ (m - d) → vtb f m d ((dg f m d).2 s) = tbl f m d s) ∧ (∀ x, x < (dg f m d).1.length + 2 → vtb f m d x ∈ mlst d ∧ vtb f m d x < Bw d) ∧ ∀ x y, x < (dg f m d).1.length + 2 → y < (dg f m d).1.length + 2 → vtb f m d x = vtb f m d y → x = y := by
  induction d with
  | zero =>
    refine ⟨fun s _ => rfl, fun x hx => ?_, fun x y _ _ h => h⟩
    have hx2 : x < 2 := hx
    show x ∈ [0, 1] ∧ x < 2
    refine ⟨?_, hx2⟩
    rcases (show x = 0 ∨ x = 1 by omega) with e | e
    · rw [e]; exact List.mem_cons_self
    · rw [e]; exact List.mem_cons_of_mem _ List.mem_cons_self
  | succ d ih =>
    obtain ⟨ia, ib, ic⟩ := ih (by omega)
    have ok := (dg_ok f (m := m) (d := d) (by omega)).2
    have e2 : 2 ^ (m - d) = 2 ^ (m - 1 - d) + 2 ^ (m - 1 - d) := by
      rw [show m - d = (m - 1 - d) + 1 by omega, Nat.pow_succ]; omega
    have new : ∀ x, ¬ x < (dg f m d).1.length + 2 → x < (dg f m (d + 1)).1.length + 2 → ∃ s, s < 2 ^ (m - 1 - d) ∧ (dg f m (d + 1)).1.getD (x - 2) (0, 0, 0) = (m - 1 - d, (dg f m d).2 s, (dg f m d).2 (s + 2 ^ (m - 1 - d))) ∧ (dg f m d).2 s ≠ (dg f m d).2 (s + 2 ^ (m - 1 - d)) ∧ vtb f m (d + 1) x = vtb f m d ((dg f m d).2 s) * Bw d + vtb f m d ((dg f m d).2 (s + 2 ^ (m - 1 - d))) := fun x h1 h2 => by
      obtain ⟨s, s1, s2, s3⟩ := dg_new (f := f) (m := m) (d := d) (i := x - 2) (by omega) (by omega)
      exact ⟨s, s1, s2, s3, by rw [vtb_new h1, s2]⟩
    refine ⟨fun s hs => ?_, fun x hx => ?_, fun x y hx hy h => ?_⟩
    · rw [show m - (d + 1) = m - 1 - d by omega] at hs
      show vtb f m (d + 1) (lk (dg f m (d + 1)).1 (m - 1 - d) ((dg f m d).2 s) ((dg f m d).2 (s + 2 ^ (m - 1 - d)))) = tbl f m d s * Bw d + tbl f m d (s + 2 ^ (m - 1 - d))
      rw [← ia s (by omega), ← ia (s + 2 ^ (m - 1 - d)) (by omega)]
      unfold lk
      by_cases c : (dg f m d).2 s = (dg f m d).2 (s + 2 ^ (m - 1 - d))
      · rw [if_pos c, vtb_old (ok s (by omega)), ← c]
      · rw [if_neg c]
        have hm : (m - 1 - d, (dg f m d).2 s, (dg f m d).2 (s + 2 ^ (m - 1 - d))) ∈ (dg f m (d + 1)).1 := lvN_mem hs c
        obtain ⟨j1, j2⟩ := ixn_mem hm
        rw [vtb_new, show 2 + ixn (dg f m (d + 1)).1 (m - 1 - d, (dg f m d).2 s, (dg f m d).2 (s + 2 ^ (m - 1 - d))) - 2 = ixn (dg f m (d + 1)).1 (m - 1 - d, (dg f m d).2 s, (dg f m d).2 (s + 2 ^ (m - 1 - d))) by omega, j2]
        intro z
        have e := (dg_ext f m d).at (i := ixn (dg f m (d + 1)).1 (m - 1 - d, (dg f m d).2 s, (dg f m d).2 (s + 2 ^ (m - 1 - d)))) (by omega)
        rw [j2] at e
        have := (dg_mem (f := f) (m := m) (d := d) (by omega) (x := (m - 1 - d, (dg f m d).2 s, (dg f m d).2 (s + 2 ^ (m - 1 - d)))) (by rw [e]; exact getD_memN (by omega))).1
        dsimp only at this
        omega
    · by_cases c : x < (dg f m d).1.length + 2
      · rw [vtb_old c]
        obtain ⟨b1, b2⟩ := ib x c
        refine ⟨mlst_pair b1 b1 (leq_rfl _ _), ?_⟩
        have : (vtb f m d x + 1) * Bw d ≤ Bw d * Bw d := Nat.mul_le_mul_right _ b2
        rw [Nat.succ_mul] at this
        show _ < Bw d * Bw d
        omega
      · obtain ⟨s, s1, s2, s3, s4⟩ := new x c hx
        obtain ⟨b1, b2⟩ := ib _ (ok s (by omega))
        obtain ⟨c1, c2⟩ := ib _ (ok (s + 2 ^ (m - 1 - d)) (by omega))
        have lm := tbl_mono hf (d := d) (by omega) s (s + 2 ^ (m - 1 - d)) (by omega) (by omega) (fun i hi => by rw [add_bit s1, hi]; rfl)
        rw [← ia s (by omega), ← ia (s + 2 ^ (m - 1 - d)) (by omega)] at lm
        rw [s4]
        refine ⟨mlst_pair b1 c1 lm, ?_⟩
        have : (vtb f m d ((dg f m d).2 s) + 1) * Bw d ≤ Bw d * Bw d := Nat.mul_le_mul_right _ b2
        rw [Nat.succ_mul] at this
        show _ < Bw d * Bw d
        omega
    · have mix : ∀ x y, x < (dg f m d).1.length + 2 → ¬ y < (dg f m d).1.length + 2 → y < (dg f m (d + 1)).1.length + 2 → vtb f m (d + 1) x = vtb f m (d + 1) y → False := fun x y c1 c2 hy h => by
        obtain ⟨s, s1, s2, s3, s4⟩ := new y c2 hy
        rw [vtb_old c1, s4] at h
        have p := pair_inj (ib x c1).2 (ib _ (ok _ (by omega))).2 h
        exact s3 (ic _ _ (ok s (by omega)) (ok _ (by omega)) (p.1.symm.trans p.2))
      by_cases c1 : x < (dg f m d).1.length + 2
      · by_cases c2 : y < (dg f m d).1.length + 2
        · rw [vtb_old c1, vtb_old c2] at h
          exact ic x y c1 c2 (pair_inj (ib x c1).2 (ib y c2).2 h).1
        · exact absurd h (fun h => mix x y c1 c2 hy h)
      · by_cases c2 : y < (dg f m d).1.length + 2
        · exact absurd h (fun h => mix y x c2 c1 hx h.symm)
        · obtain ⟨s, s1, s2, s3, s4⟩ := new x c1 hx
          obtain ⟨u, u1, u2, u3, u4⟩ := new y c2 hy
          rw [s4, u4] at h
          have p := pair_inj (ib _ (ok (s + 2 ^ (m - 1 - d)) (by omega))).2 (ib _ (ok (u + 2 ^ (m - 1 - d)) (by omega))).2 h
          have p1 := ic _ _ (ok s (by omega)) (ok u (by omega)) p.1
          have p2 := ic _ _ (ok (s + 2 ^ (m - 1 - d)) (by omega)) (ok (u + 2 ^ (m - 1 - d)) (by omega)) p.2
          have := nd_at (dg_nd f m (d + 1)) (i := x - 2) (j := y - 2) (by omega) (by omega) (by rw [s2, u2, p1, p2])
          omega
theorem dg_len {f : Nat → Bool} {m : Nat} (d : Nat) : ∀ e, d + e ≤ m → (dg f m (d + e)).1.length + 2 ^ (m - (d + e)) ≤ (dg f m d).1.length + 2 ^ (m - d) := by
  intro e
  induction e with
  | zero => intro _; exact Nat.le_refl _
  | succ e ih =>
    intro h
    have := ih (by omega)
    have l : (dg f m (d + e + 1)).1.length ≤ (dg f m (d + e)).1.length + 2 ^ (m - 1 - (d + e)) := lvN_len _ _ _ _ _
    have e2 : 2 ^ (m - (d + e)) = 2 ^ (m - 1 - (d + e)) + 2 ^ (m - 1 - (d + e)) := by
      rw [show m - (d + e) = (m - 1 - (d + e)) + 1 by omega, Nat.pow_succ]; omega
    rw [show d + (e + 1) = d + e + 1 by omega, show m - (d + e + 1) = m - 1 - (d + e) by omega]
    omega
/-- so many nodes at most -/
theorem dg_bound {f : Nat → Bool} {m : Nat} (hf : MonF f m) (hm : m ≤ 16) (h1 : 1 ≤ m) {d : Nat} (hd : d ≤ m) : (dg f m d).1.length + 3 ≤ 2 ^ m + 2 ∧ (dg f m d).1.length ≤ 4261 := by
  have a := dg_len (f := f) (m := m) 0 d (by omega)
  rw [Nat.zero_add] at a
  have a0 : (dg f m 0).1.length = 0 := rfl
  have p := Nat.two_pow_pos (m - d)
  rw [Nat.sub_zero] at a
  refine ⟨by omega, ?_⟩
  by_cases c : m ≤ 12
  · have : 2 ^ m ≤ 2 ^ 12 := Nat.pow_le_pow_right (by omega) c
    have : 2 ^ 12 = 4096 := rfl
    omega
  · have v := vtb_ok hf (d := 4) (by omega)
    have n4 := inj_len (v := vtb f m 4) (n := (dg f m 4).1.length + 2) (L := mlst 4) (fun x hx => (v.2.1 x hx).1) v.2.2
    rw [mlst4] at n4
    have t : 2 ^ (m - 4) ≤ 2 ^ 12 := Nat.pow_le_pow_right (by omega) (by omega)
    have e12 : 2 ^ 12 = 4096 := rfl
    by_cases c4 : 4 ≤ d
    · have b := dg_len (f := f) (m := m) 4 (d - 4) (by omega)
      rw [show 4 + (d - 4) = d by omega] at b
      omega
    · have up : ∀ e, d ≤ d + e → (dg f m d).1.length ≤ (dg f m (d + e)).1.length := fun e _ => by
        induction e with
        | zero => exact Nat.le_refl _
        | succ e ih => exact Nat.le_trans (ih (by omega)) (dg_ext f m (d + e)).len
      have := up (4 - d) (by omega)
      rw [show d + (4 - d) = 4 by omega] at this
      omega
