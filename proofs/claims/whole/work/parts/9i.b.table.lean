/-! Tables: bases, and what stands in them. -/
def VB (C : Nat → Nat → Int) (B : Nat → Nat) : Nat → Nat → Int := fun j => C (B j)
def dB (C : Nat → Nat → Int) (N : Nat) (B : Nat → Nat) : Int := dt N (VB C B)
def Tb (C : Nat → Nat → Int) (N : Nat) (B : Nat → Nat) (r c : Nat) : Int := dt N (st (VB C B) r (C c))
def I1 (C : Nat → Nat → Int) (N : Nat) (B : Nat → Nat) : Prop := ∀ c i, i < N → dB C N B * C c i = zS (fun r => Tb C N B r c * C (B r) i) N
def pv (B : Nat → Nat) (row col : Nat) : Nat → Nat := fun k => if k = row then col else B k
theorem pv_at {B : Nat → Nat} {row col : Nat} : pv B row col row = col := if_pos rfl
theorem pv_ne {B : Nat → Nat} {row col k : Nat} (h : k ≠ row) : pv B row col k = B k := if_neg h
theorem VB_pv {C : Nat → Nat → Int} {B : Nat → Nat} {row col : Nat} : VB C (pv B row col) = st (VB C B) row (C col) := by
  funext k
  unfold VB pv st
  by_cases e : k = row
  · rw [if_pos e, if_pos e]
  · rw [if_neg e, if_neg e]
theorem dB_pv {C : Nat → Nat → Int} {N : Nat} {B : Nat → Nat} {row col : Nat} : dB C N (pv B row col) = Tb C N B row col := by
  unfold dB Tb
  rw [VB_pv]
theorem Tb_row {C : Nat → Nat → Int} {N : Nat} {B : Nat → Nat} {row col c : Nat} : Tb C N (pv B row col) row c = Tb C N B row c := by
  unfold Tb
  rw [VB_pv, st_st]
theorem Tb_fun {C : Nat → Nat → Int} {N : Nat} {B : Nat → Nat} (h : I1 C N B) (B' : Nat → Nat) {r : Nat} (hr : r < N) (c : Nat) : dB C N B * Tb C N B' r c = zS (fun s => Tb C N B s c * Tb C N B' r (B s)) N := by
  have e : dt N (st (VB C B') r (fun i => dB C N B * C c i)) = dt N (st (VB C B') r (fun i => zS (fun l => Tb C N B l c * (fun l => C (B l)) l i) N)) := dt_ext fun j i hj hi => by
    by_cases q : j = r
    · subst q
      rw [st_at, st_at]
      exact h c i hi
    · rw [st_ne q, st_ne q]
  rw [st_mul hr, st_sum hr] at e
  exact e
theorem Tb_base0 {C : Nat → Nat → Int} {N : Nat} {B : Nat → Nat} {r s : Nat} (hr : r < N) (hs : s < N) (h : s ≠ r) : Tb C N B r (B s) = 0 := dt_eq hr hs (fun e => h e.symm) fun i _ => by
  rw [st_at, st_ne h]
  rfl
theorem Tb_base1 {C : Nat → Nat → Int} {N : Nat} {B : Nat → Nat} {r : Nat} : Tb C N B r (B r) = dB C N B := st_same
theorem st_self {V : Nat → Nat → Int} {c : Nat} : st V c (V c) = V := by
  funext k
  unfold st
  by_cases e : k = c
  · rw [if_pos e, e]
  · rw [if_neg e]
theorem piv {C : Nat → Nat → Int} {N : Nat} {B : Nat → Nat} (h : I1 C N B) {row k : Nat} (col c : Nat) (hrow : row < N) (hk : k < N) (hne : k ≠ row) : dB C N B * Tb C N (pv B row col) k c = Tb C N B row col * Tb C N B k c - Tb C N B k col * Tb C N B row c := by
  rw [Tb_fun h (pv B row col) hk c]
  have t0 : ∀ s, s < N → s ≠ k → s ≠ row → Tb C N B s c * Tb C N (pv B row col) k (B s) = 0 := fun s hs h1 h2 => by
    have e := Tb_base0 (C := C) (B := pv B row col) hk hs h1
    rw [pv_ne h2] at e
    rw [e, Int.mul_zero]
  have tk : Tb C N (pv B row col) k (B k) = Tb C N B row col := by
    have e := Tb_base1 (C := C) (N := N) (B := pv B row col) (r := k)
    rw [pv_ne hne, dB_pv] at e
    exact e
  have tr : Tb C N (pv B row col) k (B row) = - Tb C N B k col := by
    unfold Tb
    rw [VB_pv, st_swap hrow hk (fun e => hne e.symm), show C (B row) = VB C B row from rfl, st_self]
  have c1 : Tb C N B k c * Tb C N B row col = Tb C N B row col * Tb C N B k c := Int.mul_comm _ _
  have c2 : Tb C N B row c * - Tb C N B k col = - (Tb C N B k col * Tb C N B row c) := by rw [Int.mul_neg, Int.mul_comm]
  rcases Nat.lt_or_gt_of_ne hne with l | l
  · rw [zS_pair l hrow fun s hs a b => t0 s hs a b, tk, tr, c1, c2]
    omega
  · rw [zS_pair l hk fun s hs a b => t0 s hs b a, tk, tr, c1, c2]
    omega
theorem ring3 (d p t x u q y : Int) (h : d * t = p * x - u * q) : d * (t * y) = p * (x * y) + -q * (u * y) + 0 := by
  rw [← Int.mul_assoc, h, Int.sub_mul, Int.neg_mul]
  have e1 : p * x * y = p * (x * y) := Int.mul_assoc _ _ _
  have e2 : u * q * y = q * (u * y) := by ac_rfl
  omega
theorem ring4 (d p q y z : Int) : d * (q * z) = p * (q * y) + -q * (p * y) + q * (d * z) := by
  have e1 : p * (q * y) = q * (p * y) := by ac_rfl
  have e2 : d * (q * z) = q * (d * z) := by ac_rfl
  rw [Int.neg_mul]
  omega
theorem ring5 (d p x q y : Int) : d * (p * x) = p * (d * x) + -q * (d * y) + q * (d * y) := by
  have e1 : d * (p * x) = p * (d * x) := by ac_rfl
  rw [Int.neg_mul]
  omega
theorem I1_pv {C : Nat → Nat → Int} {N : Nat} {B : Nat → Nat} (h : I1 C N B) (hd : dB C N B ≠ 0) {row : Nat} (col : Nat) (hrow : row < N) : I1 C N (pv B row col) := by
  intro c i hi
  rw [dB_pv]
  apply Int.eq_of_mul_eq_mul_left hd
  rw [← zS_mul]
  have F : ∀ r, r < N → dB C N B * (Tb C N (pv B row col) r c * C (pv B row col r) i) = Tb C N B row col * (Tb C N B r c * C (B r) i) + -Tb C N B row c * (Tb C N B r col * C (B r) i) + (if r = row then Tb C N B row c * (dB C N B * C col i) else 0) := fun r hr => by
    by_cases e : r = row
    · subst e
      rw [if_pos rfl, pv_at, Tb_row]
      exact ring4 _ _ _ _ _
    · rw [if_neg e, pv_ne e]
      exact ring3 _ _ _ _ _ _ _ (piv h col c hrow hr e)
  rw [zS_cong F, zS_add, zS_add, zS_mul, zS_mul, ← h c i hi, ← h col i hi, zS_one (a := row) hrow (fun r _ hne => if_neg hne), if_pos rfl]
  exact ring5 _ _ _ _ _
/-- the game: w ways, then p slacks, the right side, the sum -/
def gC (A : Nat → Nat → Int) (p w : Nat) (c i : Nat) : Int := if c < w then (if i < p then A c i else -1) else if c < w + p then (if i = c - w then 1 else 0) else if c = w + p then (if i < p then 1 else 0) else (if i = p then 1 else 0)
def gB0 (p w j : Nat) : Nat := if j < p then w + j else w + p + 1
abbrev gD (A : Nat → Nat → Int) (p w : Nat) (B : Nat → Nat) : Int := dB (gC A p w) (p + 1) B
abbrev gT (A : Nat → Nat → Int) (p w : Nat) (B : Nat → Nat) (r c : Nat) : Int := Tb (gC A p w) (p + 1) B r c
theorem gB0_unit {A : Nat → Nat → Int} {p w j i : Nat} (hj : j < p + 1) (hi : i < p + 1) : VB (gC A p w) (gB0 p w) j i = eN j i := by
  unfold VB gC gB0 eN
  by_cases c : j < p
  · rw [if_pos c, if_neg (by omega), if_pos (by omega), show w + j - w = j by omega]
  · rw [if_neg c, if_neg (by omega), if_neg (by omega), if_neg (by omega), show j = p by omega]
theorem gD0 {A : Nat → Nat → Int} {p w : Nat} : gD A p w (gB0 p w) = 1 := (dt_ext fun _ _ hj hi => gB0_unit hj hi).trans (dt_eN _)
theorem gT0 {A : Nat → Nat → Int} {p w r : Nat} (hr : r < p + 1) (c : Nat) : gT A p w (gB0 p w) r c = gC A p w c r := by
  have e : gT A p w (gB0 p w) r c = dt (p + 1) (st eN r (gC A p w c)) := dt_ext fun j i hj hi => by
    by_cases q : j = r
    · subst q; rw [st_at, st_at]
    · rw [st_ne q, st_ne q]; exact gB0_unit hj hi
  rw [e, dt_unit hr]
theorem gI0 {A : Nat → Nat → Int} {p w : Nat} : I1 (gC A p w) (p + 1) (gB0 p w) := by
  intro c i hi
  rw [show dB (gC A p w) (p + 1) (gB0 p w) = 1 from gD0, Int.one_mul, zS_one (a := i) hi fun r hr hne => ?_]
  · rw [show Tb (gC A p w) (p + 1) (gB0 p w) i c = gC A p w c i from gT0 hi c, show gC A p w (gB0 p w i) i = eN i i from gB0_unit hi hi, show eN i i = 1 from if_pos rfl, Int.mul_one]
  · rw [show gC A p w (gB0 p w r) i = eN r i from gB0_unit hr hi, show eN r i = 0 from if_neg fun z => hne z.symm, Int.mul_zero]
def OkB (A : Nat → Nat → Int) (p w : Nat) (B : Nat → Nat) : Prop := 0 < gD A p w B ∧ I1 (gC A p w) (p + 1) B ∧ B p = w + p + 1 ∧ (∀ r, r < p → B r < w + p) ∧ (∀ r s, r < p → s < p → B r = B s → r = s) ∧ ∀ r, r < p → 0 ≤ gT A p w B r (w + p)
def Ent (A : Nat → Nat → Int) (p w : Nat) (B : Nat → Nat) (col : Nat) : Prop := col < w + p ∧ gT A p w B p col < 0 ∧ ∀ c, c < col → 0 ≤ gT A p w B p c
/-- the row x is to be taken before y -/
def bet (a t : Nat → Int) (B : Nat → Nat) (x y : Nat) : Prop := a x * t y < a y * t x ∨ (a x * t y = a y * t x ∧ B x ≤ B y)
def Lev (A : Nat → Nat → Int) (p w : Nat) (B : Nat → Nat) (col row : Nat) : Prop := row < p ∧ 0 < gT A p w B row col ∧ ∀ r, r < p → 0 < gT A p w B r col → bet (fun r => gT A p w B r (w + p)) (fun r => gT A p w B r col) B row r
theorem gOk0 {A : Nat → Nat → Int} {p w : Nat} : OkB A p w (gB0 p w) := by
  refine ⟨by rw [gD0]; decide, gI0, if_neg (Nat.lt_irrefl p), fun r hr => ?_, fun r s hr hs e => ?_, fun r hr => ?_⟩
  · unfold gB0
    rw [if_pos hr]
    omega
  · unfold gB0 at e
    rw [if_pos hr, if_pos hs] at e
    omega
  · rw [gT0 (by omega)]
    unfold gC
    rw [if_neg (by omega), if_neg (by omega), if_pos rfl, if_pos hr]
    decide
theorem gT_obj {A : Nat → Nat → Int} {p w : Nat} {B : Nat → Nat} (h : B p = w + p + 1) : gT A p w B p (w + p + 1) = gD A p w B := by
  rw [← h]
  exact Tb_base1
theorem gT_b0 {A : Nat → Nat → Int} {p w : Nat} {B : Nat → Nat} {r s : Nat} (hr : r < p + 1) (hs : s < p + 1) (h : s ≠ r) : gT A p w B r (B s) = 0 := Tb_base0 hr hs h
theorem OkB.pv {A : Nat → Nat → Int} {p w : Nat} {B : Nat → Nat} {col row : Nat} (h : OkB A p w B) (e : Ent A p w B col) (l : Lev A p w B col row) : OkB A p w (pv B row col) := by
  obtain ⟨h1, h2, h3, h4, h5, h6⟩ := h
  obtain ⟨e1, e2, -⟩ := e
  obtain ⟨l1, l2, l3⟩ := l
  have new : ∀ s, s < p → B s ≠ col := fun s hs z => by
    have := gT_b0 (A := A) (p := p) (w := w) (B := B) (r := p) (s := s) (by omega) (by omega) (by omega)
    rw [z] at this
    omega
  have rp : p ≠ row := by omega
  refine ⟨?_, I1_pv h2 (Int.ne_of_gt h1) col (by omega), ?_, fun r hr => ?_, fun r s hr hs q => ?_, fun r hr => ?_⟩
  · show 0 < dB (gC A p w) (p + 1) _
    rw [dB_pv]; exact l2
  · rw [pv_ne rp]; exact h3
  · by_cases c : r = row
    · subst c; rw [pv_at]; exact e1
    · rw [pv_ne c]; exact h4 r hr
  · by_cases c : r = row
    · by_cases d : s = row
      · omega
      · subst c
        rw [pv_at, pv_ne d] at q
        exact absurd q.symm (new s hs)
    · by_cases d : s = row
      · subst d
        rw [pv_at, pv_ne c] at q
        exact absurd q (new r hr)
      · rw [pv_ne c, pv_ne d] at q
        exact h5 r s hr hs q
  · by_cases c : r = row
    · subst c
      show 0 ≤ Tb (gC A p w) (p + 1) _ _ _
      rw [Tb_row]
      exact h6 r hr
    · have k : gD A p w B * gT A p w (fun k => if k = row then col else B k) r (w + p) = gT A p w B row col * gT A p w B r (w + p) - gT A p w B r col * gT A p w B row (w + p) := piv h2 col (w + p) (show row < p + 1 by omega) (show r < p + 1 by omega) c
      have a := h6 r hr
      have b := h6 row l1
      have nn : 0 ≤ gD A p w B * gT A p w (fun k => if k = row then col else B k) r (w + p) := by
        rw [k]
        by_cases t : 0 < gT A p w B r col
        · have := l3 r hr t
          have q : gT A p w B row (w + p) * gT A p w B r col ≤ gT A p w B r (w + p) * gT A p w B row col := by
            rcases this with z | z
            · exact Int.le_of_lt z
            · exact Int.le_of_eq z.1
          have e1 : gT A p w B row col * gT A p w B r (w + p) = gT A p w B r (w + p) * gT A p w B row col := Int.mul_comm _ _
          have e2 : gT A p w B r col * gT A p w B row (w + p) = gT A p w B row (w + p) * gT A p w B r col := Int.mul_comm _ _
          omega
        · have u : 0 ≤ gT A p w B row col * gT A p w B r (w + p) := Int.mul_nonneg (Int.le_of_lt l2) a
          have v : gT A p w B r col * gT A p w B row (w + p) ≤ 0 := Int.mul_nonpos_of_nonpos_of_nonneg (by omega) b
          omega
      exact Int.nonneg_of_mul_nonneg_right nn h1
