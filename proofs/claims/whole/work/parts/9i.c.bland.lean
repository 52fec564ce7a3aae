/-! The turns end: no basis comes again. -/
theorem rat_trans {ax ay az tx ty tz : Int} (hx : 0 < tx) (hy : 0 < ty) (hz : 0 < tz) (h1 : ax * ty ≤ ay * tx) (h2 : ay * tz ≤ az * ty) : ax * tz ≤ az * tx ∧ (ax * tz = az * tx → ax * ty = ay * tx ∧ ay * tz = az * ty) := by
  have k1 : ax * ty * tz ≤ ay * tx * tz := Int.mul_le_mul_of_nonneg_right h1 (Int.le_of_lt hz)
  have k2 : ay * tz * tx ≤ az * ty * tx := Int.mul_le_mul_of_nonneg_right h2 (Int.le_of_lt hx)
  have e1 : ax * ty * tz = ax * tz * ty := by ac_rfl
  have e2 : ay * tx * tz = ay * tz * tx := by ac_rfl
  have e3 : az * ty * tx = az * tx * ty := by ac_rfl
  refine ⟨Int.le_of_mul_le_mul_right (show ax * tz * ty ≤ az * tx * ty by omega) hy, fun e => ?_⟩
  rw [← e] at e3
  constructor
  · apply Int.eq_of_mul_eq_mul_right (Int.ne_of_gt hz)
    omega
  · apply Int.eq_of_mul_eq_mul_right (Int.ne_of_gt hx)
    omega
theorem bet_le {a t : Nat → Int} {B : Nat → Nat} {x y : Nat} (h : bet a t B x y) : a x * t y ≤ a y * t x := by
  rcases h with h | h
  · exact Int.le_of_lt h
  · exact Int.le_of_eq h.1
theorem bet_trans {a t : Nat → Int} {B : Nat → Nat} {x y z : Nat} (hx : 0 < t x) (hy : 0 < t y) (hz : 0 < t z) (h : bet a t B x y) (g : bet a t B y z) : bet a t B x z := by
  obtain ⟨r1, r2⟩ := rat_trans hx hy hz (bet_le h) (bet_le g)
  by_cases c : a x * t z = a z * t x
  · obtain ⟨q1, q2⟩ := r2 c
    refine Or.inr ⟨c, ?_⟩
    rcases h with h | h
    · omega
    · rcases g with g | g
      · omega
      · omega
  · exact Or.inl (by omega)
theorem bet_total {a t : Nat → Int} {B : Nat → Nat} {x y : Nat} (h : ¬ bet a t B x y) : bet a t B y x := by
  unfold bet at *
  omega
theorem best_ex {a t : Nat → Int} {B : Nat → Nat} : ∀ n, (∃ r, r < n ∧ 0 < t r) → ∃ b, b < n ∧ 0 < t b ∧ ∀ r, r < n → 0 < t r → bet a t B b r := by
  intro n
  induction n with
  | zero => rintro ⟨r, hr, -⟩; omega
  | succ n ih =>
    intro h
    by_cases c : ∃ r, r < n ∧ 0 < t r
    · obtain ⟨b, b1, b2, b3⟩ := ih c
      by_cases d : 0 < t n
      · by_cases e : bet a t B b n
        · refine ⟨b, by omega, b2, fun r hr pr => ?_⟩
          by_cases f : r = n
          · rw [f]; exact e
          · exact b3 r (by omega) pr
        · have e' := bet_total e
          refine ⟨n, by omega, d, fun r hr pr => ?_⟩
          by_cases f : r = n
          · rw [f]; exact Or.inr ⟨rfl, Nat.le_refl _⟩
          · exact bet_trans d b2 pr e' (b3 r (by omega) pr)
      · refine ⟨b, by omega, b2, fun r hr pr => ?_⟩
        by_cases f : r = n
        · rw [f] at pr; exact absurd pr d
        · exact b3 r (by omega) pr
    · obtain ⟨r, r1, r2⟩ := h
      have rn : r = n := by
        by_cases f : r = n
        · exact f
        · exact absurd ⟨r, by omega, r2⟩ c
      subst rn
      refine ⟨r, r1, r2, fun s hs ps => ?_⟩
      by_cases f : s = r
      · rw [f]; exact Or.inr ⟨rfl, Nat.le_refl _⟩
      · exact absurd ⟨s, by omega, ps⟩ c
theorem gC_nn {A : Nat → Nat → Int} {p w c i : Nat} (hA : ∀ c i, c < w → i < p → 0 < A c i) (hc : c < w + p) (hi : i < p) : 0 ≤ gC A p w c i := by
  unfold gC
  by_cases a : c < w
  · rw [if_pos a, if_pos hi]
    exact Int.le_of_lt (hA c i a hi)
  · rw [if_neg a, if_pos hc]
    split <;> decide
theorem lev_ex {A : Nat → Nat → Int} {p w : Nat} {B : Nat → Nat} {col : Nat} (hp : 0 < p) (hA : ∀ c i, c < w → i < p → 0 < A c i) (h : OkB A p w B) (e : Ent A p w B col) : ∃ row, Lev A p w B col row := by
  by_cases c : ∃ r, r < p ∧ 0 < gT A p w B r col
  · obtain ⟨b, b1, b2, b3⟩ := best_ex (a := fun r => gT A p w B r (w + p)) (t := fun r => gT A p w B r col) (B := B) p c
    exact ⟨b, b1, b2, b3⟩
  · exfalso
    obtain ⟨h1, h2, h3, h4, -⟩ := h
    obtain ⟨i, hi, ci⟩ : ∃ i, i < p ∧ 0 < gC A p w col i := by
      by_cases a : col < w
      · refine ⟨0, hp, ?_⟩
        unfold gC
        rw [if_pos a, if_pos hp]
        exact hA _ _ a hp
      · refine ⟨col - w, by have := e.1; omega, ?_⟩
        unfold gC
        rw [if_neg a, if_pos e.1, if_pos rfl]
        decide
    have k := h2 col i (by omega)
    have pos : 0 < gD A p w B * gC A p w col i := Int.mul_pos h1 ci
    have neg : zS (fun r => Tb (gC A p w) (p + 1) B r col * gC A p w (B r) i) (p + 1) ≤ 0 := zS_nonpos fun r hr => by
      by_cases q : r = p
      · subst q
        have z : gC A r w (B r) i = 0 := by
          rw [h3]
          unfold gC
          rw [if_neg (by omega), if_neg (by omega), if_neg (by omega), if_neg (by omega)]
        (try dsimp only)
        rw [z, Int.mul_zero]
        exact Int.le_refl _
      · have t : gT A p w B r col ≤ 0 := Int.not_lt.mp fun z => c ⟨r, by omega, z⟩
        exact Int.mul_nonpos_of_nonpos_of_nonneg t (gC_nn hA (h4 r (by omega)) hi)
    have k' : gD A p w B * gC A p w col i = zS (fun r => Tb (gC A p w) (p + 1) B r col * gC A p w (B r) i) (p + 1) := k
    omega
/-- a run of turns -/
def Run (A : Nat → Nat → Int) (p w : Nat) (S : Nat → Nat → Nat) (cl rr : Nat → Nat) (K : Nat) : Prop := S 0 = gB0 p w ∧ ∀ k, k < K → Ent A p w (S k) (cl k) ∧ Lev A p w (S k) (cl k) (rr k) ∧ S (k + 1) = pv (S k) (rr k) (cl k)
theorem Run.ok {A : Nat → Nat → Int} {p w : Nat} {S : Nat → Nat → Nat} {cl rr : Nat → Nat} {K : Nat} (h : Run A p w S cl rr K) : ∀ k, k ≤ K → OkB A p w (S k) := by
  intro k
  induction k with
  | zero => intro _; rw [h.1]; exact gOk0
  | succ k ih =>
    intro hk
    obtain ⟨a, b, c⟩ := h.2 k (by omega)
    rw [c]
    exact (ih (by omega)).pv a b
def inB (p : Nat) (B : Nat → Nat) (v : Nat) : Prop := ∃ r, r < p ∧ B r = v
theorem obj_same {A : Nat → Nat → Int} {p w : Nat} {B B' : Nat → Nat} (h : OkB A p w B) (h' : OkB A p w B') (hs : ∀ v, inB p B v → inB p B' v) : gT A p w B p (w + p) * gD A p w B' = gT A p w B' p (w + p) * gD A p w B := by
  have k := Tb_fun h.2.1 B' (show p < p + 1 by omega) (w + p)
  rw [zS_one (a := p) (show p < p + 1 by omega) fun s hs' hne => ?_] at k
  · rw [h.2.2.1] at k
    have e : Tb (gC A p w) (p + 1) B' p (w + p + 1) = gD A p w B' := gT_obj h'.2.2.1
    rw [e] at k
    rw [Int.mul_comm (gT A p w B' p (w + p))]
    exact k.symm
  · obtain ⟨s', s1, s2⟩ := hs (B s) ⟨s, by omega, rfl⟩
    have z : gT A p w B' p (B' s') = 0 := gT_b0 (by omega) (by omega) (by omega)
    rw [← s2]
    rw [show Tb (gC A p w) (p + 1) B' p (B' s') = 0 from z, Int.mul_zero]
theorem obj_step {A : Nat → Nat → Int} {p w : Nat} {B : Nat → Nat} {col row : Nat} (h : OkB A p w B) (e : Ent A p w B col) (l : Lev A p w B col row) : gT A p w B p (w + p) * gD A p w (pv B row col) ≤ gT A p w (pv B row col) p (w + p) * gD A p w B ∧ (0 < gT A p w B row (w + p) → gT A p w B p (w + p) * gD A p w (pv B row col) < gT A p w (pv B row col) p (w + p) * gD A p w B) := by
  obtain ⟨h1, h2, h3, h4, h5, h6⟩ := h
  have k : gD A p w B * gT A p w (pv B row col) p (w + p) = gT A p w B row col * gT A p w B p (w + p) - gT A p w B p col * gT A p w B row (w + p) := piv h2 col (w + p) (show row < p + 1 by have := l.1; omega) (show p < p + 1 by omega) (by have := l.1; omega)
  have d : gD A p w (pv B row col) = gT A p w B row col := dB_pv
  have e1 : gT A p w B p (w + p) * gT A p w B row col = gT A p w B row col * gT A p w B p (w + p) := Int.mul_comm _ _
  have e2 : gT A p w (pv B row col) p (w + p) * gD A p w B = gD A p w B * gT A p w (pv B row col) p (w + p) := Int.mul_comm _ _
  have a := h6 row l.1
  have b := e.2.1
  rw [d, e1, e2, k]
  constructor
  · have := Int.mul_nonpos_of_nonpos_of_nonneg (Int.le_of_lt b) a
    omega
  · intro z
    have := Int.mul_neg_of_neg_of_pos b z
    omega
theorem obj_mono {A : Nat → Nat → Int} {p w : Nat} {S : Nat → Nat → Nat} {cl rr : Nat → Nat} {K : Nat} (h : Run A p w S cl rr K) : ∀ d k, k + d ≤ K → gT A p w (S k) p (w + p) * gD A p w (S (k + d)) ≤ gT A p w (S (k + d)) p (w + p) * gD A p w (S k) := by
  intro d
  induction d with
  | zero => intro k _; exact Int.le_refl _
  | succ d ih =>
    intro k hk
    obtain ⟨a, b, c⟩ := h.2 (k + d) (by omega)
    have o1 := h.ok k (by omega)
    have o2 := h.ok (k + d) (by omega)
    have o3 := h.ok (k + d + 1) (by omega)
    have s := (obj_step o2 a b).1
    rw [← c] at s
    exact (rat_trans o1.1 o2.1 o3.1 (ih k (by omega)) s).1
/-- where a basis comes again no turn gains -/
theorem obj_flat {A : Nat → Nat → Int} {p w : Nat} {S : Nat → Nat → Nat} {cl rr : Nat → Nat} {K i j : Nat} (h : Run A p w S cl rr K) (hj : j ≤ K) (hs : ∀ v, inB p (S i) v → inB p (S j) v) (k : Nat) (h1 : i ≤ k) (h2 : k < j) : gT A p w (S k) (rr k) (w + p) = 0 := by
  obtain ⟨a, b, c⟩ := h.2 k (by omega)
  have oi := h.ok i (by omega)
  have oj := h.ok j hj
  have ok := h.ok k (by omega)
  have ok1 := h.ok (k + 1) (by omega)
  have eq := obj_same oi oj hs
  have m1 := obj_mono h (k - i) i (by omega)
  rw [show i + (k - i) = k by omega] at m1
  have m2 := obj_mono h (j - k) k (by omega)
  rw [show k + (j - k) = j by omega] at m2
  have m3 := obj_mono h (j - (k + 1)) (k + 1) (by omega)
  rw [show k + 1 + (j - (k + 1)) = j by omega] at m3
  obtain ⟨s1, s2⟩ := obj_step ok a b
  rw [← c] at s1 s2
  have q1 := (rat_trans oi.1 ok.1 oj.1 m1 m2).2 eq
  have q2 := (rat_trans ok.1 ok1.1 oj.1 s1 m3).2 q1.2
  have nn := ok.2.2.2.2.2 (rr k) b.1
  by_cases z : 0 < gT A p w (S k) (rr k) (w + p)
  · have := s2 z
    have := q2.1
    omega
  · omega
theorem drop_ex {P : Nat → Prop} : ∀ d k, P k → ¬ P (k + d) → ∃ m, k ≤ m ∧ m < k + d ∧ P m ∧ ¬ P (m + 1) := by
  intro d
  induction d with
  | zero => intro k h g; exact absurd h g
  | succ d ih =>
    intro k h g
    by_cases c : P (k + d)
    · exact ⟨k + d, by omega, by omega, c, g⟩
    · obtain ⟨m, m1, m2, m3⟩ := ih k h c
      exact ⟨m, m1, by omega, m3⟩
theorem rise_ex {P : Nat → Prop} (d k : Nat) (h : ¬ P k) (g : P (k + d)) : ∃ m, k ≤ m ∧ m < k + d ∧ ¬ P m ∧ P (m + 1) := by
  obtain ⟨m, m1, m2, m3, m4⟩ := drop_ex (P := fun x => ¬ P x) d k h (fun z => z g)
  exact ⟨m, m1, m2, m3, Classical.byContradiction m4⟩
theorem max_ex {P : Nat → Prop} : ∀ M, (∀ x, P x → x < M) → (∃ x, P x) → ∃ x, P x ∧ ∀ y, P y → y ≤ x := by
  intro M
  induction M with
  | zero => rintro h ⟨x, hx⟩; have := h x hx; omega
  | succ M ih =>
    intro h g
    by_cases c : P M
    · exact ⟨M, c, fun y hy => by have := h y hy; omega⟩
    · refine ih (fun x hx => ?_) g
      have := h x hx
      by_cases e : x = M
      · rw [e] at hx; exact absurd hx c
      · omega
/-- what stands in no row, or has nothing there -/
def Zr (A : Nat → Nat → Int) (p w : Nat) (B : Nat → Nat) (v : Nat) : Prop := ∀ r, r < p → B r = v → gT A p w B r (w + p) = 0
theorem Zr_step {A : Nat → Nat → Int} {p w : Nat} {B : Nat → Nat} {col row v : Nat} (h : OkB A p w B) (l : Lev A p w B col row) (hz : gT A p w B row (w + p) = 0) : Zr A p w B v ↔ Zr A p w (pv B row col) v := by
  have key : ∀ r, r < p → r ≠ row → gD A p w B * gT A p w (pv B row col) r (w + p) = gT A p w B row col * gT A p w B r (w + p) := fun r hr hne => by
    have k : gD A p w B * gT A p w (pv B row col) r (w + p) = gT A p w B row col * gT A p w B r (w + p) - gT A p w B r col * gT A p w B row (w + p) := piv h.2.1 col (w + p) (show row < p + 1 by have := l.1; omega) (show r < p + 1 by omega) hne
    rw [hz, Int.mul_zero] at k
    omega
  constructor
  · intro g r hr e
    by_cases c : r = row
    · subst c
      show Tb (gC A p w) (p + 1) _ _ _ = 0
      rw [Tb_row]
      exact hz
    · rw [pv_ne c] at e
      have k := key r hr c
      rw [g r hr e, Int.mul_zero] at k
      rcases Int.mul_eq_zero.mp k with z | z
      · have := h.1
        omega
      · exact z
  · intro g r hr e
    by_cases c : r = row
    · subst c; exact hz
    · have q := g r hr (by rw [pv_ne c]; exact e)
      have k := key r hr c
      rw [q, Int.mul_zero] at k
      rcases Int.mul_eq_zero.mp k.symm with z | z
      · have := l.2.1
        omega
      · exact z
theorem no_again {A : Nat → Nat → Int} {p w : Nat} {S : Nat → Nat → Nat} {cl rr : Nat → Nat} {K i j : Nat} (h : Run A p w S cl rr K) (hij : i < j) (hj : j ≤ K) : ¬ ∀ v, inB p (S i) v ↔ inB p (S j) v := by
  intro hs
  have flat := obj_flat h hj (fun v => (hs v).mp)
  have zall : ∀ v d k, i ≤ k → k + d ≤ j → (Zr A p w (S k) v ↔ Zr A p w (S (k + d)) v) := by
    intro v d
    induction d with
    | zero => intro k _ _; exact Iff.rfl
    | succ d ih =>
      intro k hk hd
      obtain ⟨a, b, c⟩ := h.2 (k + d) (by omega)
      rw [ih k hk (by omega), show k + (d + 1) = k + d + 1 by omega, c]
      exact Zr_step (h.ok (k + d) (by omega)) b (flat (k + d) (by omega) (by omega))
  have zany : ∀ v k l, i ≤ k → k ≤ j → i ≤ l → l ≤ j → Zr A p w (S k) v → Zr A p w (S l) v := by
    intro v k l k1 k2 l1 l2 g
    rcases Nat.le_total k l with q | q
    · have := zall v (l - k) k k1 (by omega)
      rw [show k + (l - k) = l by omega] at this
      exact this.mp g
    · have := zall v (k - l) l l1 (by omega)
      rw [show l + (k - l) = k by omega] at this
      exact this.mpr g
  -- an entering column is in no row
  have ent_new : ∀ k, k < K → ¬ inB p (S k) (cl k) := by
    rintro k hk ⟨r, r1, r2⟩
    obtain ⟨a, -, -⟩ := h.2 k hk
    have z : gT A p w (S k) p (S k r) = 0 := gT_b0 (by omega) (by omega) (by omega)
    rw [r2] at z
    have := a.2.1
    omega
  have ent_in : ∀ k, k < K → inB p (S (k + 1)) (cl k) := by
    intro k hk
    obtain ⟨-, b, c⟩ := h.2 k hk
    exact ⟨rr k, b.1, by rw [c, pv_at]⟩
  obtain ⟨t, ⟨k0, k1, k2, k3, l0, l1, l2, l3⟩, tmax⟩ := max_ex (P := fun v => ∃ k, i ≤ k ∧ k ≤ j ∧ inB p (S k) v ∧ ∃ l, i ≤ l ∧ l ≤ j ∧ ¬ inB p (S l) v) (w + p) (by
      rintro v ⟨k, k1, k2, ⟨r, r1, r2⟩, -⟩
      have := (h.ok k (by omega)).2.2.2.1 r r1
      omega) ⟨cl i, i + 1, by omega, by omega, ent_in i (by omega), i, Nat.le_refl _, by omega, ent_new i (by omega)⟩
  -- it leaves once and enters once
  obtain ⟨m, m1, m2, m3, m4⟩ : ∃ m, i ≤ m ∧ m < j ∧ inB p (S m) t ∧ ¬ inB p (S (m + 1)) t := by
    rcases Nat.lt_or_ge k0 l0 with q | q
    · obtain ⟨m, a, b, c⟩ := drop_ex (P := fun x => inB p (S x) t) (l0 - k0) k0 k3 (by rw [show k0 + (l0 - k0) = l0 by omega]; exact l3)
      exact ⟨m, by omega, by omega, c⟩
    · by_cases e : inB p (S i) t
      · obtain ⟨m, a, b, c⟩ := drop_ex (P := fun x => inB p (S x) t) (l0 - i) i e (by rw [show i + (l0 - i) = l0 by omega]; exact l3)
        exact ⟨m, by omega, by omega, c⟩
      · obtain ⟨m, a, b, c⟩ := drop_ex (P := fun x => inB p (S x) t) (j - k0) k0 k3 (by rw [show k0 + (j - k0) = j by omega]; exact fun z => e ((hs t).mpr z))
        exact ⟨m, by omega, by omega, c⟩
  obtain ⟨n, n1, n2, n3, n4⟩ : ∃ n, i ≤ n ∧ n < j ∧ ¬ inB p (S n) t ∧ inB p (S (n + 1)) t := by
    rcases Nat.lt_or_ge l0 k0 with q | q
    · obtain ⟨m, a, b, c⟩ := rise_ex (P := fun x => inB p (S x) t) (k0 - l0) l0 l3 (by rw [show l0 + (k0 - l0) = k0 by omega]; exact k3)
      exact ⟨m, by omega, by omega, c⟩
    · by_cases e : inB p (S i) t
      · obtain ⟨m, a, b, c⟩ := rise_ex (P := fun x => inB p (S x) t) (j - l0) l0 l3 (by rw [show l0 + (j - l0) = j by omega]; exact (hs t).mp e)
        exact ⟨m, by omega, by omega, c⟩
      · obtain ⟨m, a, b, c⟩ := rise_ex (P := fun x => inB p (S x) t) (k0 - i) i e (by rw [show i + (k0 - i) = k0 by omega]; exact k3)
        exact ⟨m, by omega, by omega, c⟩
  obtain ⟨a1, b1, c1⟩ := h.2 m (by omega)
  obtain ⟨a2, b2, c2⟩ := h.2 n (by omega)
  have om := h.ok m (by omega)
  have on := h.ok n (by omega)
  have hr1 : S m (rr m) = t := by
    obtain ⟨r, r1, r2⟩ := m3
    by_cases e : r = rr m
    · rw [← e]; exact r2
    · exact absurd ⟨r, r1, by rw [c1, pv_ne e]; exact r2⟩ m4
  have hc2 : cl n = t := by
    obtain ⟨r, r1, r2⟩ := n4
    rw [c2] at r2
    by_cases e : r = rr n
    · rw [e, pv_at] at r2; exact r2
    · rw [pv_ne e] at r2
      exact absurd ⟨r, r1, r2⟩ n3
  -- the column entering there
  have st : cl m < t := by
    have le := tmax (cl m) ⟨m + 1, by omega, by omega, ent_in m (by omega), m, m1, by omega, ent_new m (by omega)⟩
    have ne : cl m ≠ t := fun e => ent_new m (by omega) (by rw [e]; exact m3)
    omega
  have f := Tb_fun om.2.1 (S n) (show p < p + 1 by omega) (cl m)
  rw [zS_s, om.2.2.1, show Tb (gC A p w) (p + 1) (S n) p (w + p + 1) = gD A p w (S n) from gT_obj on.2.2.1] at f
  have t2s : 0 ≤ gT A p w (S n) p (cl m) := a2.2.2 _ (by rw [hc2]; exact st)
  have p1 : 0 ≤ gD A p w (S m) * gT A p w (S n) p (cl m) := Int.mul_nonneg (Int.le_of_lt om.1) t2s
  have p2 : gT A p w (S m) p (cl m) * gD A p w (S n) < 0 := Int.mul_neg_of_neg_of_pos a1.2.1 on.1
  have f' : gD A p w (S m) * gT A p w (S n) p (cl m) = zS (fun s => gT A p w (S m) s (cl m) * gT A p w (S n) p (S m s)) p + gT A p w (S m) p (cl m) * gD A p w (S n) := f
  obtain ⟨q, q1, q2⟩ := zS_pos (f := fun s => gT A p w (S m) s (cl m) * gT A p w (S n) p (S m s)) (n := p) (by omega)
  (try dsimp only at q2)
  have vn : ¬ inB p (S n) (S m q) := by
    rintro ⟨r, r1, r2⟩
    have z : gT A p w (S n) p (S n r) = 0 := gT_b0 (by omega) (by omega) (by omega)
    rw [r2] at z
    rw [z, Int.mul_zero] at q2
    omega
  have vt := tmax (S m q) ⟨m, m1, by omega, ⟨q, q1, rfl⟩, n, n1, by omega, vn⟩
  have lt : gT A p w (S n) p t < 0 := by rw [← hc2]; exact a2.2.1
  have vne : S m q ≠ t := fun e => by
    have er : q = rr m := om.2.2.2.2.1 q (rr m) q1 b1.1 (e.trans hr1.symm)
    rw [e, er] at q2
    have := Int.mul_neg_of_pos_of_neg b1.2.1 lt
    omega
  have vlt : S m q < t := by omega
  have t2v : 0 ≤ gT A p w (S n) p (S m q) := a2.2.2 _ (by rw [hc2]; exact vlt)
  have tq : 0 < gT A p w (S m) q (cl m) := by
    by_cases z : 0 < gT A p w (S m) q (cl m)
    · exact z
    · have := Int.mul_nonpos_of_nonpos_of_nonneg (Int.not_lt.mp z) t2v
      omega
  have z1 : gT A p w (S m) q (w + p) = 0 := zany (S m q) n m n1 (by omega) m1 (by omega) (fun r hr e => absurd ⟨r, hr, e⟩ vn) q q1 rfl
  have z2 : gT A p w (S m) (rr m) (w + p) = 0 := flat m m1 m2
  rcases b1.2.2 q q1 tq with z | z
  · (try dsimp only at z)
    rw [z1, z2, Int.zero_mul, Int.zero_mul] at z
    omega
  · have := z.2
    rw [hr1] at this
    omega
