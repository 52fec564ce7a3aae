/-! A diagram's value is its function's; with more chance there is no less of it. -/
def vev (f : Nat → Bool) (p : Nat → Nat) (m : Nat) : Nat → Nat → Nat
  | 0, s => if f s then 1000 ^ m else 0
  | d + 1, s => (p (m - 1 - d) * vev f p m d (s + 2 ^ (m - 1 - d)) + (1000 - p (m - 1 - d)) * vev f p m d s) / 1000
theorem vev_s (f : Nat → Bool) (p : Nat → Nat) (m d s : Nat) : vev f p m (d + 1) s = (p (m - 1 - d) * vev f p m d (s + 2 ^ (m - 1 - d)) + (1000 - p (m - 1 - d)) * vev f p m d s) / 1000 := rfl
theorem nv_up {N : List (Nat × Nat × Nat)} {p : Nat → Nat} {m k x : Nat} (hx : x < k + 2) : ∀ d, nv N p m (k + d) x = nv N p m k x := by
  intro d
  induction d with
  | zero => rfl
  | succ d ih =>
    rw [← Nat.add_assoc, nv_s, if_neg (by omega)]
    exact ih
theorem nv_ext {N M : List (Nat × Nat × Nat)} {p : Nat → Nat} {m : Nat} (h : Ext N M) : ∀ k, k ≤ N.length → ∀ x, nv M p m k x = nv N p m k x := by
  intro k
  induction k with
  | zero => intro _ x; rfl
  | succ k ih =>
    intro hk x
    rw [nv_s, nv_s, h.at (by omega), ih (by omega), ih (by omega), ih (by omega)]
theorem mix_same {q V : Nat} (hq : q ≤ 1000) : (q * V + (1000 - q) * V) / 1000 = V := by
  rw [← Nat.add_mul, show q + (1000 - q) = 1000 by omega, Nat.mul_div_cancel_left _ (by omega)]
theorem nv_ev {f : Nat → Bool} {p : Nat → Nat} {m : Nat} (hp : ∀ r, r < m → p r ≤ 1000) : ∀ d, d ≤ m → ∀ s, s < 2 ^ (m - d) → nv (dg f m d).1 p m (dg f m d).1.length ((dg f m d).2 s) = vev f p m d s := by
  intro d
  induction d with
  | zero =>
    intro _ s _
    show (if (if f s then 1 else 0) = 1 then 1000 ^ m else 0) = if f s then 1000 ^ m else 0
    by_cases c : f s = true
    · simp only [c, if_true]
    · simp [c]
  | succ d ih =>
    intro hd s hs
    have e2 : 2 ^ (m - d) = 2 ^ (m - 1 - d) + 2 ^ (m - 1 - d) := by
      rw [show m - d = (m - 1 - d) + 1 by omega, Nat.pow_succ]; omega
    rw [show m - (d + 1) = m - 1 - d by omega] at hs
    have ok := dg_ok f (m := m) (d := d) (by omega)
    have i1 := ih (by omega) s (by omega)
    have i2 := ih (by omega) (s + 2 ^ (m - 1 - d)) (by omega)
    have l1 := ok.2 s (by omega)
    have l2 := ok.2 (s + 2 ^ (m - 1 - d)) (by omega)
    have wf := (dg_ok f (m := m) (d := d + 1) hd).1
    have ex : Ext (dg f m d).1 (dg f m (d + 1)).1 := by
      rw [dg_s]; exact lvN_ext _ _ _ _ (Nat.zero_le _)
    have pr := hp (m - 1 - d) (by omega)
    have old : ∀ k, (dg f m d).1.length ≤ k → ∀ x, x < (dg f m d).1.length + 2 → nv (dg f m (d + 1)).1 p m k x = nv (dg f m d).1 p m (dg f m d).1.length x := fun k hk x hx => by
      obtain ⟨e, rfl⟩ : ∃ e, k = (dg f m d).1.length + e := ⟨k - (dg f m d).1.length, by omega⟩
      rw [nv_up hx, nv_ext ex _ (Nat.le_refl _)]
    have nl := ex.len
    have e2' : (dg f m (d + 1)).2 s = lk (dg f m (d + 1)).1 (m - 1 - d) ((dg f m d).2 s) ((dg f m d).2 (s + 2 ^ (m - 1 - d))) := by rw [dg_s]
    have mem : (dg f m d).2 s ≠ (dg f m d).2 (s + 2 ^ (m - 1 - d)) → (m - 1 - d, (dg f m d).2 s, (dg f m d).2 (s + 2 ^ (m - 1 - d))) ∈ (dg f m (d + 1)).1 := fun h => by
      rw [dg_s]; exact lvN_mem hs h
    rw [e2', vev_s, ← i1, ← i2]
    generalize (dg f m d).2 s = a at *
    generalize (dg f m d).2 (s + 2 ^ (m - 1 - d)) = b at *
    generalize m - 1 - d = r at *
    unfold lk
    by_cases c : a = b
    · rw [if_pos c, ← c, mix_same pr]
      exact old _ nl _ l1
    · rw [if_neg c]
      obtain ⟨q1, q2⟩ := ixn_mem (mem c)
      generalize hi : ixn (dg f m (d + 1)).1 (r, a, b) = i at *
      obtain ⟨w1, w2, -⟩ := wf i q1
      rw [q2] at w1 w2
      obtain ⟨e, he⟩ : ∃ e, (dg f m (d + 1)).1.length = i + 1 + e := ⟨(dg f m (d + 1)).1.length - (i + 1), by omega⟩
      have back : ∀ x, x < i + 2 → x < (dg f m d).1.length + 2 → nv (dg f m (d + 1)).1 p m i x = nv (dg f m d).1 p m (dg f m d).1.length x := fun x h1 h2 => by
        rw [← old _ nl x h2]
        obtain ⟨g, hg⟩ : ∃ g, (dg f m (d + 1)).1.length = i + g := ⟨(dg f m (d + 1)).1.length - i, by omega⟩
        rw [hg, nv_up h1]
      rw [Nat.add_comm 2 i, he, nv_up (show i + 2 < i + 1 + 2 by omega), nv_s, if_pos rfl, q2]
      dsimp only
      rw [back a w1 l1, back b w2 l2]
theorem vev_in {f : Nat → Bool} {p : Nat → Nat} {m : Nat} (hf : MonF f m) {d : Nat} (hd : d ≤ m) : ∀ s u, s < 2 ^ (m - d) → u < 2 ^ (m - d) → subB s u → vev f p m d s ≤ vev f p m d u := by
  induction d with
  | zero =>
    intro s u hs hu h
    show (if f s then 1000 ^ m else 0) ≤ (if f u then 1000 ^ m else 0)
    cases e : f s with
    | false => exact Nat.zero_le _
    | true => rw [hf s u hs hu h e]; exact Nat.le_refl _
  | succ d ih =>
    intro s u hs hu h
    have e2 : 2 ^ (m - d) = 2 ^ (m - 1 - d) + 2 ^ (m - 1 - d) := by
      rw [show m - d = (m - 1 - d) + 1 by omega, Nat.pow_succ]; omega
    rw [show m - (d + 1) = m - 1 - d by omega] at hs hu
    have i1 := ih (by omega) s u (by omega) (by omega) h
    have i2 := ih (by omega) (s + 2 ^ (m - 1 - d)) (u + 2 ^ (m - 1 - d)) (by omega) (by omega) (fun i hi => by
      rw [add_bit hs] at hi
      rw [add_bit hu]
      cases e : s.testBit i with
      | true => rw [h i e]; rfl
      | false => rw [e, Bool.false_or] at hi; rw [hi, Bool.or_true])
    rw [vev_s, vev_s]
    exact Nat.div_le_div_right (Nat.add_le_add (Nat.mul_le_mul_left _ i2) (Nat.mul_le_mul_left _ i1))
theorem mix_le {a b c d q q' : Nat} (hq : q ≤ q') (h1 : q' ≤ 1000) (hb : a ≤ b) (hc : c ≤ d) (hcd : c ≤ a) (hdb : d ≤ b) : q * a + (1000 - q) * c ≤ q' * b + (1000 - q') * d := by
  obtain ⟨e, rfl⟩ : ∃ e, q' = q + e := ⟨q' - q, by omega⟩
  have s1 : 1000 - q = (1000 - (q + e)) + e := by omega
  have m1 : q * a ≤ q * b := Nat.mul_le_mul_left _ hb
  have m2 : (1000 - (q + e)) * c ≤ (1000 - (q + e)) * d := Nat.mul_le_mul_left _ hc
  have m3 : e * c ≤ e * b := Nat.mul_le_mul_left _ (by omega)
  rw [s1, Nat.add_mul, Nat.add_mul]
  omega
theorem vev_le {f : Nat → Bool} {p q : Nat → Nat} {m : Nat} (hf : MonF f m) (hpq : ∀ r, r < m → p r ≤ q r ∧ q r ≤ 1000) {d : Nat} (hd : d ≤ m) : ∀ s, s < 2 ^ (m - d) → vev f p m d s ≤ vev f q m d s := by
  induction d with
  | zero => intro s _; exact Nat.le_refl _
  | succ d ih =>
    intro s hs
    have e2 : 2 ^ (m - d) = 2 ^ (m - 1 - d) + 2 ^ (m - 1 - d) := by
      rw [show m - d = (m - 1 - d) + 1 by omega, Nat.pow_succ]; omega
    rw [show m - (d + 1) = m - 1 - d by omega] at hs
    have sub : subB s (s + 2 ^ (m - 1 - d)) := fun i hi => by rw [add_bit hs, hi]; rfl
    obtain ⟨h1, h2⟩ := hpq (m - 1 - d) (by omega)
    rw [vev_s, vev_s]
    exact Nat.div_le_div_right (mix_le h1 h2 (ih (by omega) _ (by omega)) (ih (by omega) _ (by omega)) (vev_in hf (by omega) _ _ (by omega) (by omega) sub) (vev_in hf (by omega) _ _ (by omega) (by omega) sub))
theorem top_le {f : Nat → Bool} {p q : Nat → Nat} {m : Nat} (hf : MonF f m) (hpq : ∀ r, r < m → p r ≤ q r ∧ q r ≤ 1000) : nv (dgN f m) p m (dgN f m).length (dgTop f m) ≤ nv (dgN f m) q m (dgN f m).length (dgTop f m) := by
  have e1 := nv_ev (f := f) (p := p) (m := m) (fun r hr => Nat.le_trans (hpq r hr).1 (hpq r hr).2) m (Nat.le_refl _) 0 (Nat.two_pow_pos _)
  have e2 := nv_ev (f := f) (p := q) (m := m) (fun r hr => (hpq r hr).2) m (Nat.le_refl _) 0 (Nat.two_pow_pos _)
  have := vev_le hf hpq (Nat.le_refl m) 0 (Nat.two_pow_pos _)
  unfold dgN dgTop
  rw [e1, e2]
  exact this
/-- drawn on both sides, and which diagram it is -/
theorem both_draw2 {tx tm : St} (hK : RK tx tm) (hR : RR tx tm) (hQ : RQ tm) {K : Nat} (hk : K < nK tm) (hT : RTb tx tm) (hD : RD tx tm) (hM : RDm tm) : ∃ tx' tm', x0_draw tx (jn K) = some tx' ∧ m_diagrams tm (jn K) = some tm' ∧ KpD tx tm tx' tm' ∧ DgB tx' tm' (kH tm K) (dgN (rwF tm (kH tm K) K) (mN (kH tm K))) (dgTop (rwF tm (kH tm K) K) (mN (kH tm K))) ∧ gI tx' 2 = jn K ∧ TbK tm K tx' := by
  have h250 := nK_lt hK
  obtain ⟨tx', x1, x2, x3, x4, x5, x6, x7, x8⟩ := draw_eq hK hQ hk hT hD
  obtain ⟨tm', m1, m2, m3, m4⟩ := diagrams_eq hK hR hk hM
  have hs : SameK tm tm' := same_fx m2
  have hH := kH_lt hK hk
  obtain ⟨e1, e2⟩ := dgN_same hH (F := rch tm K) (f := rwF tm (kH tm K) K) fun p _ => (rwF_nw hK hk p).symm
  have hf := rwF_mono hK hk
  have h1 := mN_pos hK hk
  have hm := mN_le (kH tm K)
  have D := x4.atK hk (by omega) x5
  refine ⟨tx', tm', x1, m1, ⟨x2, m2, ⟨x3.same hs, x4.same hs, Or.inr ⟨K, by rw [hs.1]; exact hk, m3, by rw [hs.2.1]; exact m4⟩⟩, x7, x8⟩, ⟨⟨D.1, D.2.1, D.2.2.1, D.2.2.2, x4.1.2.2.2.1, x4.1.2.2.2.2⟩, ⟨?_, ?_, m4.2.2⟩, (dg_bound hf hm h1 (Nat.le_refl _)).2, (dg_ok _ (Nat.le_refl _)).1, dg_wl _ (Nat.le_refl _), fun i hi => (dg_mem (Nat.le_refl _) (getD_memN hi)).2, ?_, x6.1, h1⟩, x5, x6⟩
  · rw [← e1]; exact m4.1
  · rw [← e2]; exact m4.2.1
  · exact (dg_ok (rwF tm (kH tm K) K) (Nat.le_refl (mN (kH tm K)))).2 0 (Nat.two_pow_pos _)
