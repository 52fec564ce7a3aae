/-! Keys put in order. -/
def tau (p q i : Nat) : Nat := if i = p then q else if i = q then p else i
theorem tau_l (p q : Nat) : tau p q p = q := if_pos rfl
theorem tau_r (p q : Nat) : tau p q q = p := by
  unfold tau
  by_cases c : q = p
  · rw [if_pos c, c]
  · rw [if_neg c, if_pos rfl]
theorem tau_o {p q i : Nat} (h : i ≠ p) (g : i ≠ q) : tau p q i = i := by
  unfold tau
  rw [if_neg h, if_neg g]
theorem tau_tau (p q i : Nat) : tau p q (tau p q i) = i := by
  by_cases a : i = p
  · subst a; rw [tau_l, tau_r]
  · by_cases b : i = q
    · subst b; rw [tau_r, tau_l]
    · rw [tau_o a b, tau_o a b]
theorem tau_lt {n p q i : Nat} (hp : p < n) (hq : q < n) (hi : i < n) : tau p q i < n := by
  unfold tau
  split
  · exact hq
  · split
    · exact hp
    · exact hi
/-- b has the numbers of a, each once -/
def Pm (n : Nat) (a b : Nat → Nat) : Prop := (∀ i, i < n → ∃ j, j < n ∧ b i = a j) ∧ (∀ j, j < n → ∃ i, i < n ∧ b i = a j) ∧ ∀ i j, i < n → j < n → b i = b j → i = j
theorem Pm.sw {n : Nat} {a b : Nat → Nat} (h : Pm n a b) {p q : Nat} (hp : p < n) (hq : q < n) : Pm n a (fun i => b (tau p q i)) := by
  refine ⟨fun i hi => h.1 _ (tau_lt hp hq hi), fun j hj => ?_, fun i j hi hj e => ?_⟩
  · obtain ⟨i, i1, i2⟩ := h.2.1 j hj
    refine ⟨tau p q i, tau_lt hp hq i1, ?_⟩
    (try dsimp only)
    rw [tau_tau]
    exact i2
  · have k := h.2.2 _ _ (tau_lt hp hq hi) (tau_lt hp hq hj) e
    have := congrArg (tau p q) k
    rw [tau_tau, tau_tau] at this
    exact this
def KA (t : St) (n : Nat) (b : Nat → Nat) : Prop := ∀ j, j < n → b j < 2147483648 ∧ gA t 407 j = jn (b j)
theorem sort_in {n gap i key : Nat} (hn : n ≤ 100000) (hi : i < n) (hg : 0 < gap) (hgn : gap ≤ n) (hk : key < 2147483648) (P : (Nat → Nat) → Nat → Prop) (hP : ∀ v l, gap ≤ l → l ≤ i → v l = key → key < v (l - gap) → P v l → P (fun x => v (tau l (l - gap) x)) (l - gap)) : ∀ f l s v, l ≤ f → l ≤ i → n ≤ gN s 407 → v l = key → (∀ j, j < n → v j < 2147483648 ∧ (j ≠ l → gA s 407 j = jn (v j))) → P v l → ∃ l' s' v', lp (fun x : Int32 × St => x4_sort_B26 (jn n) (jn gap) (jn i) (jn key) x.1 x.2) (jn l, s) = some (jn l', s') ∧ fx [407] [] s s' ∧ l' ≤ i ∧ v' l' = key ∧ (∀ j, j < n → v' j < 2147483648 ∧ (j ≠ l' → gA s' 407 j = jn (v' j))) ∧ P v' l' ∧ (l' < gap ∨ v' (l' - gap) ≤ key) := by
  intro f
  induction f with
  | zero =>
    intro l s v hl hli hN e hv p
    have : l = 0 := by omega
    subst this
    refine ⟨0, s, v, lp_r ?_, fx.rfl, hli, e, hv, p, Or.inl hg⟩
    (try dsimp only)
    unfold x4_sort_B26
    rw [if_pos ((jn_lt (by omega) (by omega)).mpr hg)]
  | succ f ih =>
    intro l s v hl hli hN e hv p
    by_cases c : l < gap
    · refine ⟨l, s, v, lp_r ?_, fx.rfl, hli, e, hv, p, Or.inl c⟩
      (try dsimp only)
      unfold x4_sort_B26
      rw [if_pos ((jn_lt (by omega) (by omega)).mpr c)]
    · have v1 := hv (l - gap) (by omega)
      have v2 := v1.2 (by omega)
      by_cases d : v (l - gap) ≤ key
      · refine ⟨l, s, v, lp_r ?_, fx.rfl, hli, e, hv, p, Or.inr d⟩
        (try dsimp only)
        unfold x4_sort_B26
        rw [if_neg (fun z => c ((jn_lt (by omega) (by omega)).mp z)), jn_sub (by omega), gd_jn (by omega) (by omega), jn_cl (by omega), v2, if_pos ((jn_le v1.1 hk).mpr d)]
      · have st : (fun x : Int32 × St => x4_sort_B26 (jn n) (jn gap) (jn i) (jn key) x.1 x.2) (jn l, s) = some (.inl (jn (l - gap), sA s 407 (jn l) (jn (v (l - gap))))) := by
          (try dsimp only)
          unfold x4_sort_B26
          rw [if_neg (fun z => c ((jn_lt (by omega) (by omega)).mp z)), jn_sub (by omega), gd_jn (by omega) (by omega), jn_cl (by omega), v2, if_neg (fun z => d ((jn_le v1.1 hk).mp z)), gd_jn (by omega) (by omega), gd_jn (by omega) (by omega)]
          simp only [nm]
        obtain ⟨l', s', v', k1, k2, k3, k4, k5, k6, k7⟩ := ih (l - gap) (sA s 407 (jn l) (jn (v (l - gap)))) (fun x => v (tau l (l - gap) x)) (by omega) (by omega) hN (by (try dsimp only); rw [tau_r]; exact e) (fun j hj => by
          have a := hv (tau l (l - gap) j) (tau_lt (by omega) (by omega) hj)
          refine ⟨a.1, fun z => ?_⟩
          rw [gA_sA, jn_cl (by omega)]
          (try dsimp only)
          by_cases w : j = l
          · subst w; rw [upd_at, tau_l]
          · rw [upd_ne w, tau_o w z]; exact (hv j hj).2 w) (hP v l (by omega) hli e (by omega) p)
        exact ⟨l', s', v', by rw [lp_l st]; exact k1, (fx_sA rfl : fx [407] [] s _).trans k2, k3, k4, k5, k6, k7⟩
theorem sort_pass {n gap : Nat} (hn : n ≤ 100000) (hg : 0 < gap) (hgn : gap ≤ n) {a b : Nat → Nat} {t : St} (hN : n ≤ gN t 407) (hb : KA t n b) (hp : Pm n a b) : ∃ t' b', lp (fun x : Int32 × St => x4_sort_B10 (jn n) (jn gap) x.1 x.2) (jn gap, t) = some t' ∧ fx [407] [] t t' ∧ KA t' n b' ∧ Pm n a b' ∧ (gap = 1 → ∀ p q, p < q → q < n → b' p < b' q) := by
  have L := lp_cnt (b := fun x : Int32 × St => x4_sort_B10 (jn n) (jn gap) x.1 x.2) (fun i s => (jn i, s)) n
    (fun i s => fx [407] [] t s ∧ ∃ b, KA s n b ∧ Pm n a b ∧ (gap = 1 → ∀ p q, p < q → q < i → b p < b q))
    (fun s => fx [407] [] t s ∧ ∃ b, KA s n b ∧ Pm n a b ∧ (gap = 1 → ∀ p q, p < q → q < n → b p < b q)) (by
      rintro i s hi ⟨hf, b, h1, h2, h3⟩
      have sN : n ≤ gN s 407 := by rw [hf.2 407 rfl]; exact hN
      have bi := h1 i hi
      obtain ⟨l', s', v', k1, k2, k3, k4, k5, ⟨k6, k7⟩, k8⟩ := sort_in (n := n) (gap := gap) (i := i) (key := b i) hn hi hg hgn bi.1
        (fun v l => Pm n a v ∧ (gap = 1 → (∀ p q, p < q → q ≤ i → p ≠ l → q ≠ l → v p < v q) ∧ ∀ j, l < j → j ≤ i → b i < v j)) (by
          rintro v l g1 g2 g3 g4 ⟨g5, g6⟩
          refine ⟨g5.sw (by omega) (by omega), fun g7 => ?_⟩
          obtain ⟨u1, u2⟩ := g6 g7
          subst g7
          refine ⟨fun p q hpq hq np nq => ?_, fun j hj hji => ?_⟩
          · (try dsimp only)
            by_cases c : p = l
            · subst c
              rw [tau_l, tau_o (by omega) (by omega)]
              exact u1 _ _ (by omega) hq (by omega) (by omega)
            · by_cases d : q = l
              · subst d
                rw [tau_l, tau_o (by omega) (by omega)]
                exact u1 _ _ (by omega) (by omega) (by omega) (by omega)
              · rw [tau_o c np, tau_o d nq]
                exact u1 _ _ hpq hq c d
          · (try dsimp only)
            by_cases c : j = l
            · subst c; rw [tau_l]; exact g4
            · rw [tau_o c (by omega)]; exact u2 j (by omega) hji) i i s b (Nat.le_refl _) (Nat.le_refl _) sN rfl (fun j hj => ⟨(h1 j hj).1, fun _ => (h1 j hj).2⟩) ⟨h2, fun g7 => ⟨fun p q hpq hq np nq => h3 g7 p q hpq (by omega), fun j hj hji => by omega⟩⟩
      have s7 : gN s' 407 = gN t 407 := (k2.2 407 rfl).trans (hf.2 407 rfl)
      refine ⟨sA s' 407 (jn l') (jn (b i)), ?_, (hf.trans k2).trans (fx_sA rfl), v', fun j hj => ⟨(k5 j hj).1, ?_⟩, k6, fun g7 p q hpq hq => ?_⟩
      · (try dsimp only)
        unfold x4_sort_B10
        rw [if_neg (nle hi (by omega)), gd_jn (by omega) (by omega), jn_cl (by omega), bi.2]
        simp only [nm]
        rw [show lp (fun x : Int32 × St => x4_sort_B26 (jn n) (jn gap) (jn i) (jn (b i)) x.1 x.2) (jn i, s) = some (jn l', s') from k1, bs]
        (try dsimp only)
        rw [s7, gd_jn (by omega) (by omega), jn_s]
      · rw [gA_sA, jn_cl (by omega)]
        by_cases c : j = l'
        · subst c; rw [upd_at, k4]
        · rw [upd_ne c]; exact (k5 j hj).2 c
      · obtain ⟨u1, u2⟩ := k7 g7
        by_cases c : q = l'
        · subst c
          -- all ahead of the place are less
          rcases k8 with z | z
          · omega
          · have ne : ∀ x, x < q → v' x ≠ v' q := fun x hx e => by
              have := k6.2.2 x q (by omega) (by omega) e
              omega
            have n1 := ne (q - gap) (by omega)
            rw [k4] at n1
            rw [k4]
            by_cases d : p = q - 1
            · subst d; rw [g7] at z n1; omega
            · have := u1 p (q - 1) (by omega) (by omega) (by omega) (by omega)
              rw [g7] at z
              omega
        · by_cases d : p = l'
          · subst d; rw [k4]; exact u2 q hpq (by omega)
          · exact u1 p q hpq (by omega) d c) (by
      rintro s hs
      exact ⟨s, by (try dsimp only); unfold x4_sort_B10; rw [if_pos (lee (by omega))], hs⟩) gap t hgn ⟨fx.rfl, b, hb, hp, fun g7 p q hpq hq => by omega⟩
  obtain ⟨s, k, k1, b', k2, k3, k4⟩ := L
  exact ⟨s, b', k, k1, k2, k3, k4⟩
theorem sort_gaps {n : Nat} (hn : n ≤ 100000) {a : Nat → Nat} : ∀ g, g ≤ n → ∀ t b, n ≤ gN t 407 → KA t n b → Pm n a b → ∃ t' b', lp (fun x : Int32 × St => x4_sort_B4 (jn n) x.1 x.2) (jn g, t) = some t' ∧ fx [407] [] t t' ∧ KA t' n b' ∧ Pm n a b' ∧ (0 < g → ∀ p q, p < q → q < n → b' p < b' q) := by
  intro g
  induction g using Nat.strongRecOn with
  | _ g ih =>
    intro hg t b hN hb hp
    have e0 : ∀ s : St, lp (fun x : Int32 × St => x4_sort_B4 (jn n) x.1 x.2) (jn 0, s) = some s := fun s => lp_r (by
      (try dsimp only)
      unfold x4_sort_B4
      rw [if_pos (show jn 0 ≤ 0 by decide)])
    by_cases g0 : g = 0
    · subst g0
      exact ⟨t, b, e0 t, fx.rfl, hb, hp, fun z => absurd z (Nat.lt_irrefl 0)⟩
    obtain ⟨t1, b1, p1, p2, p3, p4, p5⟩ := sort_pass hn (by omega) hg hN hb hp
    have e1 : (fun x : Int32 × St => x4_sort_B4 (jn n) x.1 x.2) (jn g, t) = some (.inl (jn (g / 2), t1)) := by
      (try dsimp only)
      unfold x4_sort_B4
      rw [if_neg (fun z => by have := (jn_le (b := 0) (by omega) (by omega)).mp z; omega), show lp (fun x : Int32 × St => x4_sort_B10 (jn n) (jn g) x.1 x.2) (jn g, t) = some t1 from p1, bs]
      simp only [nm]
      rw [show (2 : Int32) = jn 2 from rfl, jn_div (by omega) (by omega)]
    by_cases g1 : g = 1
    · refine ⟨t1, b1, ?_, p2, p3, p4, fun _ => p5 g1⟩
      rw [lp_l e1]
      subst g1
      exact e0 t1
    · obtain ⟨t2, b2, q1, q2, q3, q4, q5⟩ := ih (g / 2) (by omega) (by omega) t1 b1 (by rw [p2.2 407 rfl]; exact hN) p3 p4
      exact ⟨t2, b2, by rw [lp_l e1]; exact q1, p2.trans q2, q3, q4, fun _ => q5 (by omega)⟩
theorem sort_eq {n : Nat} (hn : n ≤ 100000) {a : Nat → Nat} {t : St} (hN : n ≤ gN t 407) (ha : KA t n a) (hi : ∀ i j, i < n → j < n → a i = a j → i = j) : ∃ t' b, x4_sort t (jn n) = some t' ∧ fx [407] [] t t' ∧ KA t' n b ∧ Pm n a b ∧ ∀ p q, p < q → q < n → b p < b q := by
  obtain ⟨t', b, k1, k2, k3, k4, k5⟩ := sort_gaps (a := a) hn (n / 2) (by omega) t a hN ha ⟨fun i hi => ⟨i, hi, rfl⟩, fun j hj => ⟨j, hj, rfl⟩, hi⟩
  refine ⟨t', b, ?_, k2, k3, k4, fun p q hpq hq => k5 (by omega) p q hpq hq⟩
  unfold x4_sort
  rw [show (2 : Int32) = jn 2 from rfl, jn_div (by omega) (by omega)]
  simp only [nm]
  rw [show lp (fun x : Int32 × St => x4_sort_B4 (jn n) x.1 x.2) (jn (n / 2), t) = some t' from k1, bs]
