/-! The pool of rows: there is always one that is free. -/
def usedB (tm : St) (k j : Nat) : Bool := anyB (fun u => decide (k ≤ u) && (decide (kS tm u ≠ 0) && anyB (fun i => decide (kP tm u i = j)) (kN tm u))) (nK tm)
def rootB (tm : St) (j : Nat) : Bool := anyB (fun n => decide (gA tm 16 n = jn j)) 10
/-- knots below k that are used by a later one, or stand for a net -/
def pndB (tm : St) (k j : Nat) : Bool := decide (kS tm j ≠ 0) && (usedB tm k j || rootB tm j)
def RQ (tm : St) : Prop := ∀ k, k ≤ nK tm → cntB (pndB tm k) k ≤ 36
theorem usedB_t {tm : St} {k j u : Nat} (hu : u < nK tm) (hk : k ≤ u) (h : PartOf tm u j) : usedB tm k j = true := by
  obtain ⟨q, i, hi, e⟩ := h
  refine anyB_t.mpr ⟨u, hu, ?_⟩
  rw [decide_eq_true hk, decide_eq_true q, anyB_t.mpr ⟨i, hi, decide_eq_true e⟩]
  rfl
def luN (g : Nat → Int32) (j : Nat) : Nat := (g j).toNatClampNeg
/-- rows that are wanted still, as knot k comes -/
def LiveK (tm : St) (K : Nat) (g : Nat → Int32) (k j : Nat) : Prop := j < k ∧ Need tm K j ∧ kS tm j ≠ 0 ∧ (j = K ∨ k ≤ luN g j)
theorem mn_lu {tx tm : St} (hK : RK tx tm) {K : Nat} (hk : K < nK tm) {f g : Nat → Int32} (h : Mn tm K 0 f g) {j : Nat} (hj : Need tm K j) (hne : j ≠ K) : ∃ u, luN g j = u ∧ g j = jn u ∧ u ≤ K ∧ PartOf tm u j ∧ ∀ u', Need tm K u' → PartOf tm u' j → u' ≤ u := by
  have h250 := nK_lt hK
  have all : ∀ {j}, Need tm K j → f j = 1 := fun n => n.ind (fun j => f j = 1) h.1 fun u i n1 ih q hi => h.2.2.1 u (Nat.zero_le _) (n1.le hK hk) ih _ ⟨q, i, hi, rfl⟩
  have jl := hj.le hK hk
  obtain ⟨u, -, u2, u3, u4, u5, u6⟩ := h.2.2.2 j (by omega) (all hj)
  refine ⟨u, ?_, u3, u2, u5, fun u' n p => u6 u' (Nat.zero_le _) (n.le hK hk) (all n) p⟩
  unfold luN
  rw [u3, jn_cl (by omega)]
/-- no more rows than things that hold them -/
theorem inj_cnt {p : Nat → Bool} {h : Nat → Nat} : ∀ (m n : Nat) (b : Nat → Bool), (∀ r, r < n → b r = true → ∃ j, j < m ∧ p j = true ∧ h j = r) → cntB b n ≤ cntB p m := by
  intro m
  induction m with
  | zero =>
    intro n b hb
    refine Nat.le_trans (cntB_dn (m := 0) fun r _ hr => ?_) (Nat.zero_le _)
    cases hx : b r with
    | false => rfl
    | true => obtain ⟨j, hj, -⟩ := hb r hr hx; omega
  | succ m ih =>
    intro n b hb
    show _ ≤ cntB p m + (if p m then 1 else 0)
    by_cases hp : p m = true
    · rw [if_pos hp]
      have h1 := ih n (fun r => b r && !decide (r = h m)) (fun r hr hx => by
        rw [Bool.and_eq_true] at hx
        obtain ⟨j, j1, j2, j3⟩ := hb r hr hx.1
        have hne : r ≠ h m := by simpa using hx.2
        refine ⟨j, ?_, j2, j3⟩
        by_cases e : j = m
        · subst e; exact absurd j3.symm hne
        · omega)
      have h2 : cntB b n ≤ cntB (fun r => b r && !decide (r = h m)) n + cntB (fun r => decide (r = h m)) n := by
        have e : cntB (fun r => b r || decide (r = h m)) n ≤ cntB (fun r => b r && !decide (r = h m)) n + cntB (fun r => decide (r = h m)) n := by
          refine Nat.le_of_eq (smm_split fun r _ => ?_)
          by_cases e : r = h m
          · simp [e]
          · cases b r <;> simp [e]
        exact Nat.le_trans (cntB_mono fun r _ hr => by rw [hr]; rfl) e
      have h3 : cntB (fun r => decide (r = h m)) n ≤ 1 := by
        by_cases c : h m < n
        · have : cntB (fun r => decide (r = h m)) n = 1 := Eq.trans (smm_cong (g := fun r => if r = h m then 1 else 0) fun r _ => by by_cases e : r = h m <;> simp [e]) (smm_one1 c)
          omega
        · refine Nat.le_trans (cntB_dn (m := 0) fun r _ hr => decide_eq_false (by omega)) (Nat.zero_le _)
      omega
    · rw [if_neg hp]
      refine ih n b fun r hr hx => ?_
      obtain ⟨j, j1, j2, j3⟩ := hb r hr hx
      refine ⟨j, ?_, j2, j3⟩
      by_cases e : j = m
      · subst e; exact absurd j2 hp
      · omega
theorem free_row {busy : Nat → Int32} {L : Nat → Prop} {row : Nat → Nat} {p : Nat → Bool} {k : Nat} (h01 : ∀ r, r < 56 → busy r = 0 ∨ busy r = 1) (hb : ∀ r, 16 ≤ r → r < 56 → busy r = 1 → ∃ j, j < k ∧ p j = true ∧ row j = r) (hp : cntB p k ≤ 36) : ∃ ρ, 16 ≤ ρ ∧ ρ < 55 ∧ busy ρ = 0 ∧ ∀ r, 16 ≤ r → r < ρ → busy r = 1 := by
  have key : ∀ d r, d + r = 55 → 16 ≤ r → (∀ x, 16 ≤ x → x < r → busy x = 1) → ∃ ρ, 16 ≤ ρ ∧ ρ < 55 ∧ busy ρ = 0 ∧ ∀ r, 16 ≤ r → r < ρ → busy r = 1 := by
    intro d
    induction d with
    | zero =>
      intro r hr _ hall
      exfalso
      have h1 := inj_cnt (h := row) k 55 (fun r => decide (16 ≤ r)) (fun r hr2 hx => hb r (of_decide_eq_true hx) (by omega) (hall r (of_decide_eq_true hx) (by omega)))
      have h2 : cntB (fun r => decide (16 ≤ r)) 55 = 39 := by decide
      omega
    | succ d ih =>
      intro r hr h16 hall
      rcases h01 r (by omega) with e | e
      · exact ⟨r, h16, by omega, e, hall⟩
      · refine ih (r + 1) (by omega) (by omega) fun x h1 h2 => ?_
        by_cases z : x = r
        · rw [z]; exact e
        · exact hall x h1 (by omega)
  exact key 39 16 (by omega) (by omega) fun x h1 h2 => by omega
theorem find_free {s : St} (h9 : gN s 809 = 56) (k : Int32) {ρ : Nat} (h1 : 16 ≤ ρ) (h2 : ρ < 55) (h3 : gA s 809 ρ = 0) (h4 : ∀ r, 16 ≤ r → r < ρ → gA s 809 r = 1) : lp (fun x => x8_fillKnot_B3 s k x) (16 : Int32) = some (jn ρ) := by
  have l := lp_cnt (b := fun x => x8_fillKnot_B3 s k x) (fun i (_ : Unit) => jn i) ρ (fun i _ => 16 ≤ i) (fun y => y = jn ρ) (by
    rintro i _ hi h16
    refine ⟨(), ?_, by omega⟩
    unfold x8_fillKnot_B3
    rw [if_neg (jnge (x := 55) 55 rfl (by omega) (by omega) (by omega)), h9, gd_jn (by omega) (by omega), jn_cl (by omega), h4 i h16 hi, if_neg (by decide)]
    simp only [nm, jn_s]) (by
    rintro _ -
    refine ⟨jn ρ, ?_, rfl⟩
    unfold x8_fillKnot_B3
    rw [if_neg (jnge (x := 55) 55 rfl (by omega) (by omega) (by omega)), h9, gd_jn (by omega) (by omega), jn_cl (by omega), h3, if_pos rfl]) 16 () h1 (Nat.le_refl _)
  obtain ⟨y, k1, rfl⟩ := l
  exact k1
/-- rows that are no longer wanted are free again -/
theorem frees_eq {tx tm s : St} (hK : RK tx tm) {S T : List Nat} (hf : fx S T tx s) (hS : (S.elem 603 || S.elem 604 || S.elem 606 || S.elem 608) = false) (hT2 : (T.elem 603 || T.elem 604 || T.elem 606 || T.elem 608) = false) (h9 : gN s 809 = 56) (h11 : gN s 811 = 330) (h12 : gN s 812 = 330) {k : Nat} (hk : k < nK tm) (q : kS tm k ≠ 0) {rw_ : Nat → Nat} (hrow : ∀ i, i < kN tm k → kS tm (kP tm k i) ≠ 0 → gA s 811 (kP tm k i) = jn k → rw_ (kP tm k i) < 56 ∧ gA s 812 (kP tm k i) = jn (rw_ (kP tm k i))) : ∃ s', x8_fillKnot_J64 s (jn k) = some s' ∧ fx [809] [] s s' ∧ ∀ r, gA s' 809 r = if ∃ i, i < kN tm k ∧ kS tm (kP tm k i) ≠ 0 ∧ gA s 811 (kP tm k i) = jn k ∧ rw_ (kP tm k i) = r then 0 else gA s 809 r := by
  have h250 := nK_lt hK
  simp only [Bool.or_eq_false_iff] at hS hT2
  obtain ⟨⟨⟨a3, a4⟩, a6⟩, a8⟩ := hS
  obtain ⟨⟨⟨b3, b4⟩, b6⟩, b8⟩ := hT2
  obtain ⟨⟨z3, z4, z5, z6, z7⟩, -, -, hall⟩ := id hK
  obtain ⟨s1, s2, s3, d1, d2, d3, g1, g2, g3, m1, m2, q1, q2⟩ := hall k hk
  obtain ⟨e1, e2, e3, e4, e5, e7, e8, e6, -⟩ := q2 q
  have g0 : ∀ {α : Type} (x : Option α), gd (jn k) 330 x = x := fun x => gd_jn (by omega) (by omega)
  have ck : (jn k).toNatClampNeg = k := jn_cl (by omega)
  have A4 : gA s 604 k = jn (kN tm k) := (congrFun (hf.1 604 a4).2.2.1 k).trans (e1.trans m1)
  have l := lp_cnt (b := fun y : Int32 × St => x8_fillKnot_B66 (jn k) y.1 y.2) (fun i s => (jn i, s)) (kN tm k)
    (fun n u => fx [809] [] s u ∧ ∀ r, gA u 809 r = if ∃ i, i < n ∧ kS tm (kP tm k i) ≠ 0 ∧ gA s 811 (kP tm k i) = jn k ∧ rw_ (kP tm k i) = r then 0 else gA s 809 r)
    (fun u => fx [809] [] s u ∧ ∀ r, gA u 809 r = if ∃ i, i < kN tm k ∧ kS tm (kP tm k i) ≠ 0 ∧ gA s 811 (kP tm k i) = jn k ∧ rw_ (kP tm k i) = r then 0 else gA s 809 r) (by
      rintro n u hn ⟨f1, v1⟩
      have w3 := (e6 n hn).2.2
      obtain ⟨c1, c2, c3, -⟩ := hall (kP tm k n) (by omega)
      have A3 : gA s 603 (kP tm k n) = jn (kS tm (kP tm k n)) := (congrFun (hf.1 603 a3).2.2.1 _).trans (c3.trans c1)
      have po : x6_partOf u (jn k) (jn n) = some (jn (kP tm k n)) := by
        have := part_eq hK hf (by rw [a6, a8]; rfl) (by rw [b6, b8]; rfl) hk q hn
        unfold x6_partOf at this ⊢
        rw [f1.2 606 rfl, f1.2 608 rfl, (f1.1 606 rfl).2.2.1, (f1.1 608 rfl).2.2.1]
        exact this
      have same : (kS tm (kP tm k n) = 0 ∨ gA s 811 (kP tm k n) ≠ jn k) → fx [809] [] s u ∧ ∀ r, gA u 809 r = if ∃ i, i < n + 1 ∧ kS tm (kP tm k i) ≠ 0 ∧ gA s 811 (kP tm k i) = jn k ∧ rw_ (kP tm k i) = r then 0 else gA s 809 r := by
        intro hz
        refine ⟨f1, fun r => ?_⟩
        rw [v1]
        by_cases z : ∃ i, i < n ∧ kS tm (kP tm k i) ≠ 0 ∧ gA s 811 (kP tm k i) = jn k ∧ rw_ (kP tm k i) = r
        · obtain ⟨i, i1, i2⟩ := z
          rw [if_pos ⟨i, i1, i2⟩, if_pos ⟨i, by omega, i2⟩]
        · rw [if_neg z, if_neg]
          rintro ⟨i, i1, i2, i3, i4⟩
          by_cases e : i = n
          · subst e
            rcases hz with h | h
            · exact i2 h
            · exact h i3
          · exact z ⟨i, by omega, i2, i3, i4⟩
      dsimp only
      unfold x8_fillKnot_B66
      rw [f1.2 604 rfl, hf.2 604 b4, z4, g0, ck, (f1.1 604 rfl).2.2.1, A4, if_neg (nle hn (by omega)), po, bs, f1.2 603 rfl, hf.2 603 b3, z3, gd_jn (by omega) (by omega), jn_cl (by omega), (f1.1 603 rfl).2.2.1, A3]
      by_cases c : kS tm (kP tm k n) = 0
      · rw [if_pos (show jn (kS tm (kP tm k n)) = 0 by rw [c]; rfl)]
        simp only [nm, jn_s]
        exact ⟨u, rfl, same (Or.inl c)⟩
      · rw [if_neg (jn_nz c (by omega)), f1.2 811 rfl, h11, gd_jn (by omega) (by omega), (f1.1 811 rfl).2.2.1]
        by_cases c2 : gA s 811 (kP tm k n) = jn k
        · obtain ⟨r1, r2⟩ := hrow n hn c c2
          rw [if_pos c2, f1.2 812 rfl, h12, gd_jn (by omega) (by omega), (f1.1 812 rfl).2.2.1, r2, f1.2 809 rfl, h9, gd_jn (by omega) (by omega)]
          simp only [nm, jn_s]
          refine ⟨_, rfl, f1.trans (fx_sA rfl), fun r => ?_⟩
          rw [gA_sA, jn_cl (by omega)]
          by_cases e : r = rw_ (kP tm k n)
          · subst e
            rw [upd_at, if_pos ⟨n, by omega, c, c2, rfl⟩]
            rfl
          · rw [upd_ne e, v1]
            by_cases z : ∃ i, i < n ∧ kS tm (kP tm k i) ≠ 0 ∧ gA s 811 (kP tm k i) = jn k ∧ rw_ (kP tm k i) = r
            · obtain ⟨i, i1, i2⟩ := z
              rw [if_pos ⟨i, i1, i2⟩, if_pos ⟨i, by omega, i2⟩]
            · rw [if_neg z, if_neg]
              rintro ⟨i, i1, i2, i3, i4⟩
              by_cases y : i = n
              · subst y; exact e i4.symm
              · exact z ⟨i, by omega, i2, i3, i4⟩
        · rw [if_neg c2]
          simp only [nm, jn_s]
          exact ⟨u, rfl, same (Or.inr c2)⟩) (by
      rintro u ⟨f1, hu⟩
      refine ⟨u, ?_, f1, hu⟩
      dsimp only
      unfold x8_fillKnot_B66
      rw [f1.2 604 rfl, hf.2 604 b4, z4, g0, ck, (f1.1 604 rfl).2.2.1, A4, if_pos (lee (by omega))]) 0 s (by omega) ⟨fx.rfl, fun r => by rw [if_neg (by rintro ⟨i, h, -⟩; omega)]⟩
  obtain ⟨u, k1, k2⟩ := l
  refine ⟨u, ?_, k2⟩
  unfold x8_fillKnot_J64
  rw [show (0 : Int32) = jn 0 from rfl, k1, bs]
