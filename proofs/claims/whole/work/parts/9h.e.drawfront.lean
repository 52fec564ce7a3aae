/-! The front on the class's side, drawn or kept. -/
def FtX (tx tm : St) (K : Nat) : Prop := ((dgN (rwF tm (kH tm K) K) (mN (kH tm K))).length ≤ 400 ∧ gI tx 410 = jn ((mN (kH tm K) + 2) / 3) ∧ gI tx 411 = jn (mN (kH tm K)) ∧ 2 ^ nG tm * ((mN (kH tm K) + 2) / 3) ≤ gN tx 405) ∧ ∃ m g, gI tx 408 = jn m ∧ m ≤ gN tx 406 ∧ (∀ j, j < m → gA tx 406 j = jn (g j) ∧ Bg (gA tx 405) (g j * ((mN (kH tm K) + 2) / 3)) ((mN (kH tm K) + 2) / 3) (fvl tm K (g j))) ∧ Fr (fpr tm) (fvl tm K) (fun x => x < 2 ^ nG tm) m g
/-- what is kept of a front -/
def RFt (tx tm : St) : Prop := (gN tx 405 ≤ 12288 ∧ gN tx 406 ≤ 2048 ∧ gN tx 407 ≤ 2048) ∧ (gI tx 409 = -1 ∨ ∃ K, K < nK tm ∧ gI tx 409 = jn K ∧ FtX tx tm K)
theorem FtX.frx {S T : List Nat} {tx tm tx' : St} {K : Nat} (h : FtX tx tm K) (hx : fx S T tx tx') (h1 : (S.elem 405 || S.elem 406 || S.elem 408 || S.elem 410 || S.elem 411) = false := by rfl) (h2 : (T.elem 405 || T.elem 406) = false := by rfl) : FtX tx' tm K := by
  simp only [Bool.or_eq_false_iff] at h1 h2
  obtain ⟨⟨⟨⟨a5, a6⟩, a8⟩, a0⟩, a1⟩ := h1
  unfold FtX at *
  rw [(hx.1 410 a0).1, (hx.1 411 a1).1, (hx.1 408 a8).1, hx.2 405 h2.1, hx.2 406 h2.2, (hx.1 405 a5).2.2.1, (hx.1 406 a6).2.2.1]
  exact h
theorem RFt.frx {S T : List Nat} {tx tm tx' : St} (h : RFt tx tm) (hx : fx S T tx tx') (h1 : (S.elem 405 || S.elem 406 || S.elem 408 || S.elem 410 || S.elem 411 || S.elem 409) = false := by rfl) (h2 : (T.elem 405 || T.elem 406 || T.elem 407) = false := by rfl) : RFt tx' tm := by
  rw [Bool.or_eq_false_iff] at h1 h2
  obtain ⟨h, r⟩ := h
  refine ⟨?_, ?_⟩
  · have h3 := h2.1
    rw [Bool.or_eq_false_iff] at h3
    rw [hx.2 405 h3.1, hx.2 406 h3.2, hx.2 407 h2.2]
    exact h
  · rw [(hx.1 409 h1.2).1]
    rcases r with r | ⟨K, k1, k2, k3⟩
    · exact Or.inl r
    · exact Or.inr ⟨K, k1, k2, k3.frx hx h1.1 h2.1⟩
/-- the reference changes nothing that a front hangs on -/
theorem FtX.same {tx tm tm' : St} {K : Nat} (h : FtX tx tm K) (hs : SameK tm tm') (h2 : gA tm' 2 = gA tm 2) (h5 : gI tm' 45 = gI tm 45) (h6 : gA tm' 46 = gA tm 46) (h7 : gA tm' 47 = gA tm 47) : FtX tx tm' K := by
  have e1 : ∀ H p, rwF tm' H p = rwF tm H p := fun H p => by unfold rwF; rw [hs.2.1]
  have e2 : kH tm' = kH tm := hs.2.2.1
  have e3 : nG tm' = nG tm := by unfold nG; rw [h5]
  have e4 : ∀ s n, stopsOf tm' s n = stopsOf tm s n := fun s n => by unfold stopsOf gSt; rw [h6]
  have e5 : fpr tm' = fpr tm := by
    funext s
    unfold fpr wagesOf gWa
    rw [h7, e3]
  have e6 : fvl tm' K = fvl tm K := by
    funext s
    unfold fvl usU
    rw [e1, e2, e3, e4, h2]
  unfold FtX at *
  rw [e1, e2, e3, e5, e6]
  exact h
theorem RFt.same {tx tm tm' : St} (h : RFt tx tm) (hs : SameK tm tm') (h2 : gA tm' 2 = gA tm 2) (h5 : gI tm' 45 = gI tm 45) (h6 : gA tm' 46 = gA tm 46) (h7 : gA tm' 47 = gA tm 47) : RFt tx tm' := by
  refine ⟨h.1, ?_⟩
  rcases h.2 with r | ⟨K, k1, k2, k3⟩
  · exact Or.inl r
  · exact Or.inr ⟨K, by rw [hs.1]; exact k1, k2, k3.same hs h2 h5 h6 h7⟩
theorem workChances_eq {t tm tm0 : St} {K n : Nat} (hG : RG t tm) (hH : RH t tm) (hB : DgB t tm0 (kH tm K) (dgN (rwF tm (kH tm K) K) (mN (kH tm K))) (dgTop (rwF tm (kH tm K) K) (mN (kH tm K)))) (hl : (dgN (rwF tm (kH tm K) K) (mN (kH tm K))).length ≤ 400) (hn : n = (mN (kH tm K) + 2) / 3) (h12 : R12 t) (h9 : gN t 9 ≤ 1000000) (h410 : gI t 410 = jn n) (h5 : gN t 405 ≤ 12288) (h7 : gN t 407 ≤ 2048) : ∃ (t' : St) (c : Nat) (ks : Nat → Nat), x4_workChances t = some (jn c, t') ∧ fx [12, 14, 405, 407] [12, 405, 407, 9000, 9001] t t' ∧ (R12 t' ∧ gN t' 405 ≤ 12288 ∧ gN t' 407 ≤ 2048 ∧ 2 ^ nG tm * n ≤ gN t' 405 ∧ 2 ^ nG tm ≤ gN t' 407) ∧ gN t' 9001 + P12 (gN t 12) + 2 * gN t 405 + 2 * gN t 407 ≤ gN t 9001 + P12 (gN t' 12) + 2 * gN t' 405 + 2 * gN t' 407 + 2412 ∧ gN t' 9000 ≤ gN t 9000 + 3 ∧ c ≤ 2 ^ nG tm ∧ (∀ j, j < c → gA t' 407 j = jn (1024 * fpr tm (ks j) + ks j) ∧ ks j < 2 ^ nG tm ∧ ¬ idl tm (kH tm K) (ks j)) ∧ (∀ x, x < 2 ^ nG tm → ¬ idl tm (kH tm K) x → ∃ j, j < c ∧ ks j = x) ∧ (∀ j l, j < l → l < c → ks j < ks l) ∧ ∀ x, x < 2 ^ nG tm → ¬ idl tm (kH tm K) x → Bg (gA t' 405) (x * n) n (fvl tm K x) := by
  have hm := mN_le (kH tm K)
  obtain ⟨⟨e1, e2, e3⟩, -⟩ := id hG
  have hp := pow_le10 e2
  have n6 : n ≤ 6 := by omega
  have W5 : 2 ^ nG tm * n ≤ 1024 * 6 := Nat.mul_le_mul hp n6
  unfold x4_workChances
  rw [e3, e1, jn_shl1 _ (by omega), h410]
  simp only [nm]
  rw [jn_mul]
  obtain ⟨t1, g0, g1, g2, ⟨g3, g4⟩, g5⟩ := grw_eqx (t := t) (k := 405) (N := 2 ^ nG tm * n) (by omega) (by omega) (by omega) (fun t25 : St => x4_workChances_J24 t25 (jn (2 ^ nG tm)))
  rw [g0]
  have f1 : fx [405] [405, 9000, 9001] t t1 := g5 _ _ rfl rfl rfl rfl
  unfold x4_workChances_J24
  obtain ⟨t2, q0, q1, q2, ⟨q3, q4⟩, q5⟩ := grw_eqx (t := t1) (k := 407) (N := 2 ^ nG tm) (by omega) (by omega) (by rw [f1.2 407 rfl]; omega) (fun t22 : St => x4_workChances_J36 t22 (jn (2 ^ nG tm)))
  rw [q0]
  have f2 : fx [407] [407, 9000, 9001] t1 t2 := q5 _ _ rfl rfl rfl rfl
  have F : fx [405, 407] [405, 407, 9000, 9001] t t2 := (f1.wk rfl rfl : fx [405, 407] [405, 407, 9000, 9001] t t1).trans (f2.wk rfl rfl)
  have b5 : gN t2 405 = gN t1 405 := f2.2 405 rfl
  have b5' : gN t1 405 ≤ 12288 ∧ (if gN t 405 < 2 ^ nG tm * n then max (2 ^ nG tm * n) (2 * gN t 405) else 0) + 2 * gN t 405 ≤ 2 * gN t1 405 := by
    generalize 2 ^ nG tm * n = w at *
    by_cases c : gN t 405 < w
    · have := g2.1 c
      rw [if_pos c]
      omega
    · have := g2.2 c
      rw [if_neg c]
      omega
  have c7 : gN t1 407 = gN t 407 := f1.2 407 rfl
  have b7 : gN t2 407 ≤ 2048 ∧ (if gN t1 407 < 2 ^ nG tm then max (2 ^ nG tm) (2 * gN t1 407) else 0) + 2 * gN t1 407 ≤ 2 * gN t2 407 := by
    by_cases c : gN t1 407 < 2 ^ nG tm
    · have := q2.1 c
      rw [if_pos c]
      omega
    · have := q2.2 c
      rw [if_neg c]
      omega
  have G2 : RG t2 tm := hG.fr F fxn
  have H2 : RH t2 tm := hH.fr F fxn
  obtain ⟨⟨y1, y2⟩, z1, c, rfl, z2, z3, z4, ks, z5, z6, z7, z8, z9⟩ := chances_loop G2 H2 (hB.frx F) hl hn (h12.fr F) (by rw [F.2 9 rfl]; exact h9) ((F.1 410 rfl).1.trans h410) (by rw [b5]; exact g1) (by omega) q1
  (try dsimp only at z1 z2 z3 z4 z6 z9)
  have n12 : gN t2 12 = gN t 12 := F.2 12 rfl
  have hW : ((dgN (rwF tm (kH tm K) K) (mN (kH tm K))).length + 2) * n ≤ 16384 := Nat.le_trans (Nat.mul_le_mul (show (dgN (rwF tm (kH tm K) K) (mN (kH tm K))).length + 2 ≤ 402 by omega) n6) (by omega)
  have hM : gN y2 9001 + P12 (gN t2 12) ≤ gN t2 9001 + P12 (gN y2 12) + 2412 ∧ gN y2 9000 ≤ gN t2 9000 + 1 := by
    rcases z3 with z3 | z3
    · exact (gw_12 (h12.fr F).1 (Nat.zero_le _) z3).2
    · exact (gw_12 (h12.fr F).1 hW z3).2
  have k405 : gN y2 405 = gN t1 405 := (z2.2 405 rfl).trans b5
  have k407 : gN y2 407 = gN t2 407 := z2.2 407 rfl
  refine ⟨y2, c, ks, ?_, (F.wk rfl rfl : fx [12, 14, 405, 407] [12, 405, 407, 9000, 9001] t t2).trans (z2.wk rfl rfl), ⟨z4, by omega, by omega, by omega, by omega⟩, ?_, ?_, z5, z6, z7, z8, z9⟩
  · unfold x4_workChances_J36 x4_workChances_J130
    rw [z1, bs]
  · have a1 := b5'.2
    have a2 := b7.2
    rw [n12] at hM
    rw [k405, k407]
    omega
  · have a1 : (if gN t 405 < 2 ^ nG tm * n then 1 else 0) ≤ 1 := by split <;> omega
    have a2 : (if gN t1 407 < 2 ^ nG tm then 1 else 0) ≤ 1 := by split <;> omega
    omega
/-- sorted and picked -/
theorem frontDone_eq {t tm : St} {K n c : Nat} {ks : Nat → Nat} (hG : RG t tm) (hn6 : n ≤ 6) (h410 : gI t 410 = jn n) (h5 : 2 ^ nG tm * n ≤ gN t 405) (h5b : gN t 405 ≤ 12288) (h7 : 2 ^ nG tm ≤ gN t 407) (h6 : gN t 406 ≤ 2048) (hc : c ≤ 2 ^ nG tm) (k1 : ∀ j, j < c → gA t 407 j = jn (1024 * fpr tm (ks j) + ks j) ∧ ks j < 2 ^ nG tm ∧ ¬ idl tm (kH tm K) (ks j)) (k2 : ∀ x, x < 2 ^ nG tm → ¬ idl tm (kH tm K) x → ∃ j, j < c ∧ ks j = x) (k3 : ∀ j l, j < l → l < c → ks j < ks l) (k4 : ∀ x, x < 2 ^ nG tm → ¬ idl tm (kH tm K) x → Bg (gA t 405) (x * n) n (fvl tm K x)) : ∃ t', x4_drawFront_J64 t (jn c) = some (1, t') ∧ fx [406, 407, 408] [406, 9000, 9001] t t' ∧ gN t' 406 ≤ 2048 ∧ gN t' 9001 + 2 * gN t 406 ≤ gN t 9001 + 2 * gN t' 406 ∧ gN t' 9000 ≤ gN t 9000 + 1 ∧ ∃ m g, gI t' 408 = jn m ∧ m ≤ gN t' 406 ∧ (∀ j, j < m → gA t' 406 j = jn (g j) ∧ Bg (gA t' 405) (g j * n) n (fvl tm K (g j))) ∧ Fr (fpr tm) (fvl tm K) (fun x => x < 2 ^ nG tm) m g := by
  have hp := pow_le10 hG.1.2.1
  have pl : ∀ s, fpr tm s ≤ 10000 := fpr_le hG
  obtain ⟨t1, b, s1, s2, s3, s4, s5⟩ := sort_eq (n := c) (a := fun j => 1024 * fpr tm (ks j) + ks j) (t := t) (by omega) (by omega) (fun j hj => by
    have := pl (ks j)
    have := (k1 j hj).2.1
    exact ⟨by (try dsimp only); omega, (k1 j hj).1⟩) (fun i j hi hj e => by
    (try dsimp only at e)
    have a1 := (k1 i hi).2.1
    have a2 := (k1 j hj).2.1
    have e2 : ks i = ks j := by omega
    rcases Nat.lt_trichotomy i j with z | z | z
    · have := k3 i j z hj; omega
    · exact z
    · have := k3 j i z hi; omega)
  -- which set a key tells
  have dec : ∀ j, j < c → ∃ l, l < c ∧ b j = 1024 * fpr tm (ks l) + ks l ∧ b j % 1024 = ks l := fun j hj => by
    obtain ⟨l, l1, l2⟩ := s4.1 j hj
    (try dsimp only at l2)
    have := (k1 l l1).2.1
    exact ⟨l, l1, l2, by rw [l2]; omega⟩
  obtain ⟨t2, g0, g1, g2, ⟨g3, g4⟩, g5⟩ := grw_eqx (t := t1) (k := 406) (N := c) (by omega) (by omega) (by rw [s2.2 406 rfl]; omega) (fun t24 : St => x4_pickFront_J12 t24 (jn c))
  have f2 : fx [406] [406, 9000, 9001] t1 t2 := g5 _ _ rfl rfl rfl rfl
  have F : fx [406, 407] [406, 9000, 9001] t t2 := (s2.wk rfl rfl : fx [406, 407] [406, 9000, 9001] t t1).trans (f2.wk rfl rfl)
  have G2 : RG t2 tm := hG.fr F fxn
  have n405 : gN t2 405 = gN t 405 := F.2 405 rfl
  have n407 : gN t2 407 = gN t 407 := F.2 407 rfl
  have n406 : gN t1 406 = gN t 406 := s2.2 406 rfl
  have a405 : gA t2 405 = gA t 405 := (F.1 405 rfl).2.2.1
  have b406 : gN t2 406 ≤ 2048 ∧ (if gN t1 406 < c then max c (2 * gN t1 406) else 0) + 2 * gN t1 406 ≤ 2 * gN t2 406 := by
    by_cases z : gN t1 406 < c
    · have := g2.1 z
      rw [if_pos z]
      omega
    · have := g2.2 z
      rw [if_neg z]
      omega
  obtain ⟨t3, m, g, p1, p2, p3, p4, p5, p6⟩ := pick_loop (t := t2) (K := K) (n := n) (c := c) (ss := fun j => b j % 1024) G2 ((F.1 410 rfl).1.trans h410) (by rw [n405]; exact h5) (by omega) g1 (by omega) (by omega) (fun j hj => by
    obtain ⟨l, l1, l2, l3⟩ := dec j hj
    (try dsimp only)
    rw [(f2.1 407 rfl).2.2.1, (s3 j hj).2, l3, l2]) (fun j hj => by
    obtain ⟨l, l1, l2, l3⟩ := dec j hj
    (try dsimp only)
    rw [l3]; exact (k1 l l1).2.1) (fun j hj => by
    obtain ⟨l, l1, l2, l3⟩ := dec j hj
    (try dsimp only)
    rw [l3, a405]
    exact k4 _ (k1 l l1).2.1 (k1 l l1).2.2) (fun j l hjl hl => by
    obtain ⟨j', j1, j2, j3⟩ := dec j (by omega)
    obtain ⟨l', l1, l2, l3⟩ := dec l hl
    have lt := s5 j l hjl hl
    have := (k1 j' j1).2.1
    have := (k1 l' l1).2.1
    (try dsimp only)
    unfold Bfr
    rw [j3, l3]
    omega)
  have FF : fx [406, 407, 408] [406, 9000, 9001] t t3 := (F.wk rfl rfl : fx [406, 407, 408] [406, 9000, 9001] t t2).trans (p2.wk rfl rfl)
  have hset : ∀ x, (∃ j, j < c ∧ b j % 1024 = x) ↔ x < 2 ^ nG tm ∧ ¬ idl tm (kH tm K) x := fun x => by
    constructor
    · rintro ⟨j, j1, rfl⟩
      obtain ⟨l, l1, l2, l3⟩ := dec j j1
      rw [l3]
      exact (k1 l l1).2
    · rintro ⟨x1, x2⟩
      obtain ⟨l, l1, rfl⟩ := k2 x x1 x2
      obtain ⟨j, j1, j2⟩ := s4.2.1 l l1
      refine ⟨j, j1, ?_⟩
      rw [j2]
      (try dsimp only)
      omega
  refine ⟨t3, ?_, FF, ?_, ?_, ?_, m, g, p3, ?_, fun j hj => ⟨p5 j hj, ?_⟩, ?_⟩
  · unfold x4_drawFront_J64 x4_pickFront x4_drawFront_J75
    rw [s1, bs, g0]
    unfold x4_pickFront_J12
    simp only [nm]
    rw [p1, bs, bs]
  · rw [p2.2 406 rfl]; exact b406.1
  · rw [p2.2 9001 rfl, p2.2 406 rfl]
    have := b406.2
    have := s2.2 9001 rfl
    omega
  · rw [p2.2 9000 rfl]
    have : (if gN t1 406 < c then 1 else 0) ≤ 1 := by split <;> omega
    have := s2.2 9000 rfl
    omega
  · rw [p2.2 406 rfl]; omega
  · obtain ⟨q1, q2⟩ := (hset _).mp (p6.1 j hj)
    rw [(p2.1 405 rfl).2.2.1, a405]
    exact k4 _ q1 q2
  · refine p6.up (fun t ht => ((hset t).mp ht).1) (fun t ht => ?_)
    obtain ⟨t', k5, k6⟩ := idl_cov hG K t ht
    exact ⟨t', (hset t').mpr k5, k6⟩
