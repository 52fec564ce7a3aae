/-! The reader: knots that are put behind the others. -/
def RKb (b : Nat) (tx tm : St) : Prop :=
  (gN tx 603 = 330 ∧ gN tx 604 = 330 ∧ gN tx 605 = 330 ∧ gN tx 606 = 330 ∧ gN tx 607 = 330) ∧ (gI tm 7 = jn (nK tm) ∧ nK tm ≤ b ∧ gI tx 609 = gI tm 7) ∧ (gI tm 13 = jn (nP tm) ∧ nP tm ≤ 40 * nK tm ∧ gI tx 610 = gI tm 13 ∧ nP tm ≤ gN tx 608 ∧ 512 ≤ gN tx 608 ∧ gN tx 608 ≤ 40000) ∧ ∀ k, k < nK tm → KOk tx tm k
theorem RKb_RK {tx tm : St} (h : RKb 250 tx tm) : RK tx tm := h
theorem RK_RKb {tx tm : St} (h : RK tx tm) : RKb 250 tx tm := h
theorem RKb.le {b c : Nat} {tx tm : St} (h : RKb b tx tm) (hc : nK tm ≤ c) : RKb c tx tm := ⟨h.1, ⟨h.2.1.1, hc, h.2.1.2.2⟩, h.2.2⟩
theorem RKb.fr {b : Nat} {S T S' T' : List Nat} {tx tm tx' tm' : St} (h : RKb b tx tm) (hx : fx S T tx tx') (hm : fx S' T' tm tm') (h1 : (S.elem 603 || S.elem 604 || S.elem 605 || S.elem 606 || S.elem 607 || S.elem 608 || S.elem 609 || S.elem 610) = false := by rfl) (h2 : (T.elem 603 || T.elem 604 || T.elem 605 || T.elem 606 || T.elem 607 || T.elem 608) = false := by rfl) (h3 : (S'.elem 7 || S'.elem 8 || S'.elem 9 || S'.elem 10 || S'.elem 11 || S'.elem 12 || S'.elem 13 || S'.elem 14 || S'.elem 15) = false := by rfl) : RKb b tx' tm' := by
  simp only [Bool.or_eq_false_iff] at h1 h2 h3
  obtain ⟨⟨⟨⟨⟨⟨⟨a3, a4⟩, a5⟩, a6⟩, a7⟩, a8⟩, a9⟩, a10⟩ := h1
  obtain ⟨⟨⟨⟨⟨b3, b4⟩, b5⟩, b6⟩, b7⟩, b8⟩ := h2
  obtain ⟨⟨⟨⟨⟨⟨⟨⟨c7, c8⟩, c9⟩, c10⟩, c11⟩, c12⟩, c13⟩, c14⟩, c15⟩ := h3
  unfold RKb KOk nK nP kS kD kT kN kP kH kF at *
  rw [hx.2 603 b3, hx.2 604 b4, hx.2 605 b5, hx.2 606 b6, hx.2 607 b7, hx.2 608 b8, (hx.1 603 a3).2.2.1, (hx.1 604 a4).2.2.1, (hx.1 605 a5).2.2.1, (hx.1 606 a6).2.2.1, (hx.1 607 a7).2.2.1, (hx.1 608 a8).2.2.1, (hx.1 609 a9).1, (hx.1 610 a10).1, (hm.1 7 c7).1, (hm.1 13 c13).1, (hm.1 8 c8).2.2.1, (hm.1 9 c9).2.2.1, (hm.1 10 c10).2.2.1, (hm.1 11 c11).2.2.1, (hm.1 12 c12).2.2.1, (hm.1 14 c14).2.2.1, (hm.1 15 c15).2.2.1]
  exact h
/-- knots below K, parts below P are as they were -/
def AgM (K P : Nat) (t t' : St) : Prop := (∀ j, j < K → gA t' 8 j = gA t 8 j ∧ gA t' 9 j = gA t 9 j ∧ gA t' 10 j = gA t 10 j ∧ gA t' 11 j = gA t 11 j ∧ gA t' 12 j = gA t 12 j ∧ gA t' 15 j = gA t 15 j) ∧ ∀ j, j < P → gA t' 14 j = gA t 14 j
def AgX (K P : Nat) (t t' : St) : Prop := (∀ j, j < K → gA t' 603 j = gA t 603 j ∧ gA t' 604 j = gA t 604 j ∧ gA t' 605 j = gA t 605 j ∧ gA t' 606 j = gA t 606 j ∧ gA t' 607 j = gA t 607 j) ∧ ∀ j, j < P → gA t' 608 j = gA t 608 j
theorem AgM.rfl {K P : Nat} {t : St} : AgM K P t t := ⟨fun _ _ => ⟨Eq.refl _, Eq.refl _, Eq.refl _, Eq.refl _, Eq.refl _, Eq.refl _⟩, fun _ _ => Eq.refl _⟩
theorem AgX.rfl {K P : Nat} {t : St} : AgX K P t t := ⟨fun _ _ => ⟨Eq.refl _, Eq.refl _, Eq.refl _, Eq.refl _, Eq.refl _⟩, fun _ _ => Eq.refl _⟩
theorem AgM.trans {K P K' P' : Nat} {a b c : St} (h : AgM K P a b) (g : AgM K' P' b c) (hk : K ≤ K') (hp : P ≤ P') : AgM K P a c := by
  refine ⟨fun j hj => ?_, fun j hj => (g.2 j (by omega)).trans (h.2 j hj)⟩
  obtain ⟨e8, e9, e10, e11, e12, e15⟩ := g.1 j (by omega)
  rw [e8, e9, e10, e11, e12, e15]
  exact h.1 j hj
theorem AgX.trans {K P K' P' : Nat} {a b c : St} (h : AgX K P a b) (g : AgX K' P' b c) (hk : K ≤ K') (hp : P ≤ P') : AgX K P a c := by
  refine ⟨fun j hj => ?_, fun j hj => (g.2 j (by omega)).trans (h.2 j hj)⟩
  obtain ⟨e3, e4, e5, e6, e7⟩ := g.1 j (by omega)
  rw [e3, e4, e5, e6, e7]
  exact h.1 j hj
theorem AgM.of {S T : List Nat} {K P : Nat} {t t' : St} (h : fx S T t t') (h3 : (S.elem 8 || S.elem 9 || S.elem 10 || S.elem 11 || S.elem 12 || S.elem 14 || S.elem 15) = false := by rfl) : AgM K P t t' := by
  simp only [Bool.or_eq_false_iff] at h3
  obtain ⟨⟨⟨⟨⟨⟨c8, c9⟩, c10⟩, c11⟩, c12⟩, c14⟩, c15⟩ := h3
  unfold AgM
  rw [(h.1 8 c8).2.2.1, (h.1 9 c9).2.2.1, (h.1 10 c10).2.2.1, (h.1 11 c11).2.2.1, (h.1 12 c12).2.2.1, (h.1 14 c14).2.2.1, (h.1 15 c15).2.2.1]
  exact AgM.rfl (t := t)
theorem AgX.of {S T : List Nat} {K P : Nat} {t t' : St} (h : fx S T t t') (h3 : (S.elem 603 || S.elem 604 || S.elem 605 || S.elem 606 || S.elem 607 || S.elem 608) = false := by rfl) : AgX K P t t' := by
  simp only [Bool.or_eq_false_iff] at h3
  obtain ⟨⟨⟨⟨⟨c3, c4⟩, c5⟩, c6⟩, c7⟩, c8⟩ := h3
  unfold AgX
  rw [(h.1 603 c3).2.2.1, (h.1 604 c4).2.2.1, (h.1 605 c5).2.2.1, (h.1 606 c6).2.2.1, (h.1 607 c7).2.2.1, (h.1 608 c8).2.2.1]
  exact AgX.rfl (t := t)
theorem KOk.to {tx tm tx' tm' : St} {k K P : Nat} (h : KOk tx tm k) (hk : k < K) (hP : nP tm ≤ P) (hP' : nP tm ≤ nP tm') (am : AgM K P tm tm') (ax : AgX K P tx tx') : KOk tx' tm' k := by
  obtain ⟨s1, s2, s3, d1, d2, d3, h1, h2, h3, m1, m2, q1, q2⟩ := h
  obtain ⟨e8, e9, e10, e11, e12, e15⟩ := am.1 k hk
  obtain ⟨f3, f4, f5, f6, f7⟩ := ax.1 k hk
  have eS : kS tm' k = kS tm k := by unfold kS; rw [e8]
  have eD : kD tm' k = kD tm k := by unfold kD; rw [e9]
  have eT : kT tm' k = kT tm k := by unfold kT; rw [e10]
  have eF : kF tm' k = kF tm k := by unfold kF; rw [e11]
  have eN : kN tm' k = kN tm k := by unfold kN; rw [e12]
  have eH : kH tm' k = kH tm k := by unfold kH; rw [e15]
  unfold KOk
  rw [eS, eD, eT, eF, eN, eH, e8, e9, e10, e11, e12, e15, f3, f4, f5, f6, f7]
  refine ⟨s1, s2, s3, d1, d2, d3, h1, h2, h3, m1, m2, q1, ?_⟩
  intro q
  obtain ⟨a1, a2, a3, a4, a5, a6, a7, a8, a9⟩ := q2 q
  have e14 : ∀ i, i < kN tm k → gA tm' 14 (kF tm k + i) = gA tm 14 (kF tm k + i) := fun i hi => am.2 _ (by omega)
  have eP : ∀ i, i < kN tm k → kP tm' k i = kP tm k i := fun i hi => by unfold kP; rw [eF, e14 i hi]
  refine ⟨a1, a2, a3, a4, by omega, a6, a7, ?_, ?_⟩
  · intro i hi
    rw [e14 i hi, eP i hi, ax.2 _ (by omega)]
    exact a8 i hi
  · rw [a9]
    apply orr_cong
    intro i hi
    rw [eP i hi]
    unfold kH
    rw [(am.1 _ (by have := (a8 i hi).2.2; omega)).2.2.2.2.2]
theorem g_sAr {t : St} {k j : Nat} {f : Nat → Int32} : gI (sAr t k f) j = gI t j := rfl
theorem n_sAr {t : St} {k j : Nat} {f : Nat → Int32} : gN (sAr t k f) j = gN t j := rfl
theorem newKnot_eq {t : St} {K : Nat} (h7 : gI t 7 = jn K) (hK : K < 400) (a1 : Int32) : ∃ t1, m_newKnot t a1 = some (jn K, t1) ∧ gI t1 7 = jn (K + 1) ∧ gA t1 8 = upd (gA t 8) K a1 ∧ gA t1 9 = upd (gA t 9) K 0 ∧ gA t1 10 = upd (gA t 10) K (-1) ∧ gA t1 11 = upd (gA t 11) K (gI t 13) ∧ gA t1 12 = upd (gA t 12) K 0 ∧ gA t1 15 = upd (gA t 15) K 0 := by
  have g4 : ∀ {α : Type} (x : Option α), gd (jn K) 400 x = x := fun x => gd_jn hK (by omega)
  have ck : (jn K).toNatClampNeg = K := jn_cl (by omega)
  unfold m_newKnot
  simp only [nm, h7, g4]
  refine ⟨_, rfl, ?_, ?_, ?_, ?_, ?_, ?_, ?_⟩
  · show gI t 7 + 1 = _
    rw [h7, jn_s]
  · show upd (gA t 8) (jn K).toNatClampNeg a1 = _
    rw [ck]
  · show upd (gA t 9) (jn K).toNatClampNeg 0 = _
    rw [ck]
  · show upd (gA t 10) (jn K).toNatClampNeg (-1) = _
    rw [ck]
  · show upd (gA t 11) (jn K).toNatClampNeg (gI t 13) = _
    rw [ck]
  · show upd (gA t 12) (jn K).toNatClampNeg 0 = _
    rw [ck]
  · show upd (gA t 15) (jn K).toNatClampNeg 0 = _
    rw [ck]
theorem addKnot_eq {t : St} {K : Nat} (h9 : gI t 609 = jn K) (hK : K < 330) (hz : gN t 603 = 330 ∧ gN t 604 = 330 ∧ gN t 605 = 330 ∧ gN t 606 = 330 ∧ gN t 607 = 330) (a1 a2 a3 a4 : Int32) : ∃ t1, x6_addKnot t a1 a2 a3 a4 = some (jn K, t1) ∧ gI t1 609 = jn (K + 1) ∧ gA t1 603 = upd (gA t 603) K a1 ∧ gA t1 604 = upd (gA t 604) K a2 ∧ gA t1 605 = upd (gA t 605) K a3 ∧ gA t1 606 = upd (gA t 606) K (gI t 610) ∧ gA t1 607 = upd (gA t 607) K a4 := by
  obtain ⟨z3, z4, z5, z6, z7⟩ := hz
  have g3 : ∀ {α : Type} (x : Option α), gd (jn K) 330 x = x := fun x => gd_jn hK (by omega)
  have ck : (jn K).toNatClampNeg = K := jn_cl (by omega)
  unfold x6_addKnot
  rw [h9, if_pos (show jn K < 330 from (jn_lt (b := 330) (by omega) (by omega)).mpr hK)]
  simp only [nm, g_sAr, n_sAr, h9, z3, z4, z5, z6, z7, g3]
  have e1 : jn K + 1 - 1 = jn K := by rw [jn_s, show jn (K + 1) - 1 = jn K from jn_sub (a := K + 1) (b := 1) (by omega)]
  refine ⟨_, congrArg some (Prod.ext e1 rfl), jn_s K, ?_, ?_, ?_, ?_, ?_⟩
  · show upd (gA t 603) (jn K).toNatClampNeg a1 = _
    rw [ck]
  · show upd (gA t 604) (jn K).toNatClampNeg a2 = _
    rw [ck]
  · show upd (gA t 605) (jn K).toNatClampNeg a3 = _
    rw [ck]
  · show upd (gA t 606) (jn K).toNatClampNeg (gI t 610) = _
    rw [ck]
  · show upd (gA t 607) (jn K).toNatClampNeg a4 = _
    rw [ck]
theorem comes_eq {t : St} {P K p : Nat} (h13 : gI t 13 = jn P) (hP : P < 20000) (hK : K < 400) (hp : p < 400) : ∃ t1, m_comes t (jn K) (jn p) = some t1 ∧ gI t1 13 = jn (P + 1) ∧ gA t1 14 = upd (gA t 14) P (jn p) ∧ gA t1 12 = upd (gA t 12) K (gA t 12 K + 1) ∧ gA t1 15 = upd (gA t 15) K (gA t 15 K ||| gA t 15 p) := by
  have gK : ∀ {α : Type} (x : Option α), gd (jn K) 400 x = x := fun x => gd_jn hK (by omega)
  have gp : ∀ {α : Type} (x : Option α), gd (jn p) 400 x = x := fun x => gd_jn hp (by omega)
  have cK : (jn K).toNatClampNeg = K := jn_cl (by omega)
  have cp : (jn p).toNatClampNeg = p := jn_cl (by omega)
  have cP : (jn P).toNatClampNeg = P := jn_cl (by omega)
  unfold m_comes
  rw [h13, gd_jn hP (by omega)]
  simp only [nm, gK, gp, g_sAr, h13]
  refine ⟨_, rfl, ?_, ?_, ?_, ?_⟩
  · exact jn_s P
  · show upd (gA t 14) (jn P).toNatClampNeg (jn p) = _
    rw [cP]
  · show upd (gA t 12) (jn K).toNatClampNeg (gA t 12 (jn K).toNatClampNeg + 1) = _
    rw [cK]
  · show upd (gA t 15) (jn K).toNatClampNeg (gA t 15 (jn K).toNatClampNeg ||| gA t 15 (jn p).toNatClampNeg) = _
    rw [cK, cp]
theorem comes_loop {t : St} {P K x n : Nat} (e h : Nat → Nat) (h13 : gI t 13 = jn P) (hP : P + n ≤ 20000) (hK : K < 400) (hx : x < 36) (hn : n ≤ 50) (hc : gA t 20 x = jn n) (he : ∀ i, i < n → gA t 21 (50 * x + i) = jn (e i) ∧ e i < K ∧ gA t 15 (e i) = jn (h i)) (h12 : gA t 12 K = 0) (h15 : gA t 15 K = 0) : ∃ t', lp (fun y : Int32 × St => m_ends_B40 (jn x) (jn K) y.1 y.2) (0, t) = some t' ∧ fx [12, 13, 14, 15] [] t t' ∧ gI t' 13 = jn (P + n) ∧ (∀ j, gA t' 12 j = if j = K then jn n else gA t 12 j) ∧ (∀ j, gA t' 15 j = if j = K then jn (orr h n) else gA t 15 j) ∧ (∀ i, i < n → gA t' 14 (P + i) = jn (e i)) ∧ ∀ j, j < P → gA t' 14 j = gA t 14 j := by
  have k := lp_cnt (b := fun y : Int32 × St => m_ends_B40 (jn x) (jn K) y.1 y.2) (fun i s => (jn i, s)) n
    (fun m s => fx [12, 13, 14, 15] [] t s ∧ gI s 13 = jn (P + m) ∧ (∀ j, gA s 12 j = if j = K then jn m else gA t 12 j) ∧ (∀ j, gA s 15 j = if j = K then jn (orr h m) else gA t 15 j) ∧ (∀ i, i < m → gA s 14 (P + i) = jn (e i)) ∧ ∀ j, j < P → gA s 14 j = gA t 14 j)
    (fun s => fx [12, 13, 14, 15] [] t s ∧ gI s 13 = jn (P + n) ∧ (∀ j, gA s 12 j = if j = K then jn n else gA t 12 j) ∧ (∀ j, gA s 15 j = if j = K then jn (orr h n) else gA t 15 j) ∧ (∀ i, i < n → gA s 14 (P + i) = jn (e i)) ∧ ∀ j, j < P → gA s 14 j = gA t 14 j) (by
      rintro i s hi ⟨hf, v1, v2, v3, v4, v5⟩
      obtain ⟨w1, w2, w3⟩ := he i hi
      obtain ⟨t1, k1, k2, k3, k4, k5⟩ := comes_eq (t := s) (P := P + i) (K := K) (p := e i) v1 (by omega) hK (by omega)
      have f1 : fx [12, 13, 14, 15] [] s t1 := fr_m_comes s _ _ _ k1
      refine ⟨t1, ?_, hf.trans f1, by rw [k2, Nat.add_assoc], ?_, ?_, ?_, ?_⟩
      · dsimp only
        unfold m_ends_B40
        rw [gd_jn hx (by omega), jn_cl (by omega), (hf.1 20 rfl).2.2.1, hc, if_neg (nle hi (by omega)), show (50 : Int32) = jn 50 from rfl, jn_mul, jn_add, gd_jn (by omega) (by omega), jn_cl (by omega), (hf.1 21 rfl).2.2.1, w1, k1]
        simp only [bs, nm, jn_s]
      · intro j
        rw [k4]
        by_cases q : j = K
        · subst q
          rw [upd_at, v2, if_pos rfl, if_pos rfl, jn_s]
        · rw [upd_ne q, v2, if_neg q, if_neg q]
      · intro j
        rw [k5]
        by_cases q : j = K
        · subst q
          rw [upd_at, v3, v3, if_pos rfl, if_pos rfl, if_neg (by omega), w3, jn_or]
          rfl
        · rw [upd_ne q, v3, if_neg q, if_neg q]
      · intro j hj
        rw [k3]
        by_cases q : j = i
        · subst q
          rw [upd_at]
        · rw [upd_ne (by omega)]
          exact v4 j (by omega)
      · intro j hj
        rw [k3, upd_ne (by omega)]
        exact v5 j hj) (by
      rintro s ⟨hf, hs⟩
      refine ⟨s, ?_, hf, hs⟩
      dsimp only
      unfold m_ends_B40
      rw [gd_jn hx (by omega), jn_cl (by omega), (hf.1 20 rfl).2.2.1, hc, if_pos (lee (by omega))]) 0 t (by omega) ⟨fx.rfl, h13, (fun j => by
        by_cases q : j = K
        · subst q; rw [if_pos rfl, h12]; rfl
        · rw [if_neg q]), (fun j => by
        by_cases q : j = K
        · subst q; rw [if_pos rfl, h15]; rfl
        · rw [if_neg q]), (fun i hi => absurd hi (by omega)), fun j _ => rfl⟩
  exact k
theorem addRow_loop {t : St} {P K st n : Nat} (v1 v2 : Int32) (e h : Nat → Nat) (h10 : gI t 610 = jn P) (hP : P + n ≤ gN t 608) (hl : gN t 608 ≤ 40000) (h701 : gN t 701 = 330) (h607 : gN t 607 = 330) (hst : st + n ≤ 330) (hK : K ≤ 330) (he : ∀ i, i < n → gA t 701 (st + i) = jn (e i) ∧ e i < K ∧ gA t 607 (e i) = jn (h i)) : ∃ t', lp (fun y : Int32 × Int32 × St => x6_addRow_701_B49 v1 v2 (jn st) (jn n) y.1 y.2.1 y.2.2) (0, 0, t) = some (jn (orr h n), t') ∧ fx [608] [] t t' ∧ (∀ i, i < n → gA t' 608 (P + i) = jn (e i)) ∧ ∀ j, j < P → gA t' 608 j = gA t 608 j := by
  have k := lp_cnt (b := fun y : Int32 × Int32 × St => x6_addRow_701_B49 v1 v2 (jn st) (jn n) y.1 y.2.1 y.2.2) (fun i s => (jn (orr h i), jn i, s)) n
    (fun m s => fx [608] [] t s ∧ (∀ i, i < m → gA s 608 (P + i) = jn (e i)) ∧ ∀ j, j < P → gA s 608 j = gA t 608 j)
    (fun y => y.1 = jn (orr h n) ∧ fx [608] [] t y.2 ∧ (∀ i, i < n → gA y.2 608 (P + i) = jn (e i)) ∧ ∀ j, j < P → gA y.2 608 j = gA t 608 j) (by
      rintro i s hi ⟨hf, v4, v5⟩
      obtain ⟨w1, w2, w3⟩ := he i hi
      refine ⟨sA s 608 (jn (P + i)) (jn (e i)), ?_, hf.trans (fx_sA rfl), ?_, ?_⟩
      · dsimp only
        unfold x6_addRow_701_B49
        rw [if_neg (nle hi (by omega)), jn_add, hf.2 701 rfl, h701, gd_jn (by omega) (by omega), jn_cl (by omega), (hf.1 701 rfl).2.2.1, w1, (hf.1 610 rfl).1, h10, jn_add, hf.2 608 rfl]
        simp only [nm, n_sAr]
        rw [gd_jn (by omega) (by omega)]
        rw [hf.2 607 rfl, h607, gd_jn (by omega) (by omega), jn_cl (by omega)]
        rw [show gA (sA s 608 (jn (P + i)) (jn (e i))) 607 = gA t 607 from (hf.1 607 rfl).2.2.1, w3, jn_or, jn_s]
        rfl
      · intro j hj
        rw [gA_sA, jn_cl (by omega)]
        by_cases q : j = i
        · subst q
          rw [upd_at]
        · rw [upd_ne (by omega)]
          exact v4 j (by omega)
      · intro j hj
        rw [gA_sA, jn_cl (by omega), upd_ne (by omega)]
        exact v5 j hj) (by
      rintro s ⟨hf, hs⟩
      refine ⟨(jn (orr h n), s), ?_, rfl, hf, hs⟩
      dsimp only
      unfold x6_addRow_701_B49
      rw [if_pos (lee (by omega))]) 0 t (by omega) ⟨fx.rfl, (fun i hi => absurd hi (by omega)), fun j _ => rfl⟩
  obtain ⟨⟨y1, y2⟩, k0, k1, k2⟩ := k
  dsimp only at k1 k2
  subst k1
  exact ⟨y2, k0, k2⟩
/-- the parts' row, if need be a longer one -/
theorem addRow_eq {t : St} {P K st n : Nat} (a1 a2 : Int32) (e h : Nat → Nat) (h9 : gI t 609 = jn K) (hK : K < 330) (hz : gN t 603 = 330 ∧ gN t 604 = 330 ∧ gN t 605 = 330 ∧ gN t 606 = 330 ∧ gN t 607 = 330) (h10 : gI t 610 = jn P) (hP : P ≤ gN t 608) (hP2 : P + n ≤ 20000) (hl : gN t 608 ≤ 40000) (hl2 : 512 ≤ gN t 608) (h701 : gN t 701 = 330) (hst : st + n ≤ 330) (he : ∀ i, i < n → gA t 701 (st + i) = jn (e i) ∧ e i < K ∧ gA t 607 (e i) = jn (h i)) : ∃ t', x6_addRow_701 t a1 a2 (jn st) (jn n) = some (jn K, t') ∧ gI t' 609 = jn (K + 1) ∧ gI t' 610 = jn (P + n) ∧ gA t' 603 = upd (gA t 603) K a1 ∧ gA t' 604 = upd (gA t 604) K (jn n) ∧ gA t' 605 = upd (gA t 605) K a2 ∧ gA t' 606 = upd (gA t 606) K (jn P) ∧ gA t' 607 = upd (gA t 607) K (jn (orr h n)) ∧ (∀ i, i < n → gA t' 608 (P + i) = jn (e i)) ∧ (∀ j, j < P → gA t' 608 j = gA t 608 j) ∧ P + n ≤ gN t' 608 ∧ 512 ≤ gN t' 608 ∧ gN t' 608 ≤ 40000 ∧ gN t' 9001 + 2 * gN t 608 ≤ gN t 9001 + 2 * gN t' 608 ∧ gN t' 9000 + gN t 608 ≤ gN t 9000 + gN t' 608 := by
  have J : ∀ s : St, fx [608] [608, 9000, 9001] t s → P + n ≤ gN s 608 → 512 ≤ gN s 608 → gN s 608 ≤ 40000 → (∀ j, j < P → gA s 608 j = gA t 608 j) → gN s 9001 + 2 * gN t 608 ≤ gN t 9001 + 2 * gN s 608 → gN s 9000 + gN t 608 ≤ gN t 9000 + gN s 608 → ∃ t', x6_addRow_701_J43 s a1 a2 (jn st) (jn n) = some (jn K, t') ∧ gI t' 609 = jn (K + 1) ∧ gI t' 610 = jn (P + n) ∧ gA t' 603 = upd (gA t 603) K a1 ∧ gA t' 604 = upd (gA t 604) K (jn n) ∧ gA t' 605 = upd (gA t 605) K a2 ∧ gA t' 606 = upd (gA t 606) K (jn P) ∧ gA t' 607 = upd (gA t 607) K (jn (orr h n)) ∧ (∀ i, i < n → gA t' 608 (P + i) = jn (e i)) ∧ (∀ j, j < P → gA t' 608 j = gA t 608 j) ∧ P + n ≤ gN t' 608 ∧ 512 ≤ gN t' 608 ∧ gN t' 608 ≤ 40000 ∧ gN t' 9001 + 2 * gN t 608 ≤ gN t 9001 + 2 * gN t' 608 ∧ gN t' 9000 + gN t 608 ≤ gN t 9000 + gN t' 608 := by
    intro s hf b1 b2 b3 b4 b5 b6
    obtain ⟨s1, k1, f1, v1, v2⟩ := addRow_loop (t := s) (P := P) (K := K) (st := st) (n := n) a1 a2 e h ((hf.1 610 rfl).1.trans h10) b1 b3 ((hf.2 701 rfl).trans h701) ((hf.2 607 rfl).trans hz.2.2.2.2) hst (by omega) (fun i hi => by
      rw [(hf.1 701 rfl).2.2.1, (hf.1 607 rfl).2.2.1]
      exact he i hi)
    have f2 : fx [608] [608, 9000, 9001] t s1 := hf.trans (f1.wk rfl rfl)
    obtain ⟨s2, k2, w1, w2, w3, w4, w5, w6⟩ := addKnot_eq (t := s1) (K := K) ((f2.1 609 rfl).1.trans h9) hK ⟨(f2.2 603 rfl).trans hz.1, (f2.2 604 rfl).trans hz.2.1, (f2.2 605 rfl).trans hz.2.2.1, (f2.2 606 rfl).trans hz.2.2.2.1, (f2.2 607 rfl).trans hz.2.2.2.2⟩ a1 (jn n) a2 (jn (orr h n))
    have f3 : fx [603, 604, 605, 606, 607, 609] [] s1 s2 := fr_x6_addKnot s1 _ _ _ _ _ k2
    have e610 : gI s2 610 = jn P := (f3.1 610 rfl).1.trans ((f2.1 610 rfl).1.trans h10)
    refine ⟨sI s2 610 (jn (P + n)), ?_, ?_, ?_, ?_, ?_, ?_, ?_, ?_, ?_, ?_, ?_, ?_, ?_, ?_, ?_⟩
    · unfold x6_addRow_701_J43
      rw [k1, bs, k2, bs]
      simp only [nm]
      rw [e610, jn_add]
    · exact w1
    · rfl
    · exact w2.trans (by rw [(f2.1 603 rfl).2.2.1])
    · exact w3.trans (by rw [(f2.1 604 rfl).2.2.1])
    · exact w4.trans (by rw [(f2.1 605 rfl).2.2.1])
    · exact w5.trans (by rw [(f2.1 606 rfl).2.2.1, (f2.1 610 rfl).1, h10])
    · exact w6.trans (by rw [(f2.1 607 rfl).2.2.1])
    · intro i hi
      exact (congrFun (f3.1 608 rfl).2.2.1 _).trans (v1 i hi)
    · intro j hj
      exact (congrFun (f3.1 608 rfl).2.2.1 _).trans ((v2 j hj).trans (b4 j hj))
    · show P + n ≤ gN s2 608
      rw [f3.2 608 rfl, f1.2 608 rfl]; exact b1
    · show 512 ≤ gN s2 608
      rw [f3.2 608 rfl, f1.2 608 rfl]; exact b2
    · show gN s2 608 ≤ 40000
      rw [f3.2 608 rfl, f1.2 608 rfl]; exact b3
    · show gN s2 9001 + _ ≤ _ + 2 * gN s2 608
      rw [f3.2 608 rfl, f1.2 608 rfl, f3.2 9001 rfl, f1.2 9001 rfl]; exact b5
    · show gN s2 9000 + _ ≤ _ + gN s2 608
      rw [f3.2 608 rfl, f1.2 608 rfl, f3.2 9000 rfl, f1.2 9000 rfl]; exact b6
  unfold x6_addRow_701
  rw [h10, jn_add]
  by_cases q : P + n ≤ gN t 608
  · rw [if_pos ((jn_le (by omega) (by omega)).mpr q)]
    exact J t fx.rfl q hl2 hl (fun j _ => rfl) (Nat.le_refl _) (Nat.le_refl _)
  · rw [if_neg (fun e => q ((jn_le (by omega) (by omega)).mp e)), show (2 : Int32) = jn 2 from rfl, show Int32.ofNat (gN t 608) = jn (gN t 608) from rfl, jn_mul]
    have big : ∀ N, gN t 608 < N → P + n ≤ N → 2 * gN t 608 ≤ N → N ≤ 40000 → ∃ t', cpy t 608 (jn N) (fun t16 : St => x6_addRow_701_J43 t16 a1 a2 (jn st) (jn n)) = some (jn K, t') ∧ gI t' 609 = jn (K + 1) ∧ gI t' 610 = jn (P + n) ∧ gA t' 603 = upd (gA t 603) K a1 ∧ gA t' 604 = upd (gA t 604) K (jn n) ∧ gA t' 605 = upd (gA t 605) K a2 ∧ gA t' 606 = upd (gA t 606) K (jn P) ∧ gA t' 607 = upd (gA t 607) K (jn (orr h n)) ∧ (∀ i, i < n → gA t' 608 (P + i) = jn (e i)) ∧ (∀ j, j < P → gA t' 608 j = gA t 608 j) ∧ P + n ≤ gN t' 608 ∧ 512 ≤ gN t' 608 ∧ gN t' 608 ≤ 40000 ∧ gN t' 9001 + 2 * gN t 608 ≤ gN t 9001 + 2 * gN t' 608 ∧ gN t' 9000 + gN t 608 ≤ gN t 9000 + gN t' 608 := by
      intro N n1 n2 n3 n4
      rw [cpy_eq rfl n1 (by omega)]
      refine J _ ⟨fun j hj => ⟨rfl, rfl, ?_, rfl⟩, fun j hj => ?_⟩ ?_ ?_ ?_ ?_ ?_ ?_
      · exact va_up_no (S := [608]) rfl hj
      · show va_up (va_up (va_up t.2.2.2.2 608 N) 9000 (gN t 9000 + 1)) 9001 (gN t 9001 + N) j = _
        rw [va_up_no (S := [608, 9000, 9001]) rfl hj, va_up_no (S := [608, 9000, 9001]) rfl hj, va_up_no (S := [608, 9000, 9001]) rfl hj]
      · exact n2
      · show 512 ≤ N
        omega
      · exact n4
      · intro j hj
        show va_cpy (gA t 608) (fun _ => 0) 0 0 (gN t 608) j = _
        unfold va_cpy
        rw [if_pos (by omega)]
        simp
      · show gN t 9001 + N + 2 * gN t 608 ≤ gN t 9001 + 2 * N
        omega
      · show gN t 9000 + 1 + gN t 608 ≤ gN t 9000 + N
        omega
    by_cases q2 : 2 * gN t 608 < P + n
    · rw [if_pos ((jn_lt (by omega) (by omega)).mpr q2)]
      exact big _ (by omega) (by omega) (by omega) (by omega)
    · rw [if_neg (fun e => q2 ((jn_lt (by omega) (by omega)).mp e))]
      exact big _ (by omega) (by omega) (by omega) (by omega)
theorem nK_of {t : St} {K : Nat} (h : gI t 7 = jn K) (hK : K < 2147483648) : nK t = K := by unfold nK; rw [h]; exact jn_cl hK
theorem nP_of {t : St} {P : Nat} (h : gI t 13 = jn P) (hP : P < 2147483648) : nP t = P := by unfold nP; rw [h]; exact jn_cl hP
/-- a letter's knot -/
theorem letter_ok {b : Nat} {tx tm : St} (h : RKb b tx tm) (hb : b ≤ 330) {q : Nat} (hq : q < 16) (hK : nK tm < 330) : ∃ tx' t1, x6_addLetter tx (jn q) = some (jn (nK tm), tx') ∧ m_newKnot tm 0 = some (jn (nK tm), t1) ∧ ∀ t2, t2 = sA (sA t1 10 (jn (nK tm)) (jn q)) 15 (jn (nK tm)) ((1 : Int32) <<< (jn q &&& 31)) → RKb (nK tm + 1) tx' t2 ∧ nK t2 = nK tm + 1 ∧ nP t2 = nP tm ∧ AgM (nK tm) (nP tm) tm t2 ∧ AgX (nK tm) (nP tm) tx tx' := by
  obtain ⟨hz, ⟨n1, n2, n3⟩, ⟨p1, p2, p3, p4, p5, p6⟩, hall⟩ := h
  obtain ⟨tx', k1, x1, x3, x4, x5, x6, x7⟩ := addKnot_eq (t := tx) (K := nK tm) (n3.trans n1) hK hz 0 (jn q) 0 ((1 : Int32) <<< (jn q &&& 31))
  have fX : fx [603, 604, 605, 606, 607, 609] [] tx tx' := fr_x6_addKnot tx _ _ _ _ _ k1
  obtain ⟨t1, k2, m7, m8, m9, m10, m11, m12, m15⟩ := newKnot_eq (t := tm) (K := nK tm) n1 (by omega) 0
  have fM : fx [7, 8, 9, 10, 11, 12, 15] [] tm t1 := fr_m_newKnot tm _ _ k2
  refine ⟨tx', t1, ?_, k2, ?_⟩
  · unfold x6_addLetter
    rw [k1, bs]
  rintro t2 rfl
  have ck : (jn (nK tm)).toNatClampNeg = nK tm := jn_cl (by omega)
  have w10 : gA (sA (sA t1 10 (jn (nK tm)) (jn q)) 15 (jn (nK tm)) ((1 : Int32) <<< (jn q &&& 31))) 10 = upd (gA tm 10) (nK tm) (jn q) := by
    show upd (gA t1 10) (jn (nK tm)).toNatClampNeg (jn q) = _
    rw [ck, m10]
    funext j
    by_cases e : j = nK tm
    · subst e; rw [upd_at, upd_at]
    · rw [upd_ne e, upd_ne e, upd_ne e]
  have w15 : gA (sA (sA t1 10 (jn (nK tm)) (jn q)) 15 (jn (nK tm)) ((1 : Int32) <<< (jn q &&& 31))) 15 = upd (gA tm 15) (nK tm) (jn (2 ^ q)) := by
    show upd (gA t1 15) (jn (nK tm)).toNatClampNeg _ = _
    rw [ck, m15, jn_shl1 q (by omega)]
    funext j
    by_cases e : j = nK tm
    · subst e; rw [upd_at, upd_at]
    · rw [upd_ne e, upd_ne e, upd_ne e]
  generalize ht2 : sA (sA t1 10 (jn (nK tm)) (jn q)) 15 (jn (nK tm)) ((1 : Int32) <<< (jn q &&& 31)) = t2 at w10 w15 ⊢
  have w7 : gI t2 7 = jn (nK tm + 1) := by rw [← ht2]; exact m7
  have w8 : gA t2 8 = upd (gA tm 8) (nK tm) 0 := by rw [← ht2]; exact m8
  have w9 : gA t2 9 = upd (gA tm 9) (nK tm) 0 := by rw [← ht2]; exact m9
  have w11 : gA t2 11 = upd (gA tm 11) (nK tm) (gI tm 13) := by rw [← ht2]; exact m11
  have w12 : gA t2 12 = upd (gA tm 12) (nK tm) 0 := by rw [← ht2]; exact m12
  have w13 : gI t2 13 = gI tm 13 := by rw [← ht2]; exact (fM.1 13 rfl).1
  have w14 : gA t2 14 = gA tm 14 := by rw [← ht2]; exact (fM.1 14 rfl).2.2.1
  have eK : nK t2 = nK tm + 1 := nK_of w7 (by omega)
  have eP : nP t2 = nP tm := by unfold nP; rw [w13]
  have aM : AgM (nK tm) (nP tm) tm t2 := by
    refine ⟨fun j hj => ?_, fun j _ => by rw [w14]⟩
    rw [w8, w9, w10, w11, w12, w15, upd_ne (by omega), upd_ne (by omega), upd_ne (by omega), upd_ne (by omega), upd_ne (by omega), upd_ne (by omega)]
    exact ⟨rfl, rfl, rfl, rfl, rfl, rfl⟩
  have aX : AgX (nK tm) (nP tm) tx tx' := by
    refine ⟨fun j hj => ?_, fun j _ => by rw [(fX.1 608 rfl).2.2.1]⟩
    rw [x3, x4, x5, x6, x7, upd_ne (by omega), upd_ne (by omega), upd_ne (by omega), upd_ne (by omega), upd_ne (by omega)]
    exact ⟨rfl, rfl, rfl, rfl, rfl⟩
  have q2 : 2 ^ q < 65536 := Nat.pow_lt_pow_right (a := 2) (n := 16) (by omega) hq
  refine ⟨⟨⟨(fX.2 603 rfl).trans hz.1, (fX.2 604 rfl).trans hz.2.1, (fX.2 605 rfl).trans hz.2.2.1, (fX.2 606 rfl).trans hz.2.2.2.1, (fX.2 607 rfl).trans hz.2.2.2.2⟩, ⟨by rw [eK]; exact w7, by omega, x1.trans w7.symm⟩, ⟨by rw [eP, w13]; exact p1, by rw [eP, eK]; omega, (fX.1 610 rfl).1.trans (p3.trans w13.symm), by rw [eP, fX.2 608 rfl]; exact p4, by rw [fX.2 608 rfl]; exact p5, by rw [fX.2 608 rfl]; exact p6⟩, ?_⟩, eK, eP, aM, aX⟩
  intro k hk
  rw [eK] at hk
  by_cases e : k < nK tm
  · exact (hall k e).to e (Nat.le_refl _) (by omega) aM aX
  · have : k = nK tm := by omega
    subst this
    have c8 : gA t2 8 (nK tm) = jn 0 := by rw [w8, upd_at]; rfl
    have c9 : gA t2 9 (nK tm) = jn 0 := by rw [w9, upd_at]; rfl
    have c10 : gA t2 10 (nK tm) = jn q := by rw [w10, upd_at]
    have c12 : gA t2 12 (nK tm) = jn 0 := by rw [w12, upd_at]; rfl
    have c15 : gA t2 15 (nK tm) = jn (2 ^ q) := by rw [w15, upd_at]
    have eS : kS t2 (nK tm) = 0 := by unfold kS; rw [c8]; rfl
    have eD : kD t2 (nK tm) = 0 := by unfold kD; rw [c9]; rfl
    have eT : kT t2 (nK tm) = q := by unfold kT; rw [c10, jn_cl (by omega)]
    have eN : kN t2 (nK tm) = 0 := by unfold kN; rw [c12]; rfl
    have eH : kH t2 (nK tm) = 2 ^ q := by unfold kH; rw [c15, jn_cl (by omega)]
    unfold KOk
    rw [eS, eD, eT, eN, eH, c8, c9, c10, c12, c15, x3, x4, x5, x7, upd_at, upd_at, upd_at, upd_at, jn_shl1 q (by omega)]
    exact ⟨rfl, by omega, rfl, rfl, by omega, rfl, rfl, q2, rfl, rfl, by omega, fun _ => ⟨rfl, hq, rfl, rfl, rfl, rfl⟩, fun z => absurd rfl z⟩
/-- a row's knot -/
theorem row_ok {b : Nat} {tx tm : St} (h : RKb b tx tm) {sort need n st x : Nat} (hs : 1 ≤ sort ∧ sort ≤ 4) (hn : n ≤ 40) (h4 : sort = 4 → 1 ≤ need ∧ need ≤ n ∧ n ≤ 8) (h5 : sort ≠ 4 → 2 ≤ n ∧ need = 0) (hK : nK tm < 330) (h701 : gN tx 701 = 330) (hst : st + n ≤ 330) (hx : x < 36) (hc : gA tm 20 x = jn n) (he : ∀ i, i < n → gA tx 701 (st + i) = gA tm 21 (50 * x + i) ∧ ∃ p, p < nK tm ∧ gA tm 21 (50 * x + i) = jn p) : ∃ tx' t1, x6_addRow_701 tx (jn sort) (jn need) (jn st) (jn n) = some (jn (nK tm), tx') ∧ m_newKnot tm (jn sort) = some (jn (nK tm), t1) ∧ gN tx' 9001 + 2 * gN tx 608 ≤ gN tx 9001 + 2 * gN tx' 608 ∧ gN tx' 9000 + gN tx 608 ≤ gN tx 9000 + gN tx' 608 ∧ AgX (nK tm) (nP tm) tx tx' ∧ ∀ T1, fx [9] [] t1 T1 → (∀ j, gA T1 9 j = if j = nK tm then jn need else gA t1 9 j) → ∃ tm', lp (fun y : Int32 × St => m_ends_B40 (jn x) (jn (nK tm)) y.1 y.2) (0, T1) = some tm' ∧ fx [7, 8, 9, 10, 11, 12, 13, 14, 15] [] tm tm' ∧ RKb (nK tm + 1) tx' tm' ∧ nK tm' = nK tm + 1 ∧ nP tm' = nP tm + n ∧ AgM (nK tm) (nP tm) tm tm' := by
  obtain ⟨hz, ⟨n1, n2, n3⟩, ⟨p1, p2, p3, p4, p5, p6⟩, hall⟩ := h
  obtain ⟨e, he'⟩ : ∃ e : Nat → Nat, ∀ i, i < n → e i < nK tm ∧ gA tm 21 (50 * x + i) = jn (e i) := by
    refine ⟨fun i => (gA tm 21 (50 * x + i)).toNatClampNeg, fun i hi => ?_⟩
    obtain ⟨-, p, c1, c2⟩ := he i hi
    dsimp only
    rw [c2, jn_cl (by omega)]
    exact ⟨c1, rfl⟩
  have h15 : ∀ i, i < n → gA tm 15 (e i) = jn (kH tm (e i)) ∧ gA tx 607 (e i) = jn (kH tm (e i)) ∧ kH tm (e i) < 65536 := by
    intro i hi
    obtain ⟨-, -, -, -, -, -, g1, g2, g3, -⟩ := hall (e i) (he' i hi).1
    exact ⟨g1, g3.trans g1, g2⟩
  obtain ⟨tx', k1, x9, x10, x3, x4, x5, x6, x7, x81, x82, y1, y2, y3, y4, y5⟩ := addRow_eq (t := tx) (P := nP tm) (K := nK tm) (st := st) (n := n) (jn sort) (jn need) e (fun i => kH tm (e i)) (n3.trans n1) hK hz (p3.trans p1) p4 (by omega) p6 p5 h701 hst (fun i hi => ⟨(he i hi).1.trans (he' i hi).2, (he' i hi).1, (h15 i hi).2.1⟩)
  have fX := fr_x6_addRow_701 tx _ _ _ _ _ k1
  obtain ⟨t1, k2, m7, m8, m9, m10, m11, m12, m15⟩ := newKnot_eq (t := tm) (K := nK tm) n1 (by omega) (jn sort)
  have fM : fx [7, 8, 9, 10, 11, 12, 15] [] tm t1 := fr_m_newKnot tm _ _ k2
  have aX : AgX (nK tm) (nP tm) tx tx' := by
    refine ⟨fun j hj => ?_, fun j hj => x82 j hj⟩
    rw [x3, x4, x5, x6, x7, upd_ne (by omega), upd_ne (by omega), upd_ne (by omega), upd_ne (by omega), upd_ne (by omega)]
    exact ⟨rfl, rfl, rfl, rfl, rfl⟩
  refine ⟨tx', t1, k1, k2, y4, y5, aX, ?_⟩
  intro T1 fT h9
  have ft : fx [7, 8, 9, 10, 11, 12, 15] [] tm T1 := fM.trans (fT.wk rfl rfl)
  obtain ⟨tm', k3, f3, w13, w12, w15, w14a, w14b⟩ := comes_loop (t := T1) (P := nP tm) (K := nK tm) (x := x) (n := n) e (fun i => kH tm (e i)) ((ft.1 13 rfl).1.trans p1) (by omega) (by omega) hx (by omega) (by rw [(ft.1 20 rfl).2.2.1]; exact hc) (fun i hi => by
    rw [(ft.1 21 rfl).2.2.1, (fT.1 15 rfl).2.2.1, m15, upd_ne (by have := (he' i hi).1; omega)]
    exact ⟨(he' i hi).2, (he' i hi).1, (h15 i hi).1⟩) (by rw [(fT.1 12 rfl).2.2.1, m12, upd_at]) (by rw [(fT.1 15 rfl).2.2.1, m15, upd_at])
  have w7 : gI tm' 7 = jn (nK tm + 1) := (f3.1 7 rfl).1.trans ((fT.1 7 rfl).1.trans m7)
  have w8 : gA tm' 8 = upd (gA tm 8) (nK tm) (jn sort) := (f3.1 8 rfl).2.2.1.trans ((fT.1 8 rfl).2.2.1.trans m8)
  have w9 : ∀ j, gA tm' 9 j = if j = nK tm then jn need else gA tm 9 j := by
    intro j
    rw [(f3.1 9 rfl).2.2.1, h9]
    by_cases q : j = nK tm
    · rw [if_pos q, if_pos q]
    · rw [if_neg q, if_neg q, m9, upd_ne q]
  have w10 : gA tm' 10 = upd (gA tm 10) (nK tm) (-1) := (f3.1 10 rfl).2.2.1.trans ((fT.1 10 rfl).2.2.1.trans m10)
  have w11 : gA tm' 11 = upd (gA tm 11) (nK tm) (gI tm 13) := (f3.1 11 rfl).2.2.1.trans ((fT.1 11 rfl).2.2.1.trans m11)
  have w12' : ∀ j, gA tm' 12 j = if j = nK tm then jn n else gA tm 12 j := by
    intro j
    rw [w12]
    by_cases q : j = nK tm
    · rw [if_pos q, if_pos q]
    · rw [if_neg q, if_neg q, (fT.1 12 rfl).2.2.1, m12, upd_ne q]
  have w15' : ∀ j, gA tm' 15 j = if j = nK tm then jn (orr (fun i => kH tm (e i)) n) else gA tm 15 j := by
    intro j
    rw [w15]
    by_cases q : j = nK tm
    · rw [if_pos q, if_pos q]
    · rw [if_neg q, if_neg q, (fT.1 15 rfl).2.2.1, m15, upd_ne q]
  have eK : nK tm' = nK tm + 1 := nK_of w7 (by omega)
  have eP : nP tm' = nP tm + n := nP_of w13 (by omega)
  have aM : AgM (nK tm) (nP tm) tm tm' := by
    refine ⟨fun j hj => ?_, fun j hj => by rw [w14b j hj, (ft.1 14 rfl).2.2.1]⟩
    rw [w8, w9, w10, w11, w12', w15', upd_ne (by omega), upd_ne (by omega), upd_ne (by omega), if_neg (by omega), if_neg (by omega), if_neg (by omega)]
    exact ⟨rfl, rfl, rfl, rfl, rfl, rfl⟩
  refine ⟨tm', k3, (ft.wk rfl rfl).trans (f3.wk rfl rfl), ⟨⟨(fX.2 603 rfl).trans hz.1, (fX.2 604 rfl).trans hz.2.1, (fX.2 605 rfl).trans hz.2.2.1, (fX.2 606 rfl).trans hz.2.2.2.1, (fX.2 607 rfl).trans hz.2.2.2.2⟩, ⟨by rw [eK]; exact w7, by omega, x9.trans w7.symm⟩, ⟨by rw [eP]; exact w13, by rw [eP, eK]; omega, x10.trans w13.symm, by rw [eP]; exact y1, y2, y3⟩, ?_⟩, eK, eP, aM⟩
  intro k hk
  rw [eK] at hk
  by_cases q : k < nK tm
  · exact (hall k q).to q (Nat.le_refl _) (by omega) aM aX
  · have : k = nK tm := by omega
    subst this
    have hor : orr (fun i => kH tm (e i)) n < 65536 := orr_lt (w := 16) (fun i hi => (h15 i hi).2.2)
    have c8 : gA tm' 8 (nK tm) = jn sort := by rw [w8, upd_at]
    have c9 : gA tm' 9 (nK tm) = jn need := by rw [w9, if_pos rfl]
    have c11 : gA tm' 11 (nK tm) = jn (nP tm) := by rw [w11, upd_at, p1]
    have c12 : gA tm' 12 (nK tm) = jn n := by rw [w12', if_pos rfl]
    have c15 : gA tm' 15 (nK tm) = jn (orr (fun i => kH tm (e i)) n) := by rw [w15', if_pos rfl]
    have eS : kS tm' (nK tm) = sort := by unfold kS; rw [c8, jn_cl (by omega)]
    have hneed : need ≤ 9 := by
      by_cases z : sort = 4
      · have := h4 z; omega
      · have := h5 z; omega
    have eD : kD tm' (nK tm) = need := by unfold kD; rw [c9, jn_cl (by omega)]
    have eF : kF tm' (nK tm) = nP tm := by unfold kF; rw [c11, jn_cl (by omega)]
    have eN : kN tm' (nK tm) = n := by unfold kN; rw [c12, jn_cl (by omega)]
    have eH : kH tm' (nK tm) = orr (fun i => kH tm (e i)) n := by unfold kH; rw [c15, jn_cl (by omega)]; rfl
    have ePi : ∀ i, i < n → kP tm' (nK tm) i = e i := fun i hi => by unfold kP; rw [eF, w14a i hi, jn_cl (by have := (he' i hi).1; omega)]
    unfold KOk
    rw [eS, eD, eF, eN, eH, c8, c9, c11, c12, c15, x3, x4, x5, x6, x7, upd_at, upd_at, upd_at, upd_at, upd_at]
    refine ⟨rfl, hs.2, rfl, rfl, hneed, rfl, rfl, hor, rfl, rfl, hn, fun z => absurd z (by omega), fun _ => ⟨rfl, ?_, rfl, rfl, by omega, fun z => h4 z, fun z => h5 z, ?_, ?_⟩⟩
    · by_cases z : sort = 4
      · have := h4 z; omega
      · have := h5 z; omega
    · intro i hi
      rw [x81 i hi, w14a i hi, ePi i hi]
      exact ⟨rfl, rfl, (he' i hi).1⟩
    · apply orr_cong
      intro i hi
      rw [ePi i hi]
      unfold kH
      rw [w15', if_neg (by have := (he' i hi).1; omega)]
