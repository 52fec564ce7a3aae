/-! Best on the class's side, and the choice. -/
theorem bit_fx {S T : List Nat} {t u : St} (hx : fx S T t u) (q : Int32) (h1 : (S.elem 806 || S.elem 808) = false := by rfl) (h2 : T.elem 808 = false := by rfl) : x8_bit u q = x8_bit t q := by
  simp only [Bool.or_eq_false_iff] at h1
  unfold x8_bit
  rw [(hx.1 806 h1.1).1, (hx.1 808 h1.2).2.2.2, hx.2 808 h2]
/-- the sets' values in the row for the work -/
def Sx (t : St) (n M : Nat) (V : Nat → Nat) : Prop := ∀ x, x < M → Bg (gA t 12) (x * n) n (V x)
theorem rowin {x M n N : Nat} (hx : x < M) (h : M * n ≤ N) : x * n + n ≤ N := by
  have : (x + 1) * n ≤ M * n := Nat.mul_le_mul_right _ hx
  rw [Nat.succ_mul] at this
  omega
theorem row_apart {x y n : Nat} (h : y ≠ x) : y * n + n ≤ x * n ∨ x * n + n ≤ y * n := by
  by_cases c : y < x
  · left
    have : (y + 1) * n ≤ x * n := Nat.mul_le_mul_right _ c
    rw [Nat.succ_mul] at this
    exact this
  · right
    have : (x + 1) * n ≤ y * n := Nat.mul_le_mul_right _ (by omega)
    rw [Nat.succ_mul] at this
    exact this
theorem setsX_fill {t : St} {m n : Nat} {f : Nat → Bool} (h1 : 1 ≤ n) (hm : m ≤ 12) (h6 : gI t 6 = jn n) (h8 : gI t 803 = jn m) (hP : 1000 ^ m < Bp n) (hN : 2 ^ m * n ≤ gN t 12) (hB : gN t 12 ≤ 1000000) (hb : ∀ q, q < 2 ^ m → x8_bit t (jn q) = some (b01 (f q))) : ∃ t', lp (fun x : Int32 × St => x0_workSets_B34 (jn (2 ^ m)) x.1 x.2) ((0 : Int32), t) = some t' ∧ fx [12] [] t t' ∧ Sx t' n (2 ^ m) (fun x => if f x then 1000 ^ m else 0) := by
  have p12 : 2 ^ m ≤ 2 ^ 12 := Nat.pow_le_pow_right (by omega) hm
  have e12 : (2 : Nat) ^ 12 = 4096 := rfl
  have L := lp_cnt (b := fun x : Int32 × St => x0_workSets_B34 (jn (2 ^ m)) x.1 x.2) (fun i s => (jn i, s)) (2 ^ m)
    (fun i s => fx [12] [] t s ∧ Sx s n i (fun x => if f x then 1000 ^ m else 0)) (fun s => fx [12] [] t s ∧ Sx s n (2 ^ m) (fun x => if f x then 1000 ^ m else 0)) (by
      rintro i s hi ⟨w1, w2⟩
      have s12 : gN s 12 = gN t 12 := w1.2 12 rfl
      have ri := rowin hi hN
      have e6 : gI s 6 = jn n := by rw [(w1.1 6 rfl).1]; exact h6
      have e8 : gI s 803 = jn m := by rw [(w1.1 803 rfl).1]; exact h8
      have keep : ∀ s', On 12 (i * n) n s s' → Bg (gA s' 12) (i * n) n (if f i then 1000 ^ m else 0) → fx [12] [] t s' ∧ Sx s' n (i + 1) (fun x => if f x then 1000 ^ m else 0) := fun s' o b => by
        refine ⟨w1.trans o.1, fun x hx => ?_⟩
        by_cases c : x = i
        · subst c; exact b
        · exact (w2 x (by omega)).on o (row_apart c)
      dsimp only
      unfold x0_workSets_B34
      rw [if_neg (nle hi (by omega)), bit_fx w1, hb i hi, bs, e6, e8, jn_mul]
      cases hf : f i with
      | true =>
        obtain ⟨s', a1, a2, a3⟩ := putPower12_eq (t := s) (a := i * n) (n := n) (m := m) h1 (by rw [s12]; exact ri) (by rw [s12]; exact hB) (by omega) hP
        rw [if_pos (show b01 true = 1 from rfl), a1, bs]
        simp only [nm, jn_s]
        exact ⟨s', rfl, keep s' a2 (by rw [hf, if_pos rfl]; exact a3)⟩
      | false =>
        obtain ⟨s', a1, a2, a3⟩ := wipe12_eq (t := s) (a := i * n) (n := n) (by rw [s12]; exact ri) (by rw [s12]; exact hB)
        rw [if_neg (show ¬ b01 false = 1 by decide), a1, bs]
        simp only [nm, jn_s]
        exact ⟨s', rfl, keep s' a2 (by rw [hf, if_neg (by decide)]; exact a3)⟩) (by
      rintro s hs
      exact ⟨s, by dsimp only; unfold x0_workSets_B34; rw [if_pos (lee (by omega))], hs⟩) 0 t (Nat.zero_le _) ⟨fx.rfl, fun x hx => absurd hx (Nat.not_lt_zero x)⟩
  exact L
theorem setsX_pass {t : St} {m n i : Nat} {f : Nat → Bool} {c : Nat → Nat} (h1 : 1 ≤ n) (hm : m ≤ 12) (hi : i < m) (h6 : gI t 6 = jn n) (hP : 1000 ^ m < Bp n) (hN : 2 ^ m * n ≤ gN t 12) (hB : gN t 12 ≤ 1000000) (h14 : gN t 14 = 16) (hc : ∀ j, j < m → c j ≤ 1000) (hci : gA t 14 i = jn (c i)) (hS : Sx t n (2 ^ m) (fun x => rs f c i x * 1000 ^ (m - i))) : ∃ t', lp (fun x : Int32 × St => x0_workSets_B116 (jn (2 ^ m)) (jn i) x.1 x.2) ((0 : Int32), t) = some t' ∧ fx [12] [] t t' ∧ Sx t' n (2 ^ m) (fun x => rs f c (i + 1) x * 1000 ^ (m - (i + 1))) := by
  have p12 : 2 ^ m ≤ 2 ^ 12 := Nat.pow_le_pow_right (by omega) hm
  have e12 : (2 : Nat) ^ 12 = 4096 := rfl
  have le := rs_le (f := f) hc
  have pe : 1000 ^ (m - i) = 1000 ^ (m - (i + 1)) * 1000 := by
    rw [← Nat.pow_succ]; congr 1; omega
  have stay : ∀ x, x.testBit i = false → rs f c (i + 1) x * 1000 ^ (m - (i + 1)) = rs f c i x * 1000 ^ (m - i) := fun x hx => by
    rw [rs_s, hx, if_neg (by decide), pe]
    generalize 1000 ^ (m - (i + 1)) = P
    generalize rs f c i x = R
    ac_rfl
  have L := lp_cnt (b := fun x : Int32 × St => x0_workSets_B116 (jn (2 ^ m)) (jn i) x.1 x.2) (fun k s => (jn k, s)) (2 ^ m)
    (fun k s => fx [12] [] t s ∧ ∀ x, x < 2 ^ m → Bg (gA s 12) (x * n) n (if x < k then rs f c (i + 1) x * 1000 ^ (m - (i + 1)) else rs f c i x * 1000 ^ (m - i))) (fun s => fx [12] [] t s ∧ ∀ x, x < 2 ^ m → Bg (gA s 12) (x * n) n (if x < 2 ^ m then rs f c (i + 1) x * 1000 ^ (m - (i + 1)) else rs f c i x * 1000 ^ (m - i))) (by
      rintro k s hk ⟨w1, w2⟩
      have s12 : gN s 12 = gN t 12 := w1.2 12 rfl
      have e6 : gI s 6 = jn n := by rw [(w1.1 6 rfl).1]; exact h6
      dsimp only
      unfold x0_workSets_B116
      rw [if_neg (nle hk (by omega)), jn_bit (by omega) (by omega)]
      cases b : k.testBit i with
      | false =>
        rw [if_neg (show ¬ (false = true) by decide), if_pos (show jn 0 = 0 from rfl)]
        simp only [nm, jn_s]
        refine ⟨s, rfl, w1, fun x hx => ?_⟩
        have w := w2 x hx
        by_cases q : x = k
        · subst q
          rw [if_neg (by omega)] at w
          rw [if_pos (by omega), stay x b]
          exact w
        · have : (x < k + 1) ↔ (x < k) := by omega
          simp only [this]
          exact w
      | true =>
        have xo : k ^^^ 2 ^ i < 2 ^ m := Nat.xor_lt_two_pow hk (Nat.pow_lt_pow_right (by omega) hi)
        have v1 := w2 k hk
        rw [if_neg (by omega)] at v1
        have v2 := w2 _ xo
        have v2' : Bg (gA s 12) ((k ^^^ 2 ^ i) * n) n (rs f c i (k ^^^ 2 ^ i) * 1000 ^ (m - i)) := by
          by_cases q : k ^^^ 2 ^ i < k
          · rw [if_pos q, stay _ (xor_off b)] at v2; exact v2
          · rw [if_neg q] at v2; exact v2
        have ci := hc i hi
        have ex : (c i * (rs f c i k * 1000 ^ (m - i)) + (1000 - c i) * (rs f c i (k ^^^ 2 ^ i) * 1000 ^ (m - i))) / 1000 = rs f c (i + 1) k * 1000 ^ (m - (i + 1)) := by
          rw [rs_s, b, if_pos rfl, pe]
          generalize rs f c i k = A
          generalize rs f c i (k ^^^ 2 ^ i) = B
          generalize 1000 ^ (m - (i + 1)) = P
          generalize 1000 - c i = d
          rw [show c i * (A * (P * 1000)) + d * (B * (P * 1000)) = 1000 * ((c i * A + d * B) * P) by rw [Nat.add_mul, Nat.mul_add]; ac_rfl, Nat.mul_div_cancel_left _ (by omega)]
        have lk' := le (i + 1) hi k
        have lP : rs f c (i + 1) k * 1000 ^ (m - (i + 1)) ≤ 1000 ^ m := by
          refine Nat.le_trans (Nat.mul_le_mul_right _ lk') ?_
          rw [← Nat.pow_add, show i + 1 + (m - (i + 1)) = m by omega]
          exact Nat.le_refl _
        have ne := xor_ne b
        obtain ⟨s', a1, a2, a3⟩ := blend12_eq (t := s) (a := k * n) (b := k * n) (c := (k ^^^ 2 ^ i) * n) (n := n) (p := c i) h1 (by rw [s12]; exact rowin hk hN) (by rw [s12]; exact rowin hk hN) (by rw [s12]; exact rowin xo hN) (by rw [s12]; exact hB) ci (Or.inl rfl) (Or.inr (row_apart ne)) v1 v2' (by rw [ex]; exact Nat.lt_of_le_of_lt lP hP)
        rw [ex] at a3
        rw [if_pos rfl, if_neg (show ¬ jn 1 = 0 by decide), e6, jn_mul]
        simp only [nm]
        rw [w1.2 14 rfl, h14, gd_jn (by omega) (by omega), jn_shl1 i (by omega), jn_xor, jn_mul, jn_cl (by omega), (w1.1 14 rfl).2.2.1, hci, a1, bs, jn_s]
        refine ⟨s', rfl, w1.trans a2.1, fun x hx => ?_⟩
        by_cases q : x = k
        · subst q
          rw [if_pos (by omega)]
          exact a3
        · have w := w2 x hx
          have : (x < k + 1) ↔ (x < k) := by omega
          simp only [this]
          exact w.on a2 (row_apart q)) (by
      rintro s hs
      exact ⟨s, by dsimp only; unfold x0_workSets_B116; rw [if_pos (lee (by omega))], hs⟩) 0 t (Nat.zero_le _) ⟨fx.rfl, fun x hx => by rw [if_neg (Nat.not_lt_zero x)]; exact hS x hx⟩
  obtain ⟨s, k, k1, k2⟩ := L
  refine ⟨s, k, k1, fun x hx => ?_⟩
  have v := k2 x hx
  rw [if_pos hx] at v
  exact v
theorem workSets_eq {tx tm : St} {H n : Nat} {f : Nat → Bool} (hT : TbR tx H) (hm1 : 1 ≤ mN H) (hm : mN H ≤ 12) (hn : n = (mN H + 2) / 3) (h6 : gI tx 6 = jn n) (h14 : gN tx 14 = 16) (hH : RH tx tm) (h12 : gN tx 12 ≤ 1000000) (hb : ∀ q, q < 2 ^ mN H → x8_bit tx (jn q) = some (b01 (f q))) : ∃ t', x0_workSets tx = some t' ∧ fx [12, 14] [12, 9000, 9001] tx t' ∧ Gw 12 (2 ^ mN H * n) tx t' ∧ gN t' 12 ≤ 1000000 ∧ Sx t' n (2 ^ mN H) (rs f (fun r => usU tm 0 (odr H r)) (mN H)) := by
  have hP := p3_lt hm1
  rw [← hn] at hP
  have n1 : 1 ≤ n := by omega
  have n4 : n ≤ 4 := by omega
  have h8 := hT.2.1
  have uok := usU_ok hH 0
  have hc : ∀ j, j < mN H → (fun r => usU tm 0 (odr H r)) j ≤ 1000 := fun j hj => (uok _ (odr_ok hj).1).1
  have p12 : 2 ^ mN H ≤ 2 ^ 12 := Nat.pow_le_pow_right (by omega) hm
  have e12 : (2 : Nat) ^ 12 = 4096 := rfl
  have W : 2 ^ mN H * n ≤ 4096 * 4 := Nat.mul_le_mul (by omega) n4
  unfold x0_workSets
  rw [h8, jn_shl1 _ (by omega), h6]
  simp only [nm]
  rw [jn_mul]
  obtain ⟨t1, g0, g1, g2, ⟨g3, g4⟩, g5⟩ := grw_eqx (t := tx) (k := 12) (N := 2 ^ mN H * n) (by omega) (by omega) h12 (fun t33 : St => x0_workSets_J27 t33 (jn (2 ^ mN H)))
  rw [g0]
  have f1 := g5 [12, 14] [12, 9000, 9001] rfl rfl rfl rfl
  have f1' := g5 [12] [12, 9000, 9001] rfl rfl rfl rfl
  have g12 : gN t1 12 ≤ 1000000 := by
    by_cases c : gN tx 12 < 2 ^ mN H * n
    · rw [g2.1 c]; omega
    · rw [g2.2 c]; exact h12
  have T1 := hT.fr f1
  obtain ⟨t2, a1, a2, a3⟩ := takeOdds_eq (never := 0) T1 ((f1.2 14 rfl).trans h14) (hH.fr f1 fxn : RH t1 tm) (by omega)
  have F2 : fx [12, 14] [12, 9000, 9001] tx t2 := f1.trans (a2.wk rfl rfl)
  have b2 : ∀ q, q < 2 ^ mN H → x8_bit t2 (jn q) = some (b01 (f q)) := fun q hq => by rw [bit_fx F2]; exact hb q hq
  have n2 : gN t2 12 = gN t1 12 := a2.2 12 rfl
  obtain ⟨t3, c1, c2, c3⟩ := setsX_fill n1 hm ((F2.1 6 rfl).1.trans h6) ((F2.1 803 rfl).1.trans h8) hP (by rw [n2]; exact g1) (by rw [n2]; exact g12) b2
  have F3 : fx [12, 14] [12, 9000, 9001] tx t3 := F2.trans (c2.wk rfl rfl)
  have n3 : gN t3 12 = gN t1 12 := (c2.2 12 rfl).trans n2
  have L := lp_cnt (b := fun x : Int32 × St => x0_workSets_B103 (jn (2 ^ mN H)) x.1 x.2) (fun i s => (jn i, s)) (mN H)
    (fun i s => fx [12] [] t3 s ∧ Sx s n (2 ^ mN H) (fun x => rs f (fun r => usU tm 0 (odr H r)) i x * 1000 ^ (mN H - i))) (fun s => fx [12] [] t3 s ∧ Sx s n (2 ^ mN H) (fun x => rs f (fun r => usU tm 0 (odr H r)) (mN H) x * 1000 ^ (mN H - mN H))) (by
      rintro i s hi ⟨w1, w2⟩
      have W1 : fx [12, 14] [12, 9000, 9001] tx s := F3.trans (w1.wk rfl rfl)
      have s12 : gN s 12 = gN t1 12 := (w1.2 12 rfl).trans n3
      obtain ⟨s', d1, d2, d3⟩ := setsX_pass n1 hm hi ((W1.1 6 rfl).1.trans h6) hP (by rw [s12]; exact g1) (by rw [s12]; exact g12) ((W1.2 14 rfl).trans h14) hc (by rw [(w1.1 14 rfl).2.2.1, (c2.1 14 rfl).2.2.1]; exact a3 i hi) w2
      refine ⟨s', ?_, w1.trans d2, d3⟩
      dsimp only
      unfold x0_workSets_B103
      rw [(W1.1 803 rfl).1, h8, if_neg (nle hi (by omega)), show lp (fun x : Int32 × St => x0_workSets_B116 (jn (2 ^ mN H)) (jn i) x.1 x.2) ((0 : Int32), s) = some s' from d1, bs]
      simp only [nm, jn_s]) (by
      rintro s hs
      have W1 : fx [12, 14] [12, 9000, 9001] tx s := F3.trans (hs.1.wk rfl rfl)
      exact ⟨s, by dsimp only; unfold x0_workSets_B103; rw [(W1.1 803 rfl).1, h8, if_pos (lee (by omega))], hs⟩) 0 t3 (Nat.zero_le _) ⟨fx.rfl, fun x hx => by
        have v := c3 x hx
        dsimp only at v ⊢
        have : rs f (fun r => usU tm 0 (odr H r)) 0 x * 1000 ^ (mN H - 0) = if f x then 1000 ^ mN H else 0 := by
          show (if f x then 1 else 0) * 1000 ^ (mN H - 0) = _
          rw [Nat.sub_zero]
          cases f x with
          | true => rw [if_pos rfl, if_pos rfl, Nat.one_mul]
          | false => rw [if_neg (by decide), if_neg (by decide), Nat.zero_mul]
        rw [this]
        exact v⟩
  obtain ⟨s, k, k1, k2⟩ := L
  refine ⟨s, ?_, F3.trans (k1.wk rfl rfl), ?_, ?_, fun x hx => ?_⟩
  · unfold x0_workSets_J27
    rw [show (0 : Int32) = jn 0 from rfl, a1, bs, show lp (fun x : Int32 × St => x0_workSets_B34 (jn (2 ^ mN H)) x.1 x.2) (jn 0, t2) = some t3 from c1, bs, show lp (fun x : Int32 × St => x0_workSets_B103 (jn (2 ^ mN H)) x.1 x.2) (jn 0, t3) = some s from k, bs]
  · exact ((Gw.fx ⟨g1, g2, g3, g4⟩ a2).fx c2).fx k1
  · rw [k1.2 12 rfl, n3]; exact g12
  · have v := k2 x hx
    dsimp only at v
    rw [Nat.sub_self, Nat.pow_zero, Nat.mul_one] at v
    exact v
/-- the choice -/
def pk (V pr : Nat → Nat) (bud : Nat) : Nat → Nat × Nat
  | 0 => (0, 0)
  | k + 1 => if pr (k + 1) ≤ bud ∧ (V (pk V pr bud k).1 < V (k + 1) ∨ (V (pk V pr bud k).1 = V (k + 1) ∧ pr (k + 1) < (pk V pr bud k).2)) then (k + 1, pr (k + 1)) else pk V pr bud k
theorem pk_s (V pr : Nat → Nat) (bud k : Nat) : pk V pr bud (k + 1) = if pr (k + 1) ≤ bud ∧ (V (pk V pr bud k).1 < V (k + 1) ∨ (V (pk V pr bud k).1 = V (k + 1) ∧ pr (k + 1) < (pk V pr bud k).2)) then (k + 1, pr (k + 1)) else pk V pr bud k := rfl
theorem pick_le {V pr : Nat → Nat} {bud c : Nat} (h : ∀ x, pr x ≤ c) : ∀ k, (pk V pr bud k).1 ≤ k ∧ (pk V pr bud k).2 ≤ c := by
  intro k
  induction k with
  | zero => exact ⟨Nat.le_refl _, Nat.zero_le _⟩
  | succ k ih =>
    rw [pk_s]
    split
    · exact ⟨Nat.le_refl _, h _⟩
    · exact ⟨by omega, ih.2⟩
theorem cmp_eq {V : Nat} : cmpV V V = 0 := if_pos rfl
theorem cmp_lt {V W : Nat} (h : V < W) : cmpV V W = -1 := by
  unfold cmpV; rw [if_neg (by omega), if_pos h]
theorem cmp_gt {V W : Nat} (h : W < V) : cmpV V W = 1 := by
  unfold cmpV; rw [if_neg (by omega), if_neg (by omega)]
theorem pickX_eq {tx tm t : St} {H n bud : Nat} {V : Nat → Nat} (hT : TbR t H) (hm1 : 1 ≤ mN H) (hm : mN H ≤ 12) (h6 : gI t 6 = jn n) (hH : RH tx tm) (h500 : gN t 500 = 80) (h5 : gA t 500 = gA tx 500) (hB : gN t 12 ≤ 1000000) (hN : 2 ^ mN H * n ≤ gN t 12) (hS : Sx t n (2 ^ mN H) V) (hbud : bud < 2147483648) : x0_bestSet_J4 t (jn bud) = some (jn (pk V (fun x => smN tm 0 0 (wd H x)) bud (2 ^ mN H - 1)).1, t) := by
  have p12 : 2 ^ mN H ≤ 2 ^ 12 := Nat.pow_le_pow_right (by omega) hm
  have p1 : 1 ≤ 2 ^ mN H := Nat.two_pow_pos _
  have e12 : (2 : Nat) ^ 12 = 4096 := rfl
  have prl : ∀ x, (fun x => smN tm 0 0 (wd H x)) x ≤ 16000 := fun x => smN_16 hH 0 0 _
  have pl := pick_le (V := V) (bud := bud) prl
  generalize hpr : (fun x => smN tm 0 0 (wd H x)) = pr at *
  have L := lp_cnt (b := fun x : Int32 × Int32 × Int32 => x0_bestSet_B11 t (jn bud) x.1 x.2.1 x.2.2) (S := Unit) (fun i _ => (jn (pk V pr bud i).1, jn (pk V pr bud i).2, jn (i + 1))) (2 ^ mN H - 1)
    (fun _ _ => True) (fun y => y = jn (pk V pr bud (2 ^ mN H - 1)).1) (by
      rintro i ⟨⟩ hi -
      obtain ⟨l1, l2⟩ := pl i
      have x1 : i + 1 < 2 ^ mN H := by omega
      have ps := pk_s V pr bud i
      have cx := compare12_eq (t := t) (a := (i + 1) * n) (b := (pk V pr bud i).1 * n) (rowin x1 hN) (rowin (show (pk V pr bud i).1 < 2 ^ mN H by omega) hN) hB (hS _ x1) (hS _ (show (pk V pr bud i).1 < 2 ^ mN H by omega))
      have su := x_sumOf_eq hH h500 h5 (wd_lt H (i + 1)) (show 0 ≤ 1 by omega)
      have sp : smN tm 0 0 (wd H (i + 1)) = pr (i + 1) := by rw [← hpr]
      rw [sp] at su
      have prx := prl (i + 1)
      generalize hbst : (pk V pr bud i).1 = bst at *
      generalize hdr : (pk V pr bud i).2 = dr at *
      refine ⟨(), ?_, trivial⟩
      have J : x0_bestSet_J95 t (jn bud) (jn (i + 1)) (jn (pr (i + 1))) = some (.inl (jn (i + 1), jn (pr (i + 1)), jn (i + 1 + 1))) := by
        unfold x0_bestSet_J95
        simp only [nm, jn_s]
      have pe : ∀ a b, pk V pr bud i = (a, b) ↔ bst = a ∧ dr = b := fun a b => by
        rw [← hbst, ← hdr]
        exact Prod.ext_iff
      have same : pk V pr bud i = (bst, dr) := (pe _ _).mpr ⟨rfl, rfl⟩
      dsimp only
      unfold x0_bestSet_B11
      rw [hT.2.1, jn_shl1 _ (by omega), if_neg (nle x1 (by omega)), widened_eq hT (by omega), bs, show (0 : Int32) = jn 0 from rfl, su, bs, h6, jn_mul, jn_mul, cx, J, ps]
      by_cases cb : pr (i + 1) ≤ bud
      · rw [if_pos ((jn_le (by omega) (by omega)).mpr cb), bs]
        by_cases c1 : V bst < V (i + 1)
        · rw [cmp_gt c1, if_pos (show jn 0 < 1 by decide), if_pos ⟨cb, Or.inl c1⟩]
        · by_cases c2 : V bst = V (i + 1)
          · rw [c2, cmp_eq, if_neg (show ¬ jn 0 < 0 by decide), if_pos (show (0 : Int32) = jn 0 from rfl)]
            by_cases c3 : pr (i + 1) < dr
            · rw [if_neg (fun e => by have := (jn_le (by omega) (by omega)).mp e; omega), if_pos ⟨cb, Or.inr ⟨rfl, c3⟩⟩]
            · rw [if_pos ((jn_le (by omega) (by omega)).mpr (by omega)), if_neg (by rintro ⟨-, z | z⟩; omega; omega), same]
              simp only [nm, jn_s]
          · rw [cmp_lt (by omega), if_neg (show ¬ jn 0 < -1 by decide), if_neg (show ¬ (-1 : Int32) = jn 0 by decide), if_neg (by rintro ⟨-, z | z⟩; omega; omega), same]
            simp only [nm, jn_s]
      · rw [if_neg (fun e => cb ((jn_le (by omega) (by omega)).mp e)), if_neg (fun e => cb e.1), same]
        simp only [nm, jn_s]) (by
      rintro ⟨⟩ -
      exact ⟨_, by dsimp only; unfold x0_bestSet_B11; rw [hT.2.1, jn_shl1 _ (by omega), show 2 ^ mN H - 1 + 1 = 2 ^ mN H by omega, if_pos (lee (by omega))], rfl⟩) 0 () (Nat.zero_le _) trivial
  obtain ⟨y, k, rfl⟩ := L
  unfold x0_bestSet_J4
  rw [show lp (fun x : Int32 × Int32 × Int32 => x0_bestSet_B11 t (jn bud) x.1 x.2.1 x.2.2) ((0 : Int32), (0 : Int32), (1 : Int32)) = some _ from k, bs]
theorem pickM_eq {tx tm t : St} {H bud : Nat} {V : Nat → Nat} (hm1 : 1 ≤ mN H) (hm : mN H ≤ 12) (h44 : ∀ r, r < mN H → gA t 44 r = jn (odr H r)) (hH : RH tx tm) (e0 : gA t 0 = gA tm 0) (e1 : gA t 1 = gA tm 1) (hS : Sv t (2 ^ mN H) V) (hbud : bud < 2147483648) : lp (fun x : Int32 × Int32 × Int32 => m_best_B345 t (jn bud) (jn (mN H)) (jn (2 ^ mN H)) x.1 x.2.1 x.2.2) ((0 : Int32), (0 : Int32), (1 : Int32)) = some (jn (pk V (fun x => smN tm 0 0 (wd H x)) bud (2 ^ mN H - 1)).1) := by
  have p12 : 2 ^ mN H ≤ 2 ^ 12 := Nat.pow_le_pow_right (by omega) hm
  have p1 : 1 ≤ 2 ^ mN H := Nat.two_pow_pos _
  have e12 : (2 : Nat) ^ 12 = 4096 := rfl
  have prl : ∀ x, (fun x => smN tm 0 0 (wd H x)) x ≤ 16000 := fun x => smN_16 hH 0 0 _
  have pl := pick_le (V := V) (bud := bud) prl
  generalize hpr : (fun x => smN tm 0 0 (wd H x)) = pr at *
  have L := lp_cnt (b := fun x : Int32 × Int32 × Int32 => m_best_B345 t (jn bud) (jn (mN H)) (jn (2 ^ mN H)) x.1 x.2.1 x.2.2) (S := Unit) (fun i _ => (jn (pk V pr bud i).1, jn (pk V pr bud i).2, jn (i + 1))) (2 ^ mN H - 1)
    (fun _ _ => True) (fun y => y = jn (pk V pr bud (2 ^ mN H - 1)).1) (by
      rintro i ⟨⟩ hi -
      obtain ⟨l1, l2⟩ := pl i
      have x1 : i + 1 < 2 ^ mN H := by omega
      have ps := pk_s V pr bud i
      have cx := against_eq (t := t) (x := 402 + (i + 1)) (y := 402 + (pk V pr bud i).1) (by omega) (by omega) (hS _ x1) (hS _ (show (pk V pr bud i).1 < 2 ^ mN H by omega))
      have su := m_sumOf_eq hH e0 e1 (wd_lt H (i + 1)) (show 0 ≤ 1 by omega) (show 0 < 65536 by omega)
      have sp : smN tm 0 0 (wd H (i + 1)) = pr (i + 1) := by rw [← hpr]
      rw [sp] at su
      have prx := prl (i + 1)
      generalize hbst : (pk V pr bud i).1 = bst at *
      generalize hdr : (pk V pr bud i).2 = dr at *
      refine ⟨(), ?_, trivial⟩
      have J : m_best_J433 t (jn bud) (jn (mN H)) (jn (2 ^ mN H)) (jn (i + 1)) (jn (pr (i + 1))) = some (.inl (jn (i + 1), jn (pr (i + 1)), jn (i + 1 + 1))) := by
        unfold m_best_J433
        simp only [nm, jn_s]
      have same : pk V pr bud i = (bst, dr) := Prod.ext hbst hdr
      have up := wd_up (H := H) (a := bst) (b := i + 1) x1 (by omega)
      have w1 := wd_lt H bst
      have w2 := wd_lt H (i + 1)
      dsimp only
      unfold m_best_B345
      rw [if_neg (nle x1 (by omega)), spread_eq h44 (by omega), bs, show (0 : Int32) = jn 0 from rfl, su, bs, j402, j402, cx, bs, J, ps]
      by_cases cb : pr (i + 1) ≤ bud
      · rw [if_neg (fun e => by have := (jn_lt (by omega) (by omega)).mp e; omega)]
        by_cases c1 : V bst < V (i + 1)
        · rw [cmp_gt c1, if_pos (show jn 0 < 1 by decide), if_pos ⟨cb, Or.inl c1⟩]
        · by_cases c2 : V bst = V (i + 1)
          · rw [c2, cmp_eq, if_neg (show ¬ jn 0 < 0 by decide), if_pos (show (0 : Int32) = jn 0 from rfl)]
            by_cases c3 : pr (i + 1) < dr
            · rw [if_pos ((jn_lt (by omega) (by omega)).mpr c3), if_pos ⟨cb, Or.inr ⟨rfl, c3⟩⟩]
            · have hno : ¬ (pr (i + 1) ≤ bud ∧ (V (i + 1) < V (i + 1) ∨ (V (i + 1) = V (i + 1) ∧ pr (i + 1) < dr))) := by
                rintro ⟨-, z | z⟩
                · omega
                · omega
              rw [if_neg (show ¬ jn (pr (i + 1)) < jn dr from fun e => c3 ((jn_lt (by omega) (by omega)).mp e)), if_neg hno, same]
              by_cases c4 : pr (i + 1) = dr
              · rw [if_pos (show jn (pr (i + 1)) = jn dr by rw [c4]), spread_eq h44 (by omega), bs, if_pos ((jn_le (by omega) (by omega)).mpr (by omega))]
                simp only [nm, jn_s]
              · rw [if_neg (show ¬ jn (pr (i + 1)) = jn dr from fun e => c4 ((jn_inj (by omega) (by omega)).mp e))]
                simp only [nm, jn_s]
          · rw [cmp_lt (by omega), if_neg (show ¬ jn 0 < -1 by decide), if_neg (show ¬ (-1 : Int32) = jn 0 by decide), if_neg (by rintro ⟨-, z | z⟩; omega; omega), same]
            simp only [nm, jn_s]
      · rw [if_pos ((jn_lt (by omega) (by omega)).mpr (by omega)), if_neg (fun e => cb e.1), same]
        simp only [nm, jn_s]) (by
      rintro ⟨⟩ -
      exact ⟨_, by dsimp only; unfold m_best_B345; rw [show 2 ^ mN H - 1 + 1 = 2 ^ mN H by omega, if_pos (lee (by omega))], rfl⟩) 0 () (Nat.zero_le _) trivial
  obtain ⟨y, k, rfl⟩ := L
  exact k
