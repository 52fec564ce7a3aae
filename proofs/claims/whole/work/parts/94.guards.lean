/-! Guards: what each set of them stops, and what it costs. -/
def nG (tm : St) : Nat := (gI tm 45).toNatClampNeg
def gSt (tm : St) (i : Nat) : Nat := (gA tm 46 i).toNatClampNeg
def gWa (tm : St) (i : Nat) : Nat := (gA tm 47 i).toNatClampNeg
def stopsOf (tm : St) (set n : Nat) : Nat := orr (fun i => if set.testBit i then gSt tm i else 0) n
def wagesOf (tm : St) (set n : Nat) : Nat := smm (fun i => if set.testBit i then gWa tm i else 0) n
def RG (tx tm : St) : Prop := (gI tm 45 = jn (nG tm) ∧ nG tm ≤ 10 ∧ gI tx 402 = gI tm 45) ∧ (∀ i, i < nG tm → gA tm 46 i = jn (gSt tm i) ∧ gSt tm i < 65536 ∧ gA tm 47 i = jn (gWa tm i) ∧ gWa tm i ≤ 1000) ∧ gN tx 403 = 2 ^ nG tm ∧ gN tx 404 = 2 ^ nG tm ∧ ∀ set, set < 2 ^ nG tm → gA tx 403 set = jn (stopsOf tm set (nG tm)) ∧ gA tx 404 set = jn (wagesOf tm set (nG tm))
theorem RG.fr {S T S' T' : List Nat} {tx tm tx' tm' : St} (h : RG tx tm) (hx : fx S T tx tx') (hm : fx S' T' tm tm') (h1 : (S.elem 402 || S.elem 403 || S.elem 404) = false := by rfl) (h2 : (T.elem 403 || T.elem 404) = false := by rfl) (h3 : (S'.elem 45 || S'.elem 46 || S'.elem 47) = false := by rfl) : RG tx' tm' := by
  simp only [Bool.or_eq_false_iff] at h1 h2 h3
  unfold RG nG stopsOf wagesOf gSt gWa at *
  rw [hx.2 403 h2.1, hx.2 404 h2.2, (hx.1 402 h1.1.1).1, (hx.1 403 h1.1.2).2.2.1, (hx.1 404 h1.2).2.2.1, (hm.1 45 h3.1.1).1, (hm.1 46 h3.1.2).2.2.1, (hm.1 47 h3.2).2.2.1]
  exact h
theorem stops_lt {tx tm : St} (h : RG tx tm) (set : Nat) : stopsOf tm set (nG tm) < 65536 := by
  refine orr_lt (w := 16) (fun i hi => ?_)
  have := (h.2.1 i hi).2.1
  split <;> omega
theorem wages_le {tx tm : St} (h : RG tx tm) (set : Nat) : wagesOf tm set (nG tm) ≤ 10000 := by
  have h1 := smm_le (f := fun i => if set.testBit i then gWa tm i else 0) (n := nG tm) (w := 1000) (fun i hi => by
    have := (h.2.1 i hi).2.2.2
    split <;> omega)
  have := h.1.2.1
  unfold wagesOf
  omega
theorem pow_le10 {g : Nat} (h : g ≤ 10) : 2 ^ g ≤ 1024 := Nat.pow_le_pow_right (n := 2) (by omega) h
theorem tb_add {s g i : Nat} (hs : s < 2 ^ g) (hi : i < g) : (2 ^ g + s).testBit i = s.testBit i := by
  rw [Nat.testBit_two_pow_add_gt hi]
theorem tb_top {s g : Nat} (hs : s < 2 ^ g) : (2 ^ g + s).testBit g = true := by
  rw [Nat.testBit_two_pow_add_eq, Nat.testBit_lt_two_pow hs]
  rfl
theorem hire_loop {t : St} {n st pr : Nat} (hn : n ≤ 1024) (hst : st < 65536) (hpr : pr ≤ 1000) (h3 : gN t 403 = 2 * n) (h4 : gN t 404 = 2 * n) : ∃ t', lp (fun x : Int32 × St => x4_hire_B49 (jn st) (jn pr) (jn n) x.1 x.2) (jn 0, t) = some t' ∧ fx [403, 404] [] t t' ∧ (∀ i, i < n → gA t' 403 i = gA t 403 i ∧ gA t' 404 i = gA t 404 i ∧ gA t' 403 (n + i) = gA t 403 i ||| jn st ∧ gA t' 404 (n + i) = gA t 404 i + jn pr) := by
  have h := lp_cnt (b := fun x : Int32 × St => x4_hire_B49 (jn st) (jn pr) (jn n) x.1 x.2) (fun i s => (jn i, s)) n
    (fun j s => fx [403, 404] [] t s ∧ ∀ i, i < n → gA s 403 i = gA t 403 i ∧ gA s 404 i = gA t 404 i ∧ (i < j → gA s 403 (n + i) = gA t 403 i ||| jn st ∧ gA s 404 (n + i) = gA t 404 i + jn pr))
    (fun y => fx [403, 404] [] t y ∧ ∀ i, i < n → gA y 403 i = gA t 403 i ∧ gA y 404 i = gA t 404 i ∧ (i < n → gA y 403 (n + i) = gA t 403 i ||| jn st ∧ gA y 404 (n + i) = gA t 404 i + jn pr)) (by
      rintro j s hj ⟨hf, hv⟩
      dsimp only
      unfold x4_hire_B49
      have q : ¬ jn n ≤ jn j := fun e => by have := (jn_le (by omega) (by omega)).mp e; omega
      have n3 : gN s 403 = 2 * n := (hf.2 403 rfl).trans h3
      have n4 : gN s 404 = 2 * n := (hf.2 404 rfl).trans h4
      rw [if_neg q, n3, jn_add, gd_jn (by omega) (by omega), gd_jn (by omega) (by omega), jn_cl (by omega)]
      simp only [nm]
      rw [show gN (sA s 403 (jn (n + j)) (gA s 403 j ||| jn st)) 404 = gN s 404 from rfl, n4, gd_jn (by omega) (by omega), gd_jn (by omega) (by omega), show jn j + 1 = jn (j + 1) from jn_add j 1]
      refine ⟨_, rfl, ?_, ?_⟩
      · exact (hf.trans (fx_sA rfl)).trans (fx_sA rfl)
      · intro i hi
        obtain ⟨v1, v2, v3⟩ := hv i hi
        show upd (gA s 403) (jn (n + j)).toNatClampNeg (gA s 403 j ||| jn st) i = gA t 403 i ∧ upd (gA s 404) (jn (n + j)).toNatClampNeg (gA s 404 j + jn pr) i = gA t 404 i ∧ (i < j + 1 → upd (gA s 403) (jn (n + j)).toNatClampNeg (gA s 403 j ||| jn st) (n + i) = gA t 403 i ||| jn st ∧ upd (gA s 404) (jn (n + j)).toNatClampNeg (gA s 404 j + jn pr) (n + i) = gA t 404 i + jn pr)
        rw [jn_cl (by omega), upd_ne (by omega), upd_ne (by omega)]
        refine ⟨v1, v2, fun hij => ?_⟩
        by_cases e : i = j
        · subst e
          rw [upd_at, upd_at, v1, v2]
          exact ⟨rfl, rfl⟩
        · rw [upd_ne (by omega), upd_ne (by omega)]
          exact v3 (by omega)) (by
      rintro s ⟨hf, hv⟩
      exact ⟨s, by dsimp only; unfold x4_hire_B49; rw [if_pos ((jn_le (by omega) (by omega)).mpr (Nat.le_refl n))], hf, hv⟩) 0 t (by omega) ⟨fx.rfl, fun i hi => ⟨rfl, rfl, fun e => absurd e (by omega)⟩⟩
  obtain ⟨y, k, hf, hv⟩ := h
  exact ⟨y, k, hf, fun i hi => ⟨(hv i hi).1, (hv i hi).2.1, (hv i hi).2.2 hi⟩⟩
theorem cpy_eq {α : Type} {t : St} {k n N : Nat} (hN : gN t k = N) (h1 : N < n) (h2 : n ≤ 100000) (f : St → Option α) : cpy t k (jn n) f = f (nwI t k n (va_cpy (gA t k) (fun _ => 0) 0 0 N)) := by
  unfold cpy
  rw [hN]
  have q1 : ¬ jn n = jn N := fun e => by have := (jn_inj (by omega) (by omega)).mp e; omega
  have q2 : jn N < jn n := (jn_lt (by omega) (by omega)).mpr h1
  have q3 : ¬ jn n < jn N := fun e => by have := (jn_lt (by omega) (by omega)).mp e; omega
  rw [if_neg (by
    rintro (e | e | e | e)
    · exact q1 e
    · exact jn_neg (by omega) e
    · rw [jn_cl (by omega)] at e; omega
    · omega), jn_cl (by omega), if_neg q3, show (Int32.ofNat N).toNatClampNeg = N from jn_cl (by omega)]
theorem x4_hire_full {tx tm : St} (h : RG tx tm) (st pr : Nat) (h0 : gI tx 402 = jn 10) : x4_hire tx (jn st) (jn pr) = some (0, tx) := by
  unfold x4_hire
  rw [h0, if_neg (by decide)]
theorem x4_hire_eq {tx tm : St} (h : RG tx tm) {st pr : Nat} (hst : st < 65536) (hpr : pr ≤ 1000) (h0 : nG tm < 10) : ∃ tx', x4_hire tx (jn st) (jn pr) = some (1, tx') ∧ gI tx' 402 = jn (nG tm) + 1 ∧ gN tx' 403 = 2 * 2 ^ nG tm ∧ gN tx' 404 = 2 * 2 ^ nG tm ∧ ∀ i, i < 2 ^ nG tm → gA tx' 403 i = gA tx 403 i ∧ gA tx' 404 i = gA tx 404 i ∧ gA tx' 403 (2 ^ nG tm + i) = gA tx 403 i ||| jn st ∧ gA tx' 404 (2 ^ nG tm + i) = gA tx 404 i + jn pr := by
  obtain ⟨⟨e1, e2, e3⟩, hg, l3, l4, hs⟩ := h
  have hp := pow_le10 e2
  have hpp := Nat.two_pow_pos (nG tm)
  unfold x4_hire
  have qq : jn (nG tm) < (10 : Int32) := (jn_lt (b := 10) (by omega) (by omega)).mpr h0
  rw [e3, e1, if_pos qq, jn_shl1 _ (by omega)]
  simp only [nm]
  rw [show (2 : Int32) = jn 2 from rfl, jn_mul, cpy_eq l3 (by omega) (by omega)]
  unfold x4_hire_J32
  generalize ht1 : nwI tx 403 (2 * 2 ^ nG tm) (va_cpy (gA tx 403) (fun _ => 0) 0 0 (2 ^ nG tm)) = t1
  have a1 : gN t1 404 = 2 ^ nG tm := by subst ht1; exact l4
  have a2 : gN t1 403 = 2 * 2 ^ nG tm := by subst ht1; rfl
  have a3 : gA t1 404 = gA tx 404 := by subst ht1; rfl
  have a4 : gA t1 403 = va_cpy (gA tx 403) (fun _ => 0) 0 0 (2 ^ nG tm) := by subst ht1; rfl
  have a5 : gI t1 402 = gI tx 402 := by subst ht1; rfl
  rw [show (2 : Int32) = jn 2 from rfl, jn_mul, cpy_eq a1 (by omega) (by omega)]
  unfold x4_hire_J46
  generalize ht2 : nwI t1 404 (2 * 2 ^ nG tm) (va_cpy (gA t1 404) (fun _ => 0) 0 0 (2 ^ nG tm)) = t2
  have b1 : gN t2 404 = 2 * 2 ^ nG tm := by subst ht2; rfl
  have b2 : gN t2 403 = 2 * 2 ^ nG tm := by subst ht2; exact a2
  have b3 : gA t2 404 = va_cpy (gA t1 404) (fun _ => 0) 0 0 (2 ^ nG tm) := by subst ht2; rfl
  have b4 : gA t2 403 = gA t1 403 := by subst ht2; rfl
  have b5 : gI t2 402 = gI t1 402 := by subst ht2; rfl
  obtain ⟨t3, k, hf, hv⟩ := hire_loop (t := t2) (n := 2 ^ nG tm) hp hst hpr b2 b1
  rw [show ((0 : Int32), t2) = (jn 0, t2) from rfl, k, bs]
  have c5 : gI t3 402 = jn (nG tm) := ((hf.1 402 rfl).1.trans b5).trans (a5.trans (e3.trans e1))
  unfold x4_forgetFront
  simp only [nm, bs]
  refine ⟨_, rfl, ?_, ?_, ?_, ?_⟩
  · show gI t3 402 + 1 = _
    rw [c5]
  · show gN t3 403 = _
    exact (hf.2 403 rfl).trans b2
  · show gN t3 404 = _
    exact (hf.2 404 rfl).trans b1
  · intro i hi
    obtain ⟨v1, v2, v3, v4⟩ := hv i hi
    have x1 : gA t2 403 i = gA tx 403 i := by
      rw [b4, a4]
      unfold va_cpy
      rw [if_pos (by omega)]
      congr 1
      omega
    have x2 : gA t2 404 i = gA tx 404 i := by
      rw [b3, a3]
      unfold va_cpy
      rw [if_pos (by omega)]
      congr 1
      omega
    rw [x1] at v1 v3
    rw [x2] at v2 v4
    exact ⟨v1, v2, v3, v4⟩

theorem op_guard {tx tm : St} (h : RG tx tm) (a1 a2 : Int32) : ∃ r tx' tm', x11_guard tx a1 a2 = some (r, tx') ∧ m_guard tm a1 a2 = some (r, tm') ∧ RG tx' tm' := by
  unfold x11_guard m_guard m_isSet
  rcases io a1 0 65535 with ⟨st, l1, u1, rfl⟩ | n1
  · have e1 : ∀ t, x11_outside t (jn st) 0 65535 = some 0 := oT l1 u1 (by decide)
    have f1 : ∀ t, m_in t (jn st) 0 65535 = some 1 := iT l1 u1 (by decide)
    simp only [e1, f1, bs, z0, o0, if_true]
    rcases io a2 0 1000 with ⟨pr, l2, u2, rfl⟩ | n2
    · have e2 : ∀ t, x11_outside t (jn pr) 0 1000 = some 0 := oT l2 u2 (by decide)
      have f2 : ∀ t, m_in t (jn pr) 0 1000 = some 1 := iT l2 u2 (by decide)
      simp only [e2, f2, bs, z0, o0, if_true]
      have h0 := h
      obtain ⟨⟨q1, q2, q3⟩, hg, l3, l4, hs⟩ := h
      by_cases g : nG tm = 10
      · refine ⟨-4, tx, tm, ?_, ?_, h0⟩
        · rw [x4_hire_full h0 st pr (by rw [q3, q1, g]), bs]
          rfl
        · rw [q1, g, if_pos (by decide)]
      · have g1 : nG tm < 10 := by omega
        obtain ⟨tx', k, r1, r2, r3, r4⟩ := x4_hire_eq h0 (st := st) (pr := pr) (by omega) u2 g1
        have hp := pow_le10 q2
        refine ⟨jn (nG tm) + 1 - 1, tx', sI (sA (sA tm 46 (jn (nG tm)) (jn st)) 47 (jn (nG tm)) (jn pr)) 45 (jn (nG tm) + 1), ?_, ?_, ?_⟩
        · rw [k, bs]
          unfold x11_guard_J33
          rw [if_neg (show ¬ (1 : Int32) = 0 by decide)]
          show some (gI tx' 402 - 1, tx') = _
          rw [r1]
        · have qq : ¬ jn (nG tm) = (10 : Int32) := fun e => g ((jn_inj (b := 10) (by omega) (by omega)).mp e)
          rw [q1, if_neg qq, gd_jn g1 (by omega)]
          simp only [nm]
          rw [show gI (sA tm 46 (jn (nG tm)) (jn st)) 45 = gI tm 45 from rfl, q1, gd_jn g1 (by omega), show gI (sA (sA tm 46 (jn (nG tm)) (jn st)) 47 (jn (nG tm)) (jn pr)) 45 = gI tm 45 from rfl, q1]
          rfl
        · generalize htm : sI (sA (sA tm 46 (jn (nG tm)) (jn st)) 47 (jn (nG tm)) (jn pr)) 45 (jn (nG tm) + 1) = tm'
          have s45 : gI tm' 45 = jn (nG tm + 1) := by subst htm; exact jn_add (nG tm) 1
          have s46 : gA tm' 46 = upd (gA tm 46) (nG tm) (jn st) := by
            subst htm
            show upd (gA tm 46) (jn (nG tm)).toNatClampNeg (jn st) = _
            rw [jn_cl (by omega)]
          have s47 : gA tm' 47 = upd (gA tm 47) (nG tm) (jn pr) := by
            subst htm
            show upd (gA tm 47) (jn (nG tm)).toNatClampNeg (jn pr) = _
            rw [jn_cl (by omega)]
          have sn : nG tm' = nG tm + 1 := by unfold nG; rw [s45, jn_cl (by omega)]; rfl
          have t46 : ∀ i, i < nG tm → gSt tm' i = gSt tm i := fun i hi => by unfold gSt; rw [s46, upd_ne (by omega)]
          have t47 : ∀ i, i < nG tm → gWa tm' i = gWa tm i := fun i hi => by unfold gWa; rw [s47, upd_ne (by omega)]
          have u46 : gSt tm' (nG tm) = st := by unfold gSt; rw [s46, upd_at, jn_cl (by omega)]
          have u47 : gWa tm' (nG tm) = pr := by unfold gWa; rw [s47, upd_at, jn_cl (by omega)]
          have pw : 2 ^ (nG tm + 1) = 2 * 2 ^ nG tm := by rw [Nat.pow_succ, Nat.mul_comm]
          unfold RG
          rw [sn]
          refine ⟨⟨s45, by omega, by rw [r1, s45]; exact jn_add (nG tm) 1⟩, ?_, by rw [r2, pw], by rw [r3, pw], ?_⟩
          · intro i hi
            by_cases e : i = nG tm
            · subst e
              rw [u46, u47, s46, s47, upd_at, upd_at]
              exact ⟨rfl, by omega, rfl, u2⟩
            · rw [t46 i (by omega), t47 i (by omega), s46, s47, upd_ne e, upd_ne e]
              exact hg i (by omega)
          · intro set hset
            have f1 : ∀ z, orr (fun i => if z.testBit i then gSt tm' i else 0) (nG tm) = stopsOf tm z (nG tm) := fun z => orr_cong fun i hi => by rw [t46 i hi]
            have f2 : ∀ z, smm (fun i => if z.testBit i then gWa tm' i else 0) (nG tm) = wagesOf tm z (nG tm) := fun z => smm_cong fun i hi => by rw [t47 i hi]
            show gA tx' 403 set = jn (orr (fun i => if set.testBit i then gSt tm' i else 0) (nG tm) ||| (if set.testBit (nG tm) then gSt tm' (nG tm) else 0)) ∧ gA tx' 404 set = jn (smm (fun i => if set.testBit i then gWa tm' i else 0) (nG tm) + (if set.testBit (nG tm) then gWa tm' (nG tm) else 0))
            rw [f1, f2, u46, u47]
            by_cases e : set < 2 ^ nG tm
            · obtain ⟨v1, v2, -, -⟩ := r4 set e
              rw [Nat.testBit_lt_two_pow e, v1, v2, (hs set e).1, (hs set e).2]
              exact ⟨congrArg jn (Nat.or_zero _).symm, congrArg jn (Nat.add_zero _).symm⟩
            · obtain ⟨s, rfl⟩ : ∃ s, set = 2 ^ nG tm + s := ⟨set - 2 ^ nG tm, by omega⟩
              have hs2 : s < 2 ^ nG tm := by omega
              obtain ⟨-, -, v3, v4⟩ := r4 s hs2
              have g1 : stopsOf tm (2 ^ nG tm + s) (nG tm) = stopsOf tm s (nG tm) := orr_cong fun i hi => by rw [tb_add hs2 hi]
              have g2 : wagesOf tm (2 ^ nG tm + s) (nG tm) = wagesOf tm s (nG tm) := smm_cong fun i hi => by rw [tb_add hs2 hi]
              rw [tb_top hs2, v3, v4, (hs s hs2).1, (hs s hs2).2, g1, g2, jn_or, jn_add]
              exact ⟨rfl, rfl⟩
    · have e2 : ∀ t, x11_outside t a2 0 1000 = some 1 := oF n2
      have f2 : ∀ t, m_in t a2 0 1000 = some 0 := iF n2
      exact ⟨-2, tx, tm, by simp only [e2, bs, o0, if_true], by simp only [f2, bs, z0, if_true], h⟩
  · have e1 : ∀ t, x11_outside t a1 0 65535 = some 1 := oF n1
    have f1 : ∀ t, m_in t a1 0 65535 = some 0 := iF n1
    exact ⟨-2, tx, tm, by simp only [e1, bs, o0, if_true], by simp only [f1, bs, z0, if_true], h⟩
