/-! Least sets: the reference's words. -/
theorem jge {a : Nat} (m : Nat) {x : Int32} (hx : x = jn m) (h : m ≤ a) (ha : a < 2147483648) : x ≤ jn a := by
  rw [hx]
  exact (jn_le (by omega) ha).mpr h
theorem jnge {a : Nat} (m : Nat) {x : Int32} (hx : x = jn m) (h : ¬ m ≤ a) (ha : a < 2147483648) (hm : m < 2147483648) : ¬ x ≤ jn a := by
  rw [hx]
  exact fun e => h ((jn_le hm ha).mp e)
def anyB (f : Nat → Bool) : Nat → Bool
  | 0 => false
  | n + 1 => anyB f n || f n
theorem anyB_cong {f g : Nat → Bool} {n : Nat} (h : ∀ i, i < n → f i = g i) : anyB f n = anyB g n := by
  induction n with
  | zero => rfl
  | succ n ih =>
    show (anyB f n || f n) = (anyB g n || g n)
    rw [ih (fun i hi => h i (by omega)), h n (by omega)]
theorem anyB_t {f : Nat → Bool} {n : Nat} : anyB f n = true ↔ ∃ i, i < n ∧ f i = true := by
  induction n with
  | zero =>
    constructor
    · intro h; cases h
    · rintro ⟨i, h, -⟩; omega
  | succ n ih =>
    show (anyB f n || f n) = true ↔ _
    rw [Bool.or_eq_true, ih]
    constructor
    · rintro (⟨i, h1, h2⟩ | h)
      · exact ⟨i, by omega, h2⟩
      · exact ⟨n, by omega, h⟩
    · rintro ⟨i, h1, h2⟩
      by_cases e : i = n
      · subst e; exact Or.inr h2
      · exact Or.inl ⟨i, by omega, h2⟩
/-- without one of its steps it is reached, too -/
def lss (tm : St) (k set : Nat) : Bool := anyB (fun s => set.testBit s && rch tm k (clr set s)) 16
def mw (tm : St) (k set : Nat) : Bool := rch tm k set && !lss tm k set
theorem wb_not {x : Int64} {j : Nat} (hj : j < 64) : wb (x ^^^ (-1)) j = !wb x j := by
  show (x.toBitVec ^^^ (-1 : Int64).toBitVec).getLsbD j = _
  rw [bv64_m1, BitVec.getLsbD_xor, BitVec.getLsbD_allOnes, decide_eq_true hj, Bool.xor_true]
  rfl
theorem wb_shl {x : Int64} {q : Nat} (hq : q < 64) {j : Nat} (hj : j < 64) : wb (x <<< ((jn q).toInt64 &&& 63)) j = (decide (q ≤ j) && wb x (j - q)) := by
  show (BitVec.shiftLeft x.toBitVec (((jn q).toInt64 &&& 63).toBitVec.smod 64).toNat).getLsbD j = _
  rw [smod64 q hq, BitVec.toNat_ofNat, Nat.mod_eq_of_lt (by omega)]
  show (x.toBitVec <<< q).getLsbD j = _
  rw [BitVec.getLsbD_shiftLeft]
  unfold wb
  by_cases h : q ≤ j
  · have h2 : ¬ j < q := by omega
    simp [hj, h, h2]
  · have h2 : j < q := by omega
    simp [hj, h, h2]
theorem isIn_hi (t : St) {w s : Nat} (v : Int32) (hw : w < 1024) (h6 : 6 ≤ s) (hs : s < 16) : m_isIn t (jn w) v (jn s) = some (if w.testBit (s - 6) then 1 else 0) := by
  unfold m_isIn
  rw [if_pos (jge (x := 6) 6 rfl h6 (by omega)), show jn s - 6 = jn (s - 6) from jn_sub (a := s) (b := 6) h6]
  cases hb : w.testBit (s - 6) with
  | true => rw [if_pos ((bit_iff (by omega) (by omega)).mpr hb)]; rfl
  | false => rw [if_neg (fun e => by rw [(bit_iff (by omega) (by omega)).mp e] at hb; cases hb)]; rfl
theorem tb_word {w j s : Nat} (hj : j < 64) : (64 * w + j).testBit s = if s < 6 then j.testBit s else w.testBit (s - 6) := by
  have := Nat.testBit_two_pow_mul_add (i := 6) w (b := j) (by omega) s
  rw [show (2 : Nat) ^ 6 = 64 from rfl] at this
  exact this
theorem clr_lo {w j s : Nat} (hj : j < 64) (hs : s < 6) (hb : j.testBit s = true) : clr (64 * w + j) s = 64 * w + (j - 2 ^ s) ∧ 2 ^ s ≤ j := by
  have h1 : 2 ^ s ≤ j := Nat.ge_two_pow_of_testBit hb
  have p1 : 2 ^ s ≤ 32 := Nat.pow_le_pow_right (n := 2) (i := s) (j := 5) (by omega) (by omega)
  refine ⟨?_, h1⟩
  have key : ∀ (s j : Nat), j.testBit s = true → clr j s + 2 ^ s = j := by
    intro s
    induction s with
    | zero =>
      intro j h
      have h0 : j % 2 = 1 := by
        rw [Nat.testBit_zero] at h
        simpa using h
      have e1 : (clr j 0) / 2 = j / 2 := by
        unfold clr
        rw [Nat.xor_div_two]
        show j / 2 ^^^ 0 = j / 2
        exact Nat.xor_zero _
      have e2 : (clr j 0).testBit 0 = false := by rw [clr_bit h]; simp
      rw [Nat.testBit_zero] at e2
      have := Nat.mod_two_eq_zero_or_one (clr j 0)
      simp at e2
      show clr j 0 + 1 = j
      omega
    | succ s ih =>
      intro j h
      have h1 : (j / 2).testBit s = true := by rw [← Nat.testBit_succ]; exact h
      have e1 : (clr j (s + 1)) / 2 = clr (j / 2) s := by
        unfold clr
        rw [Nat.xor_div_two, Nat.pow_succ, Nat.mul_div_cancel _ (by omega)]
      have e2 : (clr j (s + 1)) % 2 = j % 2 := by
        have : (clr j (s + 1)).testBit 0 = j.testBit 0 := by rw [clr_bit h]; simp
        rw [Nat.testBit_zero, Nat.testBit_zero] at this
        have h2 := Nat.mod_two_eq_zero_or_one (clr j (s + 1))
        have h3 := Nat.mod_two_eq_zero_or_one j
        simp only [decide_eq_decide] at this
        omega
      have := ih (j / 2) h1
      rw [Nat.pow_succ]
      omega
  have := key s (64 * w + j) (by rw [tb_word hj, if_pos hs]; exact hb)
  omega
theorem clr_hi {w j s : Nat} (hw : w < 1024) (hj : j < 64) (h6 : 6 ≤ s) (hs : s < 16) (hb : w.testBit (s - 6) = true) : clr (64 * w + j) s = 64 * clr w (s - 6) + j := by
  apply Nat.eq_of_testBit_eq
  intro i
  rw [clr_bit (by rw [tb_word hj, if_neg (by omega)]; exact hb), tb_word hj, tb_word hj]
  by_cases e : i < 6
  · rw [if_pos e, if_pos e, decide_eq_false (by omega)]
    simp
  · rw [if_neg e, if_neg e, clr_bit hb]
    by_cases e2 : i = s
    · subst e2
      simp
    · rw [decide_eq_false e2, decide_eq_false (by omega)]
/-- the sets that are not least, a step of theirs below s -/
def lsb (tm : St) (k w j s : Nat) : Bool := anyB (fun s => (64 * w + j).testBit s && rch tm k (clr (64 * w + j) s)) s
theorem lesser_word {tx tm t : St} (hK : RK tx tm) (hR : RR tx tm) {k s : Nat} (hk : k < nK tm) (hs : s < 16) (hf : fx [28] [] tm t) (hv : ∀ w j, w < 1024 → j < 64 → wb (gB t 28 w) j = lsb tm k w j s) (W : Int64) (hW : s < 6 → ∀ j, j < 64 → wb W j = !j.testBit s) : ∃ t', m_findLesser_J48 t (jn k) (jn s) W = some (.inl (jn (s + 1), t')) ∧ fx [28] [] tm t' ∧ ∀ w j, w < 1024 → j < 64 → wb (gB t' 28 w) j = lsb tm k w j (s + 1) := by
  have h250 := nK_lt hK
  have ck : (jn k).toNatClampNeg = k := jn_cl (by omega)
  have l := lp_cnt (b := fun y : Int32 × St => m_findLesser_B52 (jn k) (jn s) W y.1 y.2) (fun i s => (jn i, s)) 1024
    (fun i u => fx [28] [] tm u ∧ ∀ w j, w < 1024 → j < 64 → wb (gB u 28 w) j = lsb tm k w j (if w < i then s + 1 else s))
    (fun u => fx [28] [] tm u ∧ ∀ w j, w < 1024 → j < 64 → wb (gB u 28 w) j = lsb tm k w j (if w < 1024 then s + 1 else s)) (by
      rintro i u hi ⟨f1, v1⟩
      have put : ∀ (x : Int64), (∀ j, j < 64 → wb x j = lsb tm k i j (s + 1)) → fx [28] [] tm (sB u 28 (jn i) x) ∧ ∀ w j, w < 1024 → j < 64 → wb (gB (sB u 28 (jn i) x) 28 w) j = lsb tm k w j (if w < i + 1 then s + 1 else s) := by
        intro x hx
        refine ⟨f1.trans (fx_sB rfl), fun w j hw hj => ?_⟩
        show wb ((va_up u.2.2.2.1 28 (vp_updL (gB u 28) (jn i).toNatClampNeg x)) 28 w) j = _
        rw [up_at, jn_cl (by omega)]
        unfold vp_updL
        by_cases e : w = i
        · subst e
          rw [if_pos rfl, if_pos (by omega)]
          exact hx j hj
        · rw [if_neg e, v1 w j hw hj]
          congr 1
          by_cases z : w < i
          · rw [if_pos z, if_pos (by omega)]
          · rw [if_neg z, if_neg (by omega)]
      have ls1 : ∀ j, lsb tm k i j (s + 1) = (lsb tm k i j s || ((64 * i + j).testBit s && rch tm k (clr (64 * i + j) s))) := fun j => rfl
      dsimp only
      unfold m_findLesser_B52
      rw [if_neg (show ¬ (1024 : Int32) ≤ jn i from fun e => by have := (jn_le (a := 1024) (by omega) (by omega)).mp e; omega)]
      by_cases h6 : 6 ≤ s
      · rw [if_pos (jge (x := 6) 6 rfl h6 (by omega)), isIn_hi u 0 hi h6 hs, bs]
        cases hb : i.testBit (s - 6) with
        | false =>
          rw [if_pos (show (if false = true then (1 : Int32) else 0) = 0 from rfl)]
          simp only [nm, jn_s]
          refine ⟨u, rfl, f1, fun w j hw hj => ?_⟩
          rw [v1 w j hw hj]
          by_cases e : w = i
          · subst e
            rw [if_neg (by omega), if_pos (by omega), ls1, tb_word hj, if_neg (by omega), hb, Bool.false_and, Bool.or_false]
          · congr 1
            by_cases z : w < i
            · rw [if_pos z, if_pos (by omega)]
            · rw [if_neg z, if_neg (by omega)]
        | true =>
          have cl := clr_lt hb
          rw [if_neg (show ¬ (if true = true then (1 : Int32) else 0) = 0 by decide), gd_jn (by omega) (by omega), show jn s - 6 = jn (s - 6) from jn_sub (a := s) (b := 6) h6, jn_clr (by omega) (by omega) hb, show (1024 : Int32) = jn 1024 from rfl, jn_mul, jn_add, gd_jn (by omega) (by omega), gd_jn (by omega) (by omega), jn_cl (by omega), jn_cl (by omega)]
          simp only [nm, jn_s]
          refine ⟨_, rfl, put _ fun j hj => ?_⟩
          rw [wb_or, v1 i j hi hj, if_neg (by omega), (f1.1 17 rfl).2.2.2, hR k _ j hk (by omega) hj, ls1, tb_word hj, if_neg (by omega), hb, clr_hi hi hj h6 hs hb, Bool.true_and]
      · rw [if_neg (jnge (x := 6) 6 rfl h6 (by omega) (by omega)), gd_jn (by omega) (by omega), show (1024 : Int32) = jn 1024 from rfl, jn_mul, jn_add, gd_jn (by omega) (by omega), gd_jn (by omega) (by omega), jn_cl (by omega), jn_cl (by omega), jn_shl1 s (by omega)]
        simp only [nm, jn_s]
        refine ⟨_, rfl, put _ fun j hj => ?_⟩
        have p1 : 2 ^ s ≤ 32 := Nat.pow_le_pow_right (n := 2) (i := s) (j := 5) (by omega) (by omega)
        rw [wb_or, v1 i j hi hj, if_neg (by omega), ls1, wb_shl (by omega) hj, wb_and, (f1.1 17 rfl).2.2.2]
        congr 1
        rw [tb_word hj, if_pos (by omega)]
        cases hb : j.testBit s with
        | true =>
          obtain ⟨c1, c2⟩ := clr_lo (w := i) hj (by omega) hb
          have hj2 : j - 2 ^ s < 64 := Nat.lt_of_le_of_lt (Nat.sub_le _ _) hj
          rw [decide_eq_true c2, hR k i _ hk hi hj2, hW (by omega) _ hj2, c1, Bool.true_and, Bool.true_and]
          have : (j - 2 ^ s).testBit s = false := by
            have c3 : clr j s = j - 2 ^ s := by
              have := (clr_lo (w := 0) hj (by omega) hb).1
              rw [Nat.mul_zero, Nat.zero_add, Nat.zero_add] at this
              exact this
            rw [← c3, clr_bit hb]
            simp
          rw [this]
          simp
        | false =>
          rw [Bool.false_and]
          by_cases c2 : 2 ^ s ≤ j
          · have hj2 : j - 2 ^ s < 64 := Nat.lt_of_le_of_lt (Nat.sub_le _ _) hj
            rw [decide_eq_true c2, hW (by omega) _ hj2]
            have : (j - 2 ^ s).testBit s = true := by
              have e : j = 2 ^ s + (j - 2 ^ s) := by omega
              rw [e, Nat.testBit_two_pow_add_eq] at hb
              simpa using hb
            rw [this]
            simp
          · rw [decide_eq_false c2, Bool.false_and]) (by
      rintro u ⟨f1, v1⟩
      refine ⟨u, ?_, f1, v1⟩
      dsimp only
      unfold m_findLesser_B52
      rw [if_pos (by decide)]) 0 t (by omega) ⟨hf, fun w j hw hj => by rw [if_neg (by omega)]; exact hv w j hw hj⟩
  obtain ⟨u, k1, f1, v1⟩ := l
  refine ⟨u, ?_, f1, fun w j hw hj => by rw [v1 w j hw hj, if_pos hw]⟩
  unfold m_findLesser_J48
  rw [show (0 : Int32) = jn 0 from rfl, k1, bs]
  simp only [nm, jn_s]
theorem findLesser_eq {tx tm : St} (hK : RK tx tm) (hR : RR tx tm) {k : Nat} (hk : k < nK tm) : ∃ t', m_findLesser tm (jn k) = some t' ∧ fx [28] [] tm t' ∧ ∀ w j, w < 1024 → j < 64 → wb (gB t' 28 w) j = lss tm k (64 * w + j) := by
  have l1 := lp_cnt (b := fun y : Int32 × St => m_findLesser_B2 (jn k) y.1 y.2) (fun i s => (jn i, s)) 1024
    (fun i u => fx [28] [] tm u ∧ ∀ w, w < i → gB u 28 w = 0)
    (fun u => fx [28] [] tm u ∧ ∀ w, w < 1024 → gB u 28 w = 0) (by
      rintro i u hi ⟨f1, v1⟩
      refine ⟨sB u 28 (jn i) 0, ?_, f1.trans (fx_sB rfl), fun w hw => ?_⟩
      · dsimp only
        unfold m_findLesser_B2
        rw [if_neg (show ¬ (1024 : Int32) ≤ jn i from fun e => by have := (jn_le (a := 1024) (by omega) (by omega)).mp e; omega), gd_jn (by omega) (by omega)]
        simp only [nm, jn_s]
      · show (va_up u.2.2.2.1 28 (vp_updL (gB u 28) (jn i).toNatClampNeg 0)) 28 w = _
        rw [up_at, jn_cl (by omega)]
        unfold vp_updL
        by_cases e : w = i
        · rw [if_pos e]
        · rw [if_neg e]; exact v1 w (by omega)) (by
      rintro u hu
      exact ⟨u, by dsimp only; unfold m_findLesser_B2; rw [if_pos (by decide)], hu⟩) 0 tm (by omega) ⟨fx.rfl, fun w hw => absurd hw (by omega)⟩
  obtain ⟨u0, k1, f1, v1⟩ := l1
  have l2 := lp_cnt (b := fun y : Int32 × St => m_findLesser_B24 (jn k) y.1 y.2) (fun i s => (jn i, s)) 16
    (fun i u => fx [28] [] tm u ∧ ∀ w j, w < 1024 → j < 64 → wb (gB u 28 w) j = lsb tm k w j i)
    (fun u => fx [28] [] tm u ∧ ∀ w j, w < 1024 → j < 64 → wb (gB u 28 w) j = lsb tm k w j 16) (by
      rintro i u hi ⟨f2, v2⟩
      dsimp only
      unfold m_findLesser_B24
      rw [if_neg (show ¬ (16 : Int32) ≤ jn i from fun e => by have := (jn_le (a := 16) (by omega) (by omega)).mp e; omega)]
      by_cases h6 : 6 ≤ i
      · rw [if_pos (jge (x := 6) 6 rfl h6 (by omega))]
        exact lesser_word hK hR hk hi f2 v2 0 (fun h => by omega)
      · rw [if_neg (jnge (x := 6) 6 rfl h6 (by omega) (by omega))]
        obtain ⟨v, p1, p2⟩ := pattern_eq u (s := i) (by omega)
        rw [p1, bs]
        exact lesser_word hK hR hk hi f2 v2 _ (fun _ j hj => by rw [wb_not hj, p2 j hj])) (by
      rintro u hu
      exact ⟨u, by dsimp only; unfold m_findLesser_B24; rw [if_pos (by decide)], hu⟩) 0 u0 (by omega) ⟨f1, fun w j hw hj => by rw [v1 w hw, wb_0]; rfl⟩
  obtain ⟨u, k2, f2, v2⟩ := l2
  refine ⟨u, ?_, f2, v2⟩
  unfold m_findLesser
  rw [show (0 : Int32) = jn 0 from rfl, k1, bs, k2, bs]
