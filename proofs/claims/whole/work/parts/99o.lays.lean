/-! The reference lays a knot's row out: a bit for each set. -/
theorem wb_or (x y : Int64) (j : Nat) : wb (x ||| y) j = (wb x j || wb y j) := by
  show (x.toBitVec ||| y.toBitVec).getLsbD j = _
  rw [BitVec.getLsbD_or]
  rfl
theorem wb_and (x y : Int64) (j : Nat) : wb (x &&& y) j = (wb x j && wb y j) := by
  show (x.toBitVec &&& y.toBitVec).getLsbD j = _
  rw [BitVec.getLsbD_and]
  rfl
theorem wb_0 (j : Nat) : wb 0 j = false := by
  show (0#64).getLsbD j = false
  simp
theorem bv64_m1 : (-1 : Int64).toBitVec = BitVec.allOnes 64 := by decide
theorem wb_m1 {j : Nat} (h : j < 64) : wb (-1) j = true := by
  unfold wb
  rw [bv64_m1, BitVec.getLsbD_allOnes, decide_eq_true h]
theorem wb_one : ∀ q : Nat, q < 64 → ∀ j : Nat, j < 64 → wb ((1 : Int64) <<< ((jn q).toInt64 &&& 63)) j = decide (j = q) := by decide +kernel
theorem rch_to {t t' : St} (h8 : gA t' 8 = gA t 8) (h9 : gA t' 9 = gA t 9) (h10 : gA t' 10 = gA t 10) (h11 : gA t' 11 = gA t 11) (h12 : gA t' 12 = gA t 12) (h14 : gA t' 14 = gA t 14) : rch t' = rch t := by
  have e : ∀ f k set, rchF t' f k set = rchF t f k set := by
    intro f
    induction f with
    | zero => intro k set; rfl
    | succ f ih =>
      intro k set
      unfold rchF kE kS kT kD kN kP kF
      rw [h8, h9, h10, h11, h12, h14]
      simp only [ih]
  funext k set
  exact e (k + 1) k set
def RRp (t : St) (b : Nat) : Prop := ∀ k w j, k < b → w < 1024 → j < 64 → wb (gB t 17 (1024 * k + w)) j = rch t k (64 * w + j)
theorem pattern_eq (t : St) {s : Nat} (hs : s < 6) : ∃ v, m_patternOf t (jn s) = some v ∧ ∀ j, j < 64 → wb v j = j.testBit s := by
  have h := lp_cnt (b := fun x : Int64 × Int32 => m_patternOf_B4 t (jn s) x.1 x.2) (fun i v => (v, jn i)) 64
    (fun n v => ∀ j, j < 64 → wb v j = (decide (j < n) && j.testBit s))
    (fun v => ∀ j, j < 64 → wb v j = j.testBit s) (by
      rintro i v hi h1
      dsimp only
      unfold m_patternOf_B4
      have q : ¬ (64 : Int32) ≤ jn i := fun e => by have := (jn_le (a := 64) (by omega) (by omega)).mp e; omega
      rw [if_neg q]
      cases hb : i.testBit s with
      | true =>
        rw [if_pos ((bit_iff (by omega) (by omega)).mpr hb)]
        simp only [nm, jn_s]
        refine ⟨_, rfl, ?_⟩
        intro j hj
        rw [wb_or, h1 j hj, wb_one i hi j hj]
        by_cases e : j = i
        · subst e
          simp [hb]
        · have e2 : (j < i + 1) = (j < i) := by apply propext; omega
          simp [e, e2]
      | false =>
        rw [if_neg (fun e => by rw [(bit_iff (by omega) (by omega)).mp e] at hb; cases hb)]
        simp only [nm, jn_s]
        refine ⟨_, rfl, ?_⟩
        intro j hj
        rw [wb_or, wb_0, Bool.or_false, h1 j hj]
        by_cases e : j = i
        · subst e
          simp [hb]
        · have e2 : (j < i + 1) = (j < i) := by apply propext; omega
          simp [e2]) (by
      rintro v hv
      refine ⟨v, by dsimp only; unfold m_patternOf_B4; rw [if_pos (by decide)], fun j hj => ?_⟩
      rw [hv j hj, decide_eq_true hj, Bool.true_and]) 0 0 (by omega) (fun j hj => by rw [wb_0]; simp)
  obtain ⟨v, k, hv⟩ := h
  exact ⟨v, by unfold m_patternOf; rw [show ((0 : Int64), (0 : Int32)) = ((0 : Int64), jn 0) from rfl, k, bs], hv⟩
theorem isIn_eq (t : St) {w s : Nat} (hw : w < 1024) (h6 : 6 ≤ s) (hs : s < 16) : m_isIn t (jn w) 0 (jn s) = some (b01 (w.testBit (s - 6))) := by
  unfold m_isIn
  have h6' : (6 : Int32) ≤ jn s := (jn_le (a := 6) (by omega) (by omega)).mpr h6
  rw [if_pos h6', show jn s - 6 = jn (s - 6) from jn_sub (b := 6) h6]
  cases hb : w.testBit (s - 6) with
  | true => rw [if_pos ((bit_iff (by omega) (by omega)).mpr hb)]; rfl
  | false => rw [if_neg (fun e => by rw [(bit_iff (by omega) (by omega)).mp e] at hb; cases hb)]; rfl
theorem tb_low {w j s : Nat} (hj : j < 64) (hs : s < 6) : (64 * w + j).testBit s = j.testBit s := by
  have := Nat.testBit_two_pow_mul_add (i := 6) w (b := j) hj s
  rw [show (2 : Nat) ^ 6 = 64 from rfl, if_pos hs] at this
  exact this
theorem tb_high {w j s : Nat} (hj : j < 64) (hs : 6 ≤ s) : (64 * w + j).testBit s = w.testBit (s - 6) := by
  have := Nat.testBit_two_pow_mul_add (i := 6) w (b := j) hj s
  rw [show (2 : Nat) ^ 6 = 64 from rfl, if_neg (by omega)] at this
  exact this
theorem cnt_s (f : Nat → Bool) (n : Nat) : cntB f (n + 1) = cntB f n + (if f n then 1 else 0) := rfl
/-- a row's word, from its parts' words -/
theorem word_row {tx t : St} (hK : RK tx t) {k w : Nat} (hk : k < nK t) (hw : w < 1024) (hs0 : kS t k ≠ 0) (hs4 : kS t k ≠ 4) (hp : ∀ i j, i < kN t k → j < 64 → wb (gB t 17 (1024 * kP t k i + w)) j = rch t (kP t k i) (64 * w + j)) : ∃ v, m_wordOf t (jn k) (jn w) = some (v, t) ∧ ∀ j, j < 64 → wb v j = decide (kE t k ≤ cntB (fun i => rch t (kP t k i) (64 * w + j)) (kN t k)) := by
  have h250 := nK_lt hK
  obtain ⟨-, -, ⟨p1, p2, p3, p4, p5, p6⟩, hall⟩ := hK
  obtain ⟨s1, s2, s3, d1, d2, d3, h1, h2, h3, m1, m2, q1, q2⟩ := hall k hk
  obtain ⟨e1, e2, e3, e4, e5, -, -, e6, -⟩ := q2 hs0
  have g4 : ∀ {α : Type} (x : Option α), gd (jn k) 400 x = x := fun x => gd_jn (by omega) (by omega)
  have ck : (jn k).toNatClampNeg = k := jn_cl (by omega)
  -- the loop over the parts, any start
  have loop : ∀ (P : Nat → Nat → Bool) , (∀ i j v, i < kN t k → j < 64 → wb v j = P i j → wb (if kS t k = 1 then v ||| gB t 17 (1024 * kP t k i + w) else v &&& gB t 17 (1024 * kP t k i + w)) j = P (i + 1) j) → ∀ m i v, i + m = kN t k → (∀ j, j < 64 → wb v j = P i j) → ∃ v', lp (fun x : Int64 × Int32 => m_wordOf_B169 t (jn k) (jn w) (jn (kF t k + kN t k)) x.1 x.2) (v, jn (kF t k + i)) = some v' ∧ ∀ j, j < 64 → wb v' j = P (kN t k) j := by
    intro P hP m
    induction m with
    | zero =>
      intro i v hi hv
      have : i = kN t k := by omega
      subst this
      exact ⟨v, lp_r (by dsimp only; unfold m_wordOf_B169; rw [if_pos (lee (by omega))]), hv⟩
    | succ m ih =>
      intro i v hi hv
      have hi2 : i < kN t k := by omega
      obtain ⟨v1, v2, v3⟩ := e6 i hi2
      have b : (fun x : Int64 × Int32 => m_wordOf_B169 t (jn k) (jn w) (jn (kF t k + kN t k)) x.1 x.2) (v, jn (kF t k + i)) = some (.inl (if kS t k = 1 then v ||| gB t 17 (1024 * kP t k i + w) else v &&& gB t 17 (1024 * kP t k i + w), jn (kF t k + (i + 1)))) := by
        dsimp only
        unfold m_wordOf_B169
        rw [if_neg (nle (by omega) (by omega)), gd_jn (by omega) (by omega), jn_cl (by omega), v2, show (1024 : Int32) = jn 1024 from rfl, jn_mul, jn_add, gd_jn (by omega) (by omega), jn_cl (by omega), show jn (kF t k + i) + 1 = jn (kF t k + (i + 1)) from jn_add (kF t k + i) 1]
        simp only [nm, g4, ck]
        rw [s1]
        by_cases a : kS t k = 1
        · rw [a, if_pos (by decide), if_pos rfl]
        · have a' : ¬ jn (kS t k) = (1 : Int32) := fun e => a ((jn_inj (b := 1) (by omega) (by omega)).mp e)
          rw [if_neg a', if_neg a]
      rw [lp_l b]
      exact ih (i + 1) _ (by omega) (fun j hj => hP i j v hi2 hj (hv j hj))
  have pre : m_wordOf t (jn k) (jn w) = if kS t k = 1 then m_wordOf_J164 t (jn k) (jn w) (jn (kF t k)) (jn (kF t k + kN t k)) 0 else m_wordOf_J164 t (jn k) (jn w) (jn (kF t k)) (jn (kF t k + kN t k)) (-1) := by
    unfold m_wordOf
    simp only [nm, g4, ck]
    rw [s1, e3, m1, jn_add]
    have a4 : ¬ jn (kS t k) = (4 : Int32) := fun e => hs4 ((jn_inj (b := 4) (by omega) (by omega)).mp e)
    rw [if_neg a4]
    by_cases a : kS t k = 1
    · rw [a, if_pos (by decide), if_pos rfl]
    · have a' : ¬ jn (kS t k) = (1 : Int32) := fun e => a ((jn_inj (b := 1) (by omega) (by omega)).mp e)
      rw [if_neg a', if_neg a]
  rw [pre]
  unfold m_wordOf_J164
  by_cases a : kS t k = 1
  · obtain ⟨v', l1, l2⟩ := loop (fun i j => decide (1 ≤ cntB (fun i => rch t (kP t k i) (64 * w + j)) i)) (fun i j v hi hj hv => by
      rw [if_pos a, wb_or, hv, hp i j hi hj, cnt_s]
      cases rch t (kP t k i) (64 * w + j) <;> simp) (kN t k) 0 0 (by omega) (fun j hj => by rw [wb_0]; rfl)
    rw [if_pos a, show jn (kF t k) = jn (kF t k + 0) from rfl, l1, bs]
    refine ⟨v', rfl, fun j hj => ?_⟩
    rw [l2 j hj]
    unfold kE
    rw [if_pos a]
  · obtain ⟨v', l1, l2⟩ := loop (fun i j => decide (i ≤ cntB (fun i => rch t (kP t k i) (64 * w + j)) i)) (fun i j v hi hj hv => by
      rw [if_neg a, wb_and, hv, hp i j hi hj, cnt_s]
      have cl := cntB_le (fun i => rch t (kP t k i) (64 * w + j)) i
      cases rch t (kP t k i) (64 * w + j)
      · have : ¬ i + 1 ≤ cntB (fun i => rch t (kP t k i) (64 * w + j)) i := by omega
        simp [this]
      · simp) (kN t k) 0 (-1) (by omega) (fun j hj => by rw [wb_m1 hj]; simp)
    rw [if_neg a, show jn (kF t k) = jn (kF t k + 0) from rfl, l1, bs]
    refine ⟨v', rfl, fun j hj => ?_⟩
    rw [l2 j hj]
    unfold kE
    rw [if_neg a, if_neg hs4]
