/-! Bits of a word one by one; how many least sets; their list. -/
theorem low_nat {n : Nat} (hn : 0 < n) : ∃ b, n.testBit b = true ∧ (∀ j, j < b → n.testBit j = false) ∧ ∀ j, (n &&& (n - 1)).testBit j = (n.testBit j && !decide (j = b)) := by
  induction n using Nat.strongRecOn with
  | _ n ih =>
    rcases Nat.mod_two_eq_zero_or_one n with h | h
    · obtain ⟨b, h1, h2, h3⟩ := ih (n / 2) (by omega) (by omega)
      refine ⟨b + 1, by rw [Nat.testBit_succ]; exact h1, fun j hj => ?_, fun j => ?_⟩
      · cases j with
        | zero => rw [Nat.testBit_zero, h]; rfl
        | succ j => rw [Nat.testBit_succ]; exact h2 j (by omega)
      · cases j with
        | zero => rw [Nat.testBit_and, Nat.testBit_zero, h]; rfl
        | succ j =>
          have e : (n - 1) / 2 = n / 2 - 1 := by omega
          rw [Nat.testBit_and, Nat.testBit_succ, Nat.testBit_succ, e, ← Nat.testBit_and, h3 j]
          have : (decide (j + 1 = b + 1)) = decide (j = b) := by simp
          rw [this]
    · refine ⟨0, by rw [Nat.testBit_zero, h]; rfl, fun j hj => absurd hj (by omega), fun j => ?_⟩
      cases j with
      | zero => rw [Nat.testBit_and, Nat.testBit_zero, Nat.testBit_zero, show (n - 1) % 2 = 0 by omega]; simp
      | succ j =>
        have e : (n - 1) / 2 = n / 2 := by omega
        rw [Nat.testBit_and, Nat.testBit_succ, Nat.testBit_succ, e, Bool.and_self]
        simp
theorem wb_nat (x : Int64) (j : Nat) : wb x j = x.toBitVec.toNat.testBit j := rfl
theorem low_bit {x : Int64} (h : ¬ lg_cmp x 0 = 0) : ∃ b, b < 64 ∧ wb x b = true ∧ (∀ j, j < b → wb x j = false) ∧ ∀ j, wb (x &&& (x - 1)) j = (wb x j && !decide (j = b)) := by
  have h0 : 0 < x.toBitVec.toNat := by
    rcases Nat.eq_zero_or_pos x.toBitVec.toNat with e | e
    · exact absurd (lcmp_iff.mpr (Int64.toBitVec.inj (BitVec.eq_of_toNat_eq e))) h
    · exact e
  obtain ⟨b, h1, h2, h3⟩ := low_nat h0
  have hb : b < 64 := by
    by_cases q : b < 64
    · exact q
    · have := Nat.testBit_lt_two_pow (x := x.toBitVec.toNat) (i := b) (Nat.lt_of_lt_of_le x.toBitVec.isLt (Nat.pow_le_pow_right (by omega) (by omega)))
      rw [this] at h1
      cases h1
  refine ⟨b, hb, h1, h2, fun j => ?_⟩
  have e : (x &&& (x - 1)).toBitVec.toNat = x.toBitVec.toNat &&& (x.toBitVec.toNat - 1) := by
    show (x.toBitVec &&& (x.toBitVec - 1#64)).toNat = _
    rw [BitVec.toNat_and, BitVec.toNat_sub]
    congr 1
    have := x.toBitVec.isLt
    rw [show (1#64).toNat = 1 from rfl]
    omega
  rw [wb_nat, e, h3]
  rfl
theorem none_bit {x : Int64} (h : lg_cmp x 0 = 0) (j : Nat) : wb x j = false := by
  rw [lcmp_iff.mp h]
  exact wb_0 j
/-- how many bits a word has -/
def wcn (x : Int64) : Nat := cntB (wb x) 64
theorem smm_split {f g h : Nat → Nat} {n : Nat} (e : ∀ i, i < n → f i = g i + h i) : smm f n = smm g n + smm h n := by
  induction n with
  | zero => rfl
  | succ n ih =>
    show smm f n + f n = smm g n + g n + (smm h n + h n)
    rw [ih (fun i hi => e i (by omega)), e n (by omega)]
    omega
theorem smm_one1 {b n : Nat} (hb : b < n) : smm (fun i => if i = b then 1 else 0) n = 1 := by
  rw [smm_one, if_pos hb]
theorem wcn_less {x y : Int64} {b : Nat} (hb : b < 64) (h1 : wb x b = true) (h3 : ∀ j, wb y j = (wb x j && !decide (j = b))) : wcn x = wcn y + 1 := by
  unfold wcn cntB
  refine Eq.trans (smm_split (g := fun i => if wb y i then 1 else 0) (h := fun i => if i = b then 1 else 0) fun i _ => ?_) (by rw [smm_one1 hb])
  rw [h3]
  by_cases e : i = b
  · subst e
    rw [h1]
    simp
  · rw [decide_eq_false e]
    simp [e]
theorem wcn_0 {x : Int64} (h : lg_cmp x 0 = 0) : wcn x = 0 := by
  have := cntB_dn (g := wb x) (n := 64) (m := 0) (fun i _ _ => none_bit h i)
  unfold wcn
  omega
theorem count_word (t : St) (v1 v3 : Int32) : ∀ n (x : Int64) c, wcn x = n → lp (fun y : Int32 × Int64 => m_countWays_B51 t v1 v3 y.1 y.2) (jn c, x) = some (jn (c + wcn x)) := by
  intro n
  induction n with
  | zero =>
    intro x c h
    have h0 : lg_cmp x 0 = 0 := by
      by_cases q : lg_cmp x 0 = 0
      · exact q
      · obtain ⟨b, hb, h1, -, h3⟩ := low_bit q
        have := wcn_less hb h1 h3
        omega
    rw [h]
    exact lp_r (by dsimp only; unfold m_countWays_B51; rw [if_pos h0]; rfl)
  | succ n ih =>
    intro x c h
    have q : ¬ lg_cmp x 0 = 0 := fun e => by have := wcn_0 e; omega
    obtain ⟨b, hb, h1, -, h3⟩ := low_bit q
    have := wcn_less hb h1 h3
    rw [lp_l (x := (jn c, x)) (x' := (jn (c + 1), x &&& (x - 1))) (by
      dsimp only
      unfold m_countWays_B51
      rw [if_neg q]
      simp only [nm, jn_s]), ih _ (c + 1) (by omega)]
    congr 2
    omega
theorem wcn_le (x : Int64) : wcn x ≤ 64 := cntB_le _ _
theorem cntB_words (f : Nat → Bool) : ∀ W, cntB f (64 * W) = smm (fun w => cntB (fun j => f (64 * w + j)) 64) W := by
  have add : ∀ n m, cntB f (n + m) = cntB f n + cntB (fun j => f (n + j)) m := by
    intro n m
    induction m with
    | zero => rfl
    | succ m ih =>
      show cntB f (n + m) + (if f (n + m) then 1 else 0) = cntB f n + (cntB (fun j => f (n + j)) m + (if f (n + m) then 1 else 0))
      rw [ih, Nat.add_assoc]
  intro W
  induction W with
  | zero => rfl
  | succ W ih =>
    rw [show 64 * (W + 1) = 64 * W + 64 by omega, add, ih]
    rfl
/-- how many least sets a knot has -/
def cnw (tm : St) (k : Nat) : Nat := cntB (mw tm k) 65536
def leastRow (tm : St) (k : Nat) (x : Int64) (w : Nat) : Prop := ∀ j, j < 64 → wb x j = mw tm k (64 * w + j)
theorem lw_word {tm : St} {k w : Nat} {v : Int64} (h1 : ∀ j, j < 64 → wb v j = rch tm k (64 * w + j)) {l : Int64} (h2 : ∀ j, j < 64 → wb l j = lss tm k (64 * w + j)) : leastRow tm k (v &&& (l ^^^ (-1))) w := by
  intro j hj
  rw [wb_and, wb_not hj, h1 j hj, h2 j hj]
  rfl
theorem wcn_mw {tm : St} {k w : Nat} {x : Int64} (h : leastRow tm k x w) : wcn x = cntB (fun j => mw tm k (64 * w + j)) 64 := cntB_cong h
/-- the cache of counts -/
def RC (tm : St) : Prop := ∀ k, k < nK tm → gA tm 18 k = -1 ∨ gA tm 18 k = jn (cnw tm k)
theorem cnw_to {t t' : St} (h : rch t' = rch t) (k : Nat) : cnw t' k = cnw t k := by
  unfold cnw mw lss
  rw [h]
theorem rch_fx {S T : List Nat} {t t' : St} (h : fx S T t t') (h1 : (S.elem 8 || S.elem 9 || S.elem 10 || S.elem 11 || S.elem 12 || S.elem 14) = false := by rfl) : rch t' = rch t := by
  simp only [Bool.or_eq_false_iff] at h1
  exact rch_to (h.1 8 h1.1.1.1.1.1).2.2.1 (h.1 9 h1.1.1.1.1.2).2.2.1 (h.1 10 h1.1.1.1.2).2.2.1 (h.1 11 h1.1.1.2).2.2.1 (h.1 12 h1.1.2).2.2.1 (h.1 14 h1.2).2.2.1
theorem cnw_le (tm : St) (k : Nat) : cnw tm k ≤ 65536 := cntB_le _ _
theorem countWays_eq {tx tm : St} (hK : RK tx tm) (hR : RR tx tm) (hC : RC tm) {k : Nat} (hk : k < nK tm) : ∃ t', m_countWays tm (jn k) = some (jn (cnw tm k), t') ∧ fx [18, 28] [] tm t' ∧ RC t' ∧ ∀ j, gA t' 18 j = if j = k then jn (cnw tm k) else gA tm 18 j := by
  have h250 := nK_lt hK
  have g : ∀ {α : Type} (x : Option α), gd (jn k) 250 x = x := fun x => gd_jn (by omega) (by omega)
  have ck : (jn k).toNatClampNeg = k := jn_cl (by omega)
  unfold m_countWays
  rw [g, ck]
  rcases hC k hk with e | e
  · rw [if_pos e]
    obtain ⟨u, k1, f1, v1⟩ := findLesser_eq hK hR hk
    rw [k1, bs]
    have l := lp_cnt (b := fun y : Int32 × Int32 => m_countWays_B19 u (jn k) y.1 y.2) (fun i z => (z, jn i)) 1024
      (fun i z => z = jn (cntB (mw tm k) (64 * i)))
      (fun z => z = jn (cntB (mw tm k) (64 * 1024))) (by
        rintro i z hi rfl
        have hl : leastRow tm k (gB u 17 (1024 * k + i) &&& (gB u 28 i ^^^ (-1))) i := lw_word (fun j hj => by rw [(f1.1 17 rfl).2.2.2]; exact hR k i j hk hi hj) (fun j hj => v1 i j hi hj)
        refine ⟨_, ?_, rfl⟩
        dsimp only
        unfold m_countWays_B19
        rw [if_neg (show ¬ (1024 : Int32) ≤ jn i from fun e => by have := (jn_le (a := 1024) (by omega) (by omega)).mp e; omega), show (1024 : Int32) = jn 1024 from rfl, jn_mul, jn_add, gd_jn (by omega) (by omega), gd_jn (by omega) (by omega), jn_cl (by omega), jn_cl (by omega)]
        simp only [nm]
        rw [count_word u (jn k) (jn i) _ _ _ rfl, bs, wcn_mw hl, jn_s, cntB_words, cntB_words]
        rfl) (by
        rintro z rfl
        exact ⟨_, by dsimp only; unfold m_countWays_B19; rw [if_pos (by decide)], rfl⟩) 0 (jn 0) (by omega) rfl
    obtain ⟨z, k2, rfl⟩ := l
    rw [show ((0 : Int32), (0 : Int32)) = (jn 0, jn 0) from rfl, k2, bs, g]
    simp only [nm]
    have f2 : fx [18, 28] [] tm (sA u 18 (jn k) (jn (cntB (mw tm k) (64 * 1024)))) := (f1.wk rfl rfl).trans (fx_sA rfl)
    have a18 : gA (sA u 18 (jn k) (jn (cntB (mw tm k) (64 * 1024)))) 18 = upd (gA tm 18) k (jn (cnw tm k)) := by
      rw [gA_sA, ck, (f1.1 18 rfl).2.2.1]
      rfl
    rw [g, a18, upd_at]
    refine ⟨_, rfl, f2, fun i hi => ?_, fun i => ?_⟩
    · rw [nK_fr f2] at hi
      rw [a18, cnw_to (rch_fx f2)]
      by_cases z : i = k
      · subst z
        rw [upd_at]; exact Or.inr rfl
      · rw [upd_ne z]; exact hC i hi
    · rw [a18]
      by_cases z : i = k
      · subst z
        rw [upd_at, if_pos rfl]
      · rw [upd_ne z, if_neg z]
  · rw [if_neg (by rw [e]; exact jn_ne1 (by have := cnw_le tm k; omega)), g, e]
    refine ⟨tm, rfl, fx.rfl, hC, fun j => ?_⟩
    by_cases z : j = k
    · rw [if_pos z, z, e]
    · rw [if_neg z]
/-! the list -/
def wlS (P : Nat → Bool) : Nat → List Nat
  | 0 => []
  | n + 1 => if P n then wlS P n ++ [n] else wlS P n
def wlA (P : Nat → Bool) : Nat → List Nat
  | 0 => []
  | m + 1 => wlA P m ++ wlS (fun x => P x && decide (popc 16 x = m)) 65536
/-- the ways, in their order -/
def wyl (tm : St) (k : Nat) : List Nat := wlA (mw tm k) 17
theorem wlS_s (P : Nat → Bool) (n : Nat) : wlS P (n + 1) = if P n then wlS P n ++ [n] else wlS P n := rfl
theorem getD_l {l m : List Nat} {i : Nat} (h : i < l.length) : (l ++ m).getD i 0 = l.getD i 0 := by
  rw [List.getD_eq_getElem?_getD, List.getD_eq_getElem?_getD, List.getElem?_append_left h]
theorem getD_r {l : List Nat} {x : Nat} : (l ++ [x]).getD l.length 0 = x := by simp
theorem wlS_len (P : Nat → Bool) : ∀ n, (wlS P n).length = cntB P n := by
  intro n
  induction n with
  | zero => rfl
  | succ n ih =>
    show (if P n then wlS P n ++ [n] else wlS P n).length = cntB P n + (if P n then 1 else 0)
    split
    · rw [List.length_append, ih]; rfl
    · rw [ih, Nat.add_zero]
theorem wlS_mem {P : Nat → Bool} {x : Nat} : ∀ n, x ∈ wlS P n ↔ x < n ∧ P x = true := by
  intro n
  induction n with
  | zero => exact ⟨fun h => absurd h List.not_mem_nil, fun h => by omega⟩
  | succ n ih =>
    show x ∈ (if P n then wlS P n ++ [n] else wlS P n) ↔ _
    by_cases q : P n = true
    · rw [if_pos q, List.mem_append, ih, List.mem_singleton]
      constructor
      · rintro (⟨h1, h2⟩ | rfl)
        · exact ⟨by omega, h2⟩
        · exact ⟨by omega, q⟩
      · rintro ⟨h1, h2⟩
        by_cases e : x = n
        · exact Or.inr e
        · exact Or.inl ⟨by omega, h2⟩
    · rw [if_neg q, ih]
      constructor
      · rintro ⟨h1, h2⟩
        exact ⟨by omega, h2⟩
      · rintro ⟨h1, h2⟩
        by_cases e : x = n
        · subst e; exact absurd h2 q
        · exact ⟨by omega, h2⟩
theorem wlA_mem {P : Nat → Bool} {x : Nat} : ∀ m, x ∈ wlA P m ↔ x < 65536 ∧ P x = true ∧ popc 16 x < m := by
  intro m
  induction m with
  | zero => exact ⟨fun h => absurd h List.not_mem_nil, fun h => by omega⟩
  | succ m ih =>
    show x ∈ wlA P m ++ wlS _ 65536 ↔ _
    rw [List.mem_append, ih, wlS_mem]
    simp only [Bool.and_eq_true, decide_eq_true_eq]
    constructor
    · rintro (⟨h1, h2, h3⟩ | ⟨h1, h2, h3⟩)
      · exact ⟨h1, h2, by omega⟩
      · exact ⟨h1, h2, by omega⟩
    · rintro ⟨h1, h2, h3⟩
      by_cases e : popc 16 x = m
      · exact Or.inr ⟨h1, h2, e⟩
      · exact Or.inl ⟨h1, h2, by omega⟩
theorem popc_le : ∀ f v, popc f v ≤ f := by
  intro f
  induction f with
  | zero => intro v; exact Nat.le_refl _
  | succ f ih =>
    intro v
    have := ih (v / 2)
    show v % 2 + popc f (v / 2) ≤ f + 1
    omega
theorem wlA_len (P : Nat → Bool) : ∀ m, (wlA P m).length = cntB (fun x => P x && decide (popc 16 x < m)) 65536 := by
  intro m
  induction m with
  | zero =>
    have := cntB_dn (g := fun x => P x && decide (popc 16 x < 0)) (n := 65536) (m := 0) (fun i _ _ => by simp)
    show 0 = _
    omega
  | succ m ih =>
    show (wlA P m ++ wlS _ 65536).length = _
    rw [List.length_append, ih, wlS_len]
    symm
    refine smm_split fun x _ => ?_
    by_cases e : popc 16 x = m
    · have h1 : popc 16 x < m + 1 := by omega
      have h2 : ¬ popc 16 x < m := by omega
      cases P x <;> simp [e]
    · by_cases z : popc 16 x < m
      · have h1 : popc 16 x < m + 1 := by omega
        cases P x <;> simp [e, z, h1]
      · have h1 : ¬ popc 16 x < m + 1 := by omega
        cases P x <;> simp [e, z, h1]
theorem wyl_len (tm : St) (k : Nat) : (wyl tm k).length = cnw tm k := by
  unfold wyl cnw
  rw [wlA_len]
  exact cntB_cong fun x _ => by rw [decide_eq_true (by have := popc_le 16 x; omega), Bool.and_true]
