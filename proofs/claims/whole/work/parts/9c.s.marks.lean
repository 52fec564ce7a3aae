/-! Marks of ways: may and ask. -/
def mkN (tm : St) (set : Nat) : Nat := orr (fun s => if set.testBit s then vN tm 3 s else 0) 16
theorem mkN_lt {tx tm : St} (h : RH tx tm) (set : Nat) : ∀ n, n ≤ 16 → orr (fun s => if set.testBit s then vN tm 3 s else 0) n < 2 ^ 8 := fun n hn => orr_lt (w := 8) fun s hs => by
  have := (vN_ok h (show s < 16 by omega) (show 3 < 5 by omega)).2.1
  have e : hhi 3 = 255 := rfl
  have e2 : (2 : Nat) ^ 8 = 256 := rfl
  split <;> omega
theorem m_marksOf_eq {tx tm t : St} (h : RH tx tm) (h3 : gA t 3 = gA tm 3) {set : Nat} (hs : set < 65536) : m_marksOf t (jn set) = some (jn (mkN tm set)) := by
  have l := lp_cnt (b := fun y : Int32 × Int32 => m_marksOf_B4 t (jn set) y.1 y.2) (fun i z => (z, jn i)) 16
    (fun i z => z = jn (orr (fun s => if set.testBit s then vN tm 3 s else 0) i))
    (fun z => z = jn (mkN tm set)) (by
      rintro i z hi rfl
      have v := (vN_ok h hi (show 3 < 5 by omega)).1
      have st : orr (fun s => if set.testBit s then vN tm 3 s else 0) (i + 1) = orr (fun s => if set.testBit s then vN tm 3 s else 0) i ||| (if set.testBit i then vN tm 3 i else 0) := rfl
      refine ⟨_, ?_, rfl⟩
      dsimp only
      unfold m_marksOf_B4
      rw [if_neg (jnge (x := 16) 16 rfl (by omega) (by omega) (by omega)), st]
      cases hb : set.testBit i with
      | true =>
        rw [if_pos ((bit_iff (by omega) (by omega)).mpr hb), if_pos rfl, gd_jn (by omega) (by omega), jn_cl (by omega), h3, v]
        simp only [nm, jn_s, jn_or]
      | false =>
        rw [if_neg (fun e => by rw [(bit_iff (by omega) (by omega)).mp e] at hb; cases hb)]
        simp only [nm, jn_s]
        rw [show (0 : Int32) = jn 0 from rfl, jn_or]
        rfl) (by
      rintro z rfl
      exact ⟨_, by dsimp only; unfold m_marksOf_B4; rw [if_pos (by decide)]; rfl, rfl⟩) 0 (jn 0) (by omega) rfl
  obtain ⟨z, k1, rfl⟩ := l
  unfold m_marksOf
  rw [show ((0 : Int32), (0 : Int32)) = (jn 0, jn 0) from rfl, k1, bs]
theorem x_marksOf_eq {tx tm t : St} (h : RH tx tm) (hN : gN t 500 = 80) (h5 : gA t 500 = gA tx 500) {set : Nat} (hs : set < 65536) : x5_marksOf t (jn set) = some (jn (mkN tm set)) := by
  have l := lp_cnt (b := fun y : Int32 × Int32 => x5_marksOf_B4 t (jn set) y.1 y.2) (fun i z => (z, jn i)) 16
    (fun i z => z = jn (orr (fun s => if set.testBit s then vN tm 3 s else 0) i))
    (fun z => z = jn (mkN tm set)) (by
      rintro i z hi rfl
      have v := (vN_ok h hi (show 3 < 5 by omega)).2.2
      have st : orr (fun s => if set.testBit s then vN tm 3 s else 0) (i + 1) = orr (fun s => if set.testBit s then vN tm 3 s else 0) i ||| (if set.testBit i then vN tm 3 i else 0) := rfl
      refine ⟨_, ?_, rfl⟩
      dsimp only
      unfold x5_marksOf_B4
      rw [if_neg (jnge (x := 16) 16 rfl (by omega) (by omega) (by omega)), st]
      cases hb : set.testBit i with
      | true =>
        rw [if_pos ((bit_iff (by omega) (by omega)).mpr hb), if_pos rfl, show x5_get t (jn i) 3 = _ from x5_at (w := 3) hN hi (by omega), h5, v, bs]
        simp only [nm, jn_s, jn_or]
      | false =>
        rw [if_neg (fun e => by rw [(bit_iff (by omega) (by omega)).mp e] at hb; cases hb)]
        simp only [nm, jn_s]
        rw [if_neg (by decide), Nat.or_zero]) (by
      rintro z rfl
      exact ⟨_, by dsimp only; unfold x5_marksOf_B4; rw [if_pos (by decide)]; rfl, rfl⟩) 0 (jn 0) (by omega) rfl
  obtain ⟨z, k1, rfl⟩ := l
  unfold x5_marksOf
  rw [show ((0 : Int32), (0 : Int32)) = (jn 0, jn 0) from rfl, k1, bs]
def okM (s m k : Nat) : Bool := decide (k &&& s = s) && decide (k &&& m = 0)
def okI (tm : St) (l : List Nat) (s m i : Nat) : Bool := okM s m (mkN tm (l.getD i 0))
theorem mayBe_eq {tx tm t : St} (h : RH tx tm) (h3 : gA t 3 = gA tm 3) {l : List Nat} (hl : LsIs t l) (hlt : ∀ i, i < l.length → l.getD i 0 < 65536) {s m : Nat} (hs : s < 65536) (hm : m < 65536) : m_mayBe t (jn s) (jn m) = some (jn (cntB (okI tm l s m) l.length)) := by
  have len := hl.2.1
  have lo := lp_cnt (b := fun y : Int32 × Int32 => m_mayBe_B5 t (jn s) (jn m) y.1 y.2) (fun i z => (z, jn i)) l.length
    (fun i z => z = jn (cntB (okI tm l s m) i))
    (fun z => z = jn (cntB (okI tm l s m) l.length)) (by
      rintro i z hi rfl
      have mk := mkN_lt h (l.getD i 0) 16 (Nat.le_refl _)
      have mk2 : mkN tm (l.getD i 0) < 256 := mk
      have a1 : mkN tm (l.getD i 0) &&& s < 65536 := Nat.lt_of_le_of_lt Nat.and_le_right hs
      have a2 : mkN tm (l.getD i 0) &&& m < 65536 := Nat.lt_of_le_of_lt Nat.and_le_right hm
      have st : cntB (okI tm l s m) (i + 1) = cntB (okI tm l s m) i + (if okI tm l s m i then 1 else 0) := rfl
      have e0 : m_mayBe_J47 t (jn s) (jn m) (jn i) (jn (cntB (okI tm l s m) i)) = some (.inl (jn (cntB (okI tm l s m) i), jn (i + 1))) := by
        unfold m_mayBe_J47
        simp only [nm, jn_s]
        rw [show (0 : Int32) = jn 0 from rfl, jn_add]
        rfl
      refine ⟨_, ?_, rfl⟩
      dsimp only
      unfold m_mayBe_B5
      rw [hl.1, if_neg (nle hi (by omega)), gd_jn (by omega) (by omega), jn_cl (by omega), hl.2.2 i hi, m_marksOf_eq h h3 (hlt i hi), bs, jn_and, jn_and, e0, st]
      unfold okI okM
      by_cases c1 : mkN tm (l.getD i 0) &&& s = s
      · rw [if_pos (by rw [c1]), decide_eq_true c1]
        by_cases c2 : mkN tm (l.getD i 0) &&& m = 0
        · rw [if_pos (show jn (mkN tm (l.getD i 0) &&& m) = 0 by rw [c2]; rfl), decide_eq_true c2]
          simp only [nm, jn_s]
          rfl
        · rw [if_neg (jn_nz c2 (by omega)), decide_eq_false c2]
          rfl
      · rw [if_neg (fun e => c1 ((jn_inj (by omega) (by omega)).mp e)), decide_eq_false c1]
        rfl) (by
      rintro z rfl
      exact ⟨_, by dsimp only; unfold m_mayBe_B5; rw [hl.1, if_pos (lee (by omega))], rfl⟩) 0 (jn 0) (by omega) rfl
  obtain ⟨z, k1, rfl⟩ := lo
  unfold m_mayBe
  rw [show ((0 : Int32), (0 : Int32)) = (jn 0, jn 0) from rfl, k1, bs]
/-- marks of the ways that may have been gone -/
def mkL (tm : St) (l : List Nat) (s m : Nat) : Nat → List Nat
  | 0 => []
  | i + 1 => if okI tm l s m i then mkL tm l s m i ++ [mkN tm (l.getD i 0)] else mkL tm l s m i
theorem mkL_s (tm : St) (l : List Nat) (s m i : Nat) : mkL tm l s m (i + 1) = if okI tm l s m i then mkL tm l s m i ++ [mkN tm (l.getD i 0)] else mkL tm l s m i := rfl
theorem mkL_len (tm : St) (l : List Nat) (s m : Nat) : ∀ n, (mkL tm l s m n).length = cntB (okI tm l s m) n := by
  intro n
  induction n with
  | zero => rfl
  | succ n ih =>
    rw [mkL_s]
    show _ = cntB (okI tm l s m) n + (if okI tm l s m n then 1 else 0)
    split
    · rw [List.length_append, ih]; rfl
    · rw [ih, Nat.add_zero]
theorem mkL_cnt (tm : St) (l : List Nat) (s m b : Nat) : ∀ n, cntB (fun j => ((mkL tm l s m n).getD j 0).testBit b) (mkL tm l s m n).length = cntB (fun i => okI tm l s m i && (mkN tm (l.getD i 0)).testBit b) n := by
  intro n
  induction n with
  | zero => rfl
  | succ n ih =>
    have st : cntB (fun i => okI tm l s m i && (mkN tm (l.getD i 0)).testBit b) (n + 1) = cntB (fun i => okI tm l s m i && (mkN tm (l.getD i 0)).testBit b) n + (if (okI tm l s m n && (mkN tm (l.getD n 0)).testBit b) then 1 else 0) := rfl
    rw [st, ← ih, mkL_s]
    cases okI tm l s m n with
    | true =>
      rw [if_pos rfl, List.length_append, Bool.true_and]
      show cntB _ ((mkL tm l s m n).length + 1) = _
      have : cntB (fun j => ((mkL tm l s m n ++ [mkN tm (l.getD n 0)]).getD j 0).testBit b) ((mkL tm l s m n).length + 1) = cntB (fun j => ((mkL tm l s m n ++ [mkN tm (l.getD n 0)]).getD j 0).testBit b) (mkL tm l s m n).length + (if ((mkL tm l s m n ++ [mkN tm (l.getD n 0)]).getD (mkL tm l s m n).length 0).testBit b then 1 else 0) := rfl
      rw [this, getD_r, cntB_cong (g := fun j => ((mkL tm l s m n).getD j 0).testBit b) (fun j hj => by rw [getD_l hj])]
    | false =>
      rw [if_neg (by decide), Bool.false_and, if_neg (by decide), Nat.add_zero]
theorem not_and {s k : Nat} : jn s &&& (jn k ^^^ (-1)) = jn (s ^^^ (s &&& k)) := by
  apply Int32.toBitVec.inj
  show BitVec.ofNat 32 s &&& (BitVec.ofNat 32 k ^^^ (-1 : Int32).toBitVec) = BitVec.ofNat 32 (s ^^^ (s &&& k))
  rw [bv_m1]
  apply BitVec.eq_of_getLsbD_eq
  intro i hi
  simp only [BitVec.getLsbD_and, BitVec.getLsbD_xor, BitVec.getLsbD_ofNat, BitVec.getLsbD_allOnes, hi, decide_true, Bool.true_and, Nat.testBit_xor, Nat.testBit_and, Bool.xor_true]
  cases s.testBit i <;> cases k.testBit i <;> rfl
theorem xor_and0 {s k : Nat} : s ^^^ (s &&& k) = 0 ↔ k &&& s = s := by
  constructor
  · intro h
    apply Nat.eq_of_testBit_eq
    intro i
    have := congrArg (fun x => Nat.testBit x i) h
    simp only [Nat.testBit_xor, Nat.testBit_and, Nat.zero_testBit] at this
    rw [Nat.testBit_and]
    revert this
    cases s.testBit i <;> cases k.testBit i <;> simp
  · intro h
    rw [Nat.and_comm, h, Nat.xor_self]
theorem sift_eq {tx tm t : St} (h : RH tx tm) (hN : gN t 500 = 80) (h5 : gA t 500 = gA tx 500) {l : List Nat} (hl : LxIs t l) (h2 : gN t 1002 = 200) (h8 : gN t 1008 = 200) (hlt : ∀ i, i < l.length → l.getD i 0 < 65536) {s m : Nat} (hs : s < 65536) (hm : m < 65536) : ∃ t', x10_sift t (jn s) (jn m) = some (jn (cntB (okI tm l s m) l.length), t') ∧ fx [1008] [] t t' ∧ ∀ j, j < cntB (okI tm l s m) l.length → gA t' 1008 j = jn ((mkL tm l s m l.length).getD j 0) := by
  have len := hl.2.1
  have lo := lp_cnt (b := fun y : Int32 × Int32 × St => x10_sift_B5 (jn s) (jn m) y.1 y.2.1 y.2.2) (fun i z => (z.1, jn i, z.2)) l.length
    (fun i z => z.1 = jn (cntB (okI tm l s m) i) ∧ fx [1008] [] t z.2 ∧ ∀ j, j < cntB (okI tm l s m) i → gA z.2 1008 j = jn ((mkL tm l s m i).getD j 0))
    (fun z => z.1 = jn (cntB (okI tm l s m) l.length) ∧ fx [1008] [] t z.2 ∧ ∀ j, j < cntB (okI tm l s m) l.length → gA z.2 1008 j = jn ((mkL tm l s m l.length).getD j 0)) (by
      rintro i ⟨v, u⟩ hi ⟨hv, f1, v1⟩
      dsimp only at hv f1 v1
      subst hv
      have mk := mkN_lt h (l.getD i 0) 16 (Nat.le_refl _)
      have mk2 : mkN tm (l.getD i 0) < 256 := mk
      have a0 : s ^^^ (s &&& mkN tm (l.getD i 0)) < 65536 := Nat.xor_lt_two_pow (n := 16) hs (Nat.lt_of_le_of_lt Nat.and_le_left hs)
      have a2 : m &&& mkN tm (l.getD i 0) < 65536 := Nat.lt_of_le_of_lt Nat.and_le_left hm
      have st : cntB (okI tm l s m) (i + 1) = cntB (okI tm l s m) i + (if okI tm l s m i then 1 else 0) := rfl
      have cl := cntB_le (okI tm l s m) i
      have hlen := mkL_len tm l s m i
      have skip : okI tm l s m i = false → ∃ z' : Int32 × St, (some (.inl (jn (cntB (okI tm l s m) i), jn (i + 1), u)) : Option ((Int32 × Int32 × St) ⊕ (Int32 × St))) = some (.inl (z'.1, jn (i + 1), z'.2)) ∧ z'.1 = jn (cntB (okI tm l s m) (i + 1)) ∧ fx [1008] [] t z'.2 ∧ ∀ j, j < cntB (okI tm l s m) (i + 1) → gA z'.2 1008 j = jn ((mkL tm l s m (i + 1)).getD j 0) := by
        intro hf
        rw [hf] at st
        rw [if_neg (by decide)] at st
        replace st : cntB (okI tm l s m) (i + 1) = cntB (okI tm l s m) i := st
        refine ⟨(jn (cntB (okI tm l s m) i), u), rfl, by rw [st], f1, ?_⟩
        rw [st, mkL_s, hf, if_neg (by decide)]
        exact v1
      dsimp only
      unfold x10_sift_B5
      rw [(f1.1 1004 rfl).1, hl.1, if_neg (nle hi (by omega)), f1.2 1002 rfl, h2, gd_jn (by omega) (by omega), jn_cl (by omega), (f1.1 1002 rfl).2.2.1, hl.2.2 i hi, x_marksOf_eq h ((f1.2 500 rfl).trans hN) ((f1.1 500 rfl).2.2.1.trans h5) (hlt i hi), bs, not_and, jn_and]
      by_cases c1 : mkN tm (l.getD i 0) &&& s = s
      · rw [if_pos (show jn (s ^^^ (s &&& mkN tm (l.getD i 0))) = 0 by rw [xor_and0.mpr c1]; rfl)]
        by_cases c2 : mkN tm (l.getD i 0) &&& m = 0
        · have hok : okI tm l s m i = true := by unfold okI okM; rw [decide_eq_true c1, decide_eq_true c2]; rfl
          rw [if_pos (show jn (m &&& mkN tm (l.getD i 0)) = 0 by rw [Nat.and_comm, c2]; rfl), f1.2 1008 rfl, h8, gd_jn (by omega) (by omega)]
          simp only [nm, jn_s]
          rw [hok, if_pos rfl] at st
          refine ⟨(jn (cntB (okI tm l s m) i + 1), sA u 1008 (jn (cntB (okI tm l s m) i)) (jn (mkN tm (l.getD i 0)))), rfl, by rw [st], f1.trans (fx_sA rfl), fun j hj => ?_⟩
          show gA (sA u 1008 _ _) 1008 j = _
          rw [gA_sA, jn_cl (by omega), mkL_s, hok, if_pos rfl]
          rw [st] at hj
          by_cases e : j = cntB (okI tm l s m) i
          · subst e
            rw [upd_at, ← hlen, getD_r]
          · rw [upd_ne e, getD_l (by omega)]
            exact v1 j (by omega)
        · have hok : okI tm l s m i = false := by unfold okI okM; rw [decide_eq_false c2, Bool.and_false]
          rw [if_neg (show ¬ jn (m &&& mkN tm (l.getD i 0)) = 0 from jn_nz (by rw [Nat.and_comm]; exact c2) (by omega))]
          simp only [nm, jn_s]
          exact skip hok
      · have hok : okI tm l s m i = false := by unfold okI okM; rw [decide_eq_false c1, Bool.false_and]
        rw [if_neg (show ¬ jn (s ^^^ (s &&& mkN tm (l.getD i 0))) = 0 from jn_nz (fun e => c1 (xor_and0.mp e)) (by omega))]
        simp only [nm, jn_s]
        exact skip hok) (by
      rintro ⟨v, u⟩ ⟨hv, f1, v1⟩
      exact ⟨(v, u), by dsimp only; unfold x10_sift_B5; rw [(f1.1 1004 rfl).1, hl.1, if_pos (lee (by omega))], hv, f1, v1⟩) 0 (0, t) (by omega) ⟨rfl, fx.rfl, fun j hj => absurd hj (Nat.not_lt_zero j)⟩
  obtain ⟨⟨v, u⟩, k1, hv, f1, v1⟩ := lo
  dsimp only at hv f1 v1
  subst hv
  refine ⟨u, ?_, f1, v1⟩
  unfold x10_sift
  rw [show ((0 : Int32), (0 : Int32), t) = (((0 : Int32), jn 0, t) : Int32 × Int32 × St) from rfl, k1, bs]
