/-! Diagrams: a node, on the class's side. -/
def hsX (x : Nat × Nat × Nat) : Nat := x.2.1 * 40503 + x.2.2 * 30011 + x.1
def NX (t : St) (N : List (Nat × Nat × Nat)) : Prop := gI t 3 = jn (N.length + 2) ∧ ∀ i, i < N.length → gA t 9 (i + 2) = jn (N.getD i (0, 0, 0)).1 ∧ gA t 10 (i + 2) = jn (N.getD i (0, 0, 0)).2.1 ∧ gA t 11 (i + 2) = jn (N.getD i (0, 0, 0)).2.2
def HX (t : St) (e : Nat) (N : List (Nat × Nat × Nat)) : Prop := e ≤ 13 ∧ gI t 5 = jn (2 ^ e - 1) ∧ 2 ^ e ≤ gN t 8 ∧ PrbOk 0 (2 ^ e) (gA t 8) (fun i => hsX (N.getD i (0, 0, 0))) 0 N.length
/-- nodes' levels and parts are small -/
def SmN (N : List (Nat × Nat × Nat)) : Prop := ∀ i, i < N.length → (N.getD i (0, 0, 0)).1 < 4400 ∧ (N.getD i (0, 0, 0)).2.1 < 4400 ∧ (N.getD i (0, 0, 0)).2.2 < 4400
theorem nodeFor_body {t : St} {N : List (Nat × Nat × Nat)} {e r a b : Nat} (hN : NX t N) (hH : HX t e N) (hs : SmN N) (hr : r < 4400) (ha : a < 4400) (hb : b < 4400) (hl : N.length + 2 ≤ 4400) (h9 : N.length + 2 ≤ gN t 9) (h10 : N.length + 2 ≤ gN t 10) (h11 : N.length + 2 ≤ gN t 11) {c q : Nat} (hc : c < 2 ^ e) (hq : q < 2 ^ e) {i : Nat} (hi : i < N.length) (hv : gA t 8 c = jn (i + 2)) : x0_nodeFor_B29 t (jn r) (jn a) (jn b) (jn c) (jn q) = some (if N.getD i (0, 0, 0) = (r, a, b) then .inr (.inl (jn (i + 2))) else .inl (jn ((c + 1) % 2 ^ e), jn (q + 1))) := by
  obtain ⟨he, h5, h8, -⟩ := hH
  have p13 : 2 ^ e ≤ 2 ^ 13 := Nat.pow_le_pow_right (by omega) he
  have e13 : (2 : Nat) ^ 13 = 8192 := rfl
  have p0 := Nat.two_pow_pos e
  obtain ⟨v9, v10, v11⟩ := hN.2 i hi
  obtain ⟨s1, s2, s3⟩ := hs i hi
  unfold x0_nodeFor_B29
  rw [h5, if_neg (show ¬ jn (2 ^ e - 1) < jn q from fun z => by have := (jn_lt (by omega) (by omega)).mp z; omega), gd_jn (show c < gN t 8 by omega) (by omega), jn_cl (show c < 2147483648 by omega), hv, if_neg (jn_nz (by omega) (by omega)), gd_jn (show c < gN t 8 by omega) (by omega)]
  have nxt : x0_nodeFor_J93 t (jn r) (jn a) (jn b) (jn c) (jn q) = some (.inl (jn ((c + 1) % 2 ^ e), jn (q + 1))) := by
    unfold x0_nodeFor_J93
    simp only [nm]
    rw [h5, jn_s, jn_s, jn_and, Nat.and_two_pow_sub_one_eq_mod]
  simp only [nm]
  rw [gd_jn (show i + 2 < gN t 10 by omega) (by omega), jn_cl (show i + 2 < 2147483648 by omega), v10, gd_jn (show i + 2 < gN t 11 by omega) (by omega), v11, gd_jn (show i + 2 < gN t 9 by omega) (by omega), v9, nxt]
  have hx : N.getD i (0, 0, 0) = ((N.getD i (0, 0, 0)).1, (N.getD i (0, 0, 0)).2.1, (N.getD i (0, 0, 0)).2.2) := rfl
  generalize (N.getD i (0, 0, 0)).1 = x1 at *
  generalize (N.getD i (0, 0, 0)).2.1 = x2 at *
  generalize (N.getD i (0, 0, 0)).2.2 = x3 at *
  rw [hx]
  by_cases c1 : x2 = a
  · subst c1
    rw [if_pos rfl]
    by_cases c2 : x3 = b
    · subst c2
      rw [if_pos rfl]
      by_cases c3 : x1 = r
      · subst c3
        rw [if_pos rfl, if_pos rfl]
      · rw [if_neg (fun z => c3 ((jn_inj (by omega) (by omega)).mp z)), if_neg (fun z => c3 (congrArg Prod.fst z))]
    · rw [if_neg (fun z => c2 ((jn_inj (by omega) (by omega)).mp z)), if_neg (fun z => c2 (congrArg (fun p => p.2.2) z))]
  · rw [if_neg (fun z => c1 ((jn_inj (by omega) (by omega)).mp z)), if_neg (fun z => c1 (congrArg (fun p => p.2.1) z))]
theorem mem_idx {N : List (Nat × Nat × Nat)} {x : Nat × Nat × Nat} : x ∈ N ↔ ∃ i, i < N.length ∧ N.getD i (0, 0, 0) = x := by
  constructor
  · intro h; exact ⟨_, ixn_mem h⟩
  · rintro ⟨i, hi, rfl⟩; exact getD_memN hi
theorem nodeFor_eq {t : St} {N : List (Nat × Nat × Nat)} {e r a b : Nat} (hN : NX t N) (hH : HX t e N) (hs : SmN N) (hd : N.Nodup) (hr : r < 17) (ha : a < N.length + 2) (hb : b < N.length + 2) (hl : (addN N r a b).length + 2 ≤ 4400) (hle : (addN N r a b).length < 2 ^ e) (h9 : (addN N r a b).length + 2 ≤ gN t 9) (h10 : (addN N r a b).length + 2 ≤ gN t 10) (h11 : (addN N r a b).length + 2 ≤ gN t 11) (hg : gN t 9 < 2147483648) : ∃ t', x0_nodeFor t (jn r) (jn a) (jn b) = some (jn (lk N r a b), t') ∧ fx [3, 8, 9, 10, 11] [] t t' ∧ NX t' (addN N r a b) ∧ HX t' e (addN N r a b) := by
  have ex := (addN_ext N r a b).len
  have he := hH.1
  have p13 : 2 ^ e ≤ 2 ^ 13 := Nat.pow_le_pow_right (by omega) he
  have e13 : (2 : Nat) ^ 13 = 8192 := rfl
  have p0 := Nat.two_pow_pos e
  unfold x0_nodeFor
  by_cases c : a = b
  · subst c
    rw [if_pos rfl]
    refine ⟨t, ?_, fx.rfl, ?_, ?_⟩
    · rw [show lk N r a a = a from if_pos rfl]
    · rw [show addN N r a a = N from if_pos (Or.inl rfl)]; exact hN
    · rw [show addN N r a a = N from if_pos (Or.inl rfl)]; exact hH
  · rw [if_neg (fun z => c ((jn_inj (by omega) (by omega)).mp z))]
    have start : ((jn a * 40503 + jn b * 30011 + jn r) &&& gI t 5) = jn ((hsX (r, a, b) + 0) % 2 ^ e) := by
      rw [hH.2.1, show (40503 : Int32) = jn 40503 from rfl, show (30011 : Int32) = jn 30011 from rfl, jn_mul, jn_mul, jn_add, jn_add, jn_and, Nat.and_two_pow_sub_one_eq_mod]
      simp only [hsX, Nat.add_zero]
    simp only [nm]
    rw [start]
    have P := probe (E := 0) (C := 2 ^ e) (cel := gA t 8) (key := fun i => hsX (N.getD i (0, 0, 0))) (lo := 0) (hi := N.length) (h := hsX (r, a, b)) hH.2.2.2 (by omega) (fun i hi => jn_nz (by omega) (by omega)) (by omega) (M := fun i => N.getD i (0, 0, 0) = (r, a, b)) (by
      by_cases m : (r, a, b) ∈ N
      · obtain ⟨i, i1, i2⟩ := mem_idx.mp m
        exact Or.inl ⟨i, Nat.zero_le _, i1, by rw [i2], i2, fun j _ j1 j2 => nd_at hd j1 i1 (by rw [j2, i2])⟩
      · exact Or.inr fun i _ i1 i2 => m (mem_idx.mpr ⟨i, i1, i2⟩))
    obtain ⟨k, k1, k2, k3⟩ := P
    have L := lp_cnt (b := fun x : Int32 × Int32 => x0_nodeFor_B29 t (jn r) (jn a) (jn b) x.1 x.2) (fun i (_ : Unit) => (jn ((hsX (r, a, b) + i) % 2 ^ e), jn i)) k
      (fun i _ => True)
      (fun y => (∃ i0, i0 < N.length ∧ N.getD i0 (0, 0, 0) = (r, a, b) ∧ y = .inl (jn (i0 + 2))) ∨ ((r, a, b) ∉ N ∧ gA t 8 ((hsX (r, a, b) + k) % 2 ^ e) = 0 ∧ y = .inr (jn ((hsX (r, a, b) + k) % 2 ^ e)))) (by
        rintro i ⟨⟩ hi -
        obtain ⟨j, -, j1, j2, j3⟩ := k2 i hi
        refine ⟨(), ?_, trivial⟩
        dsimp only
        rw [nodeFor_body hN hH hs (by omega) (by omega) (by omega) (by omega) (by omega) (by omega) (by omega) (Nat.mod_lt _ p0) (by omega) j1 j2, if_neg j3, Nat.mod_add_mod, Nat.add_assoc]) (by
        rintro ⟨⟩ -
        rcases k3 with ⟨i0, -, i1, i2, i3⟩ | ⟨n1, n2⟩
        · refine ⟨.inl (jn (i0 + 2)), ?_, Or.inl ⟨i0, i1, i2, rfl⟩⟩
          dsimp only
          rw [nodeFor_body hN hH hs (by omega) (by omega) (by omega) (by omega) (by omega) (by omega) (by omega) (Nat.mod_lt _ p0) (by omega) i1 i3, if_pos i2]
        · refine ⟨.inr (jn ((hsX (r, a, b) + k) % 2 ^ e)), ?_, Or.inr ⟨fun m => by obtain ⟨i, i1, i2⟩ := mem_idx.mp m; exact n1 i (Nat.zero_le _) i1 i2, n2, rfl⟩⟩
          dsimp only
          have lt := Nat.mod_lt (hsX (r, a, b) + k) p0
          have h8 := hH.2.2.1
          unfold x0_nodeFor_B29
          rw [hH.2.1, if_neg (show ¬ jn (2 ^ e - 1) < jn k from fun z => by have := (jn_lt (by omega) (by omega)).mp z; omega), gd_jn (by omega) (by omega), jn_cl (by omega), n2, if_pos rfl]) 0 () (Nat.zero_le _) trivial
    obtain ⟨y, l1, l2⟩ := L
    rw [show lp (fun x : Int32 × Int32 => x0_nodeFor_B29 t (jn r) (jn a) (jn b) x.1 x.2) (jn ((hsX (r, a, b) + 0) % 2 ^ e), (0 : Int32)) = some y from l1, bs]
    rcases l2 with ⟨i0, i1, i2, rfl⟩ | ⟨m, n2, rfl⟩
    · have mm := mem_idx.mpr ⟨i0, i1, i2⟩
      have ea : addN N r a b = N := if_pos (Or.inr mm)
      refine ⟨t, ?_, fx.rfl, by rw [ea]; exact hN, by rw [ea]; exact hH⟩
      show some (jn (i0 + 2), t) = some (jn (lk N r a b), t)
      have : ixn N (r, a, b) = i0 := by rw [← i2]; exact ixn_at hd i1
      unfold lk
      rw [if_neg c, this, Nat.add_comm]
    · have ea : addN N r a b = N ++ [(r, a, b)] := if_neg (fun z => z.elim c m)
      have el : (addN N r a b).length = N.length + 1 := by rw [ea, List.length_append]; rfl
      have lt := Nat.mod_lt (hsX (r, a, b) + k) p0
      have h8 := hH.2.2.1
      have e3 := hN.1
      rw [el] at hl hle h9 h10 h11
      rw [ea]
      rw [ea] at el
      dsimp only [Sum.elim]
      rw [e3, if_pos (show jn (N.length + 2) < Int32.ofNat (gN t 9) from (jn_lt (by omega) hg).mpr (by omega)), gd_jn (show N.length + 2 < gN t 9 by omega) (by omega)]
      generalize ht1 : sA t 9 (jn (N.length + 2)) (jn r) = t1
      have f1 : fx [9] [] t t1 := by subst ht1; exact fx_sA rfl
      rw [(f1.1 3 rfl).1, e3, f1.2 10 rfl, gd_jn (show N.length + 2 < gN t 10 by omega) (by omega)]
      generalize ht2 : sA t1 10 (jn (N.length + 2)) (jn a) = t2
      have f2 : fx [10] [] t1 t2 := by subst ht2; exact fx_sA rfl
      rw [(f2.1 3 rfl).1, (f1.1 3 rfl).1, e3, f2.2 11 rfl, f1.2 11 rfl, gd_jn (show N.length + 2 < gN t 11 by omega) (by omega)]
      generalize ht3 : sA t2 11 (jn (N.length + 2)) (jn b) = t3
      have f3 : fx [11] [] t2 t3 := by subst ht3; exact fx_sA rfl
      have f13 : fx [9, 10, 11] [] t t3 := (f1.wk rfl rfl).trans ((f2.wk rfl rfl).trans (f3.wk rfl rfl))
      rw [f13.2 8 rfl, gd_jn (show (hsX (r, a, b) + k) % 2 ^ e < gN t 8 by omega) (by omega), (f13.1 3 rfl).1, e3]
      generalize ht4 : sA t3 8 (jn ((hsX (r, a, b) + k) % 2 ^ e)) (jn (N.length + 2)) = t4
      have f4 : fx [8] [] t3 t4 := by subst ht4; exact fx_sA rfl
      rw [(f4.1 3 rfl).1, (f13.1 3 rfl).1, e3, jn_s]
      generalize ht5 : sI t4 3 (jn (N.length + 2 + 1)) = t5
      have f5 : fx [3] [] t4 t5 := by subst ht5; exact fx_sI rfl
      have g3 : gI t5 3 = jn (N.length + 2 + 1) := by subst ht5; exact gI_at
      rw [g3]
      have fall : fx [3, 8, 9, 10, 11] [] t t5 := (f13.wk rfl rfl).trans ((f4.wk rfl rfl).trans (f5.wk rfl rfl))
      have x8 : gA t5 8 = upd (gA t 8) ((hsX (r, a, b) + k) % 2 ^ e) (jn (N.length + 2)) := by
        rw [(f5.1 8 rfl).2.2.1, ← ht4, gA_sA, (f13.1 8 rfl).2.2.1, jn_cl (by omega)]
      have x9 : gA t5 9 = upd (gA t 9) (N.length + 2) (jn r) := by
        rw [(f5.1 9 rfl).2.2.1, (f4.1 9 rfl).2.2.1, (f3.1 9 rfl).2.2.1, (f2.1 9 rfl).2.2.1, ← ht1, gA_sA, jn_cl (by omega)]
      have x10 : gA t5 10 = upd (gA t 10) (N.length + 2) (jn a) := by
        rw [(f5.1 10 rfl).2.2.1, (f4.1 10 rfl).2.2.1, (f3.1 10 rfl).2.2.1, ← ht2, gA_sA, (f1.1 10 rfl).2.2.1, jn_cl (by omega)]
      have x11 : gA t5 11 = upd (gA t 11) (N.length + 2) (jn b) := by
        rw [(f5.1 11 rfl).2.2.1, (f4.1 11 rfl).2.2.1, ← ht3, gA_sA, (f2.1 11 rfl).2.2.1, (f1.1 11 rfl).2.2.1, jn_cl (by omega)]
      refine ⟨t5, ?_, fall, ⟨by rw [g3, el], fun i hi => ?_⟩, ⟨he, (fall.1 5 rfl).1.trans hH.2.1, by rw [fall.2 8 rfl]; exact h8, ?_⟩⟩
      · rw [show (1 : Int32) = jn 1 from rfl, jn_sub (by omega)]
        show some (jn (N.length + 2 + 1 - 1), t5) = some (jn (lk N r a b), t5)
        unfold lk
        rw [if_neg c, ixn_not m, Nat.add_sub_cancel, Nat.add_comm]
      · rw [el] at hi
        rw [x9, x10, x11]
        by_cases z : i = N.length
        · subst z
          rw [getD_last, upd_at, upd_at, upd_at]
          exact ⟨rfl, rfl, rfl⟩
        · rw [getD_app (by omega), upd_ne (by omega), upd_ne (by omega), upd_ne (by omega)]
          exact hN.2 i (by omega)
      · rw [el, x8]
        refine hH.2.2.2.put k1 (Nat.zero_le _) (fun i hi => jn_nz (by omega) (by omega)) (fun j hj => ?_) n2 (fun i hi => by rw [getD_app hi]) (by rw [getD_last])
        obtain ⟨i, -, i1, i2, -⟩ := k2 j hj
        rw [i2]
        exact jn_nz (by omega) (by omega)
