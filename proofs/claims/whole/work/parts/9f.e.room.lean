/-! Diagrams: room, on the class's side. -/
def roomN (m : Nat) : Nat := min 4400 (2 ^ m + 2)
/-- the rows' lengths -/
def DSz (t : St) : Prop := gN t 7 ≤ 65536 ∧ gN t 8 ≤ 16384 ∧ gN t 9 ≤ 8800 ∧ gN t 10 = gN t 9 ∧ gN t 11 = gN t 9
def PD (t : St) : Nat := 2 * gN t 7 + 2 * gN t 8 + 6 * gN t 9
theorem wipe8_eq {t : St} {n : Nat} (hn : n ≤ 8192) (h : n ≤ gN t 8) : ∃ t', x2_wipe_8 t 0 (jn n) = some t' ∧ fx [8] [] t t' ∧ ∀ i, i < n → gA t' 8 i = 0 := by
  have l := lp_cnt (b := fun x : Int32 × St => x2_wipe_8_B2 0 (jn n) x.1 x.2) (fun i s => (jn i, s)) n
    (fun k s => fx [8] [] t s ∧ ∀ i, i < k → gA s 8 i = 0)
    (fun s => fx [8] [] t s ∧ ∀ i, i < n → gA s 8 i = 0) (by
      rintro i s hi ⟨hf, h1⟩
      dsimp only
      unfold x2_wipe_8_B2
      rw [if_neg (nle hi (by omega)), hf.2 8 rfl, show (0 : Int32) + jn i = jn i from by rw [show (0 : Int32) = jn 0 from rfl, jn_add, Nat.zero_add], gd_jn (by omega) (by omega)]
      simp only [nm, jn_s]
      refine ⟨_, rfl, hf.trans (fx_sA rfl), fun i1 hi1 => ?_⟩
      rw [gA_sA, jn_cl (by omega)]
      by_cases e : i1 = i
      · subst e; rw [upd_at]
      · rw [upd_ne e]; exact h1 i1 (by omega)) (by
      rintro s hs
      exact ⟨s, by dsimp only; unfold x2_wipe_8_B2; rw [if_pos (lee (by omega))], hs⟩) 0 t (by omega) ⟨fx.rfl, fun i hi => absurd hi (by omega)⟩
  obtain ⟨s, k, k1, k2⟩ := l
  refine ⟨s, ?_, k1, k2⟩
  unfold x2_wipe_8
  rw [show lp (fun x : Int32 × St => x2_wipe_8_B2 0 (jn n) x.1 x.2) ((0 : Int32), t) = some s from k, bs]
theorem makeRoom_eq {t : St} (hD : DSz t) {m : Nat} (h1 : 1 ≤ m) (hm : m ≤ 16) : ∃ t', x0_makeRoom t (jn m) = some t' ∧ fx [3, 5, 6, 7, 8, 9, 10, 11] [7, 8, 9, 10, 11, 9000, 9001] t t' ∧ NX t' [] ∧ HX t' (min 13 (m + 1)) [] ∧ DSz t' ∧ gI t' 6 = jn ((m + 2) / 3) ∧ 2 ^ (m - 1) ≤ gN t' 7 ∧ roomN m ≤ gN t' 9 ∧ gN t' 9001 + PD t ≤ gN t 9001 + PD t' ∧ gN t' 9000 ≤ gN t 9000 + 5 := by
  obtain ⟨a3, b3, hV, c10, c11⟩ := hD
  have e15 : (2 : Nat) ^ 15 = 32768 := rfl
  have e13 : (2 : Nat) ^ 13 = 8192 := rfl
  have pm : 2 ^ m ≤ 2 ^ 16 := Nat.pow_le_pow_right (by omega) hm
  have e16 : (2 : Nat) ^ 16 = 65536 := rfl
  have pm1 : 2 ^ (m - 1) ≤ 2 ^ 15 := Nat.pow_le_pow_right (by omega) (by omega)
  have pms : 2 ^ (m + 1) = 2 * 2 ^ m := by rw [Nat.pow_succ]; omega
  have R1 : (if (((1 : Int32) <<< (jn m &&& 31)) + (2 : Int32)) < (4400 : Int32) then (((1 : Int32) <<< (jn m &&& 31)) + (2 : Int32)) else (4400 : Int32)) = jn (roomN m) := by
    rw [show (1 : Int32) <<< (jn m &&& 31) = jn (2 ^ m) from jn_shl1 _ (by omega), show (2 : Int32) = jn 2 from rfl, jn_add, show (4400 : Int32) = jn 4400 from rfl]
    unfold roomN
    by_cases c : 2 ^ m + 2 < 4400
    · rw [if_pos ((jn_lt (by omega) (by omega)).mpr c), Nat.min_eq_right (by omega)]
    · rw [if_neg (fun z => c ((jn_lt (by omega) (by omega)).mp z)), Nat.min_eq_left (by omega)]
  have R2 : (if ((2 : Int32) <<< (jn m &&& 31)) < (8192 : Int32) then ((2 : Int32) <<< (jn m &&& 31)) else (8192 : Int32)) = jn (2 ^ min 13 (m + 1)) := by
    have z : ∀ m : Nat, m < 17 → (2 : Int32) <<< (jn m &&& 31) = jn (2 ^ (m + 1)) := by decide
    rw [z m (by omega), show (8192 : Int32) = jn 8192 from rfl]
    by_cases c : 2 ^ (m + 1) < 8192
    · have : m + 1 < 13 := (Nat.pow_lt_pow_iff_right (a := 2) (by omega)).mp (by omega)
      rw [if_pos ((jn_lt (by omega) (by omega)).mpr c), Nat.min_eq_right (by omega)]
    · have : 13 ≤ m + 1 := (Nat.pow_le_pow_iff_right (a := 2) (by omega)).mp (by omega)
      rw [if_neg (fun z => c ((jn_lt (by omega) (by omega)).mp z)), Nat.min_eq_left (by omega)]
  have lrm : roomN m ≤ 4400 := Nat.min_le_left _ _
  have pe : 2 ^ min 13 (m + 1) ≤ 2 ^ 13 := Nat.pow_le_pow_right (by omega) (Nat.min_le_left _ _)
  unfold x0_makeRoom
  simp only [nm]
  rw [R1, R2, show (1 : Int32) <<< ((jn m - (1 : Int32)) &&& 31) = jn (2 ^ (m - 1)) from by rw [show (1 : Int32) = jn 1 from rfl, jn_sub h1]; exact jn_shl1 _ (by omega)]
  obtain ⟨t1, g1, l1, o1, ⟨x1, y1⟩, w1⟩ := grw_eqx (t := t) (k := 7) (N := 2 ^ (m - 1)) (by omega) (by omega) (by omega) (fun t16 : St => x0_makeRoom_J38 t16 (jn m) (jn (roomN m)) (jn (2 ^ min 13 (m + 1))))
  have f1 : fx [7] [7, 9000, 9001] t t1 := w1 _ _ rfl rfl rfl rfl
  rw [g1]
  unfold x0_makeRoom_J38
  obtain ⟨t2, g2, l2, o2, ⟨x2, y2⟩, w2⟩ := grw_eqx (t := t1) (k := 9) (N := roomN m) (by omega) (by omega) (by rw [f1.2 9 rfl]; omega) (fun t12 : St => x0_makeRoom_J50 t12 (jn m) (jn (roomN m)) (jn (2 ^ min 13 (m + 1))))
  have f2 : fx [9] [9, 9000, 9001] t1 t2 := w2 _ _ rfl rfl rfl rfl
  rw [g2]
  unfold x0_makeRoom_J50
  obtain ⟨t3, g3, l3, o3, ⟨x3, y3⟩, w3⟩ := grw_eqx (t := t2) (k := 10) (N := roomN m) (by omega) (by omega) (by rw [f2.2 10 rfl, f1.2 10 rfl]; omega) (fun t10 : St => x0_makeRoom_J62 t10 (jn m) (jn (roomN m)) (jn (2 ^ min 13 (m + 1))))
  have f3 : fx [10] [10, 9000, 9001] t2 t3 := w3 _ _ rfl rfl rfl rfl
  rw [g3]
  unfold x0_makeRoom_J62
  obtain ⟨t4, g4, l4, o4, ⟨x4, y4⟩, w4⟩ := grw_eqx (t := t3) (k := 11) (N := roomN m) (by omega) (by omega) (by rw [f3.2 11 rfl, f2.2 11 rfl, f1.2 11 rfl]; omega) (fun t8 : St => x0_makeRoom_J74 t8 (jn m) (jn (2 ^ min 13 (m + 1))))
  have f4 : fx [11] [11, 9000, 9001] t3 t4 := w4 _ _ rfl rfl rfl rfl
  rw [g4]
  unfold x0_makeRoom_J74
  obtain ⟨t5, g5, l5, o5, ⟨x5, y5⟩, w5⟩ := grw_eqx (t := t4) (k := 8) (N := 2 ^ min 13 (m + 1)) (by omega) (by omega) (by rw [f4.2 8 rfl, f3.2 8 rfl, f2.2 8 rfl, f1.2 8 rfl]; omega) (fun t6 : St => x0_makeRoom_J86 t6 (jn m) (jn (2 ^ min 13 (m + 1))))
  have f5 : fx [8] [8, 9000, 9001] t4 t5 := w5 _ _ rfl rfl rfl rfl
  rw [g5]
  unfold x0_makeRoom_J86
  obtain ⟨t6, g6, f6, v6⟩ := wipe8_eq (t := t5) (n := 2 ^ min 13 (m + 1)) (by omega) l5
  rw [g6, bs]
  have p1 := Nat.two_pow_pos (min 13 (m + 1))
  simp only [nm]
  rw [show (1 : Int32) = jn 1 from rfl, jn_sub (show 1 ≤ 2 ^ min 13 (m + 1) from p1), show (2 : Int32) = jn 2 from rfl, jn_add, show (3 : Int32) = jn 3 from rfl, jn_div (by omega) (by omega)]
  generalize ht7 : sI (sI (sI t6 5 (jn (2 ^ min 13 (m + 1) - 1))) 3 (jn 2)) 6 (jn ((m + 2) / 3)) = t7
  have f7 : fx [3, 5, 6] [] t6 t7 := by subst ht7; exact ((fx_sI rfl).trans (fx_sI rfl)).trans (fx_sI rfl)
  have s7 : gI t7 5 = jn (2 ^ min 13 (m + 1) - 1) ∧ gI t7 3 = jn 2 ∧ gI t7 6 = jn ((m + 2) / 3) := by
    subst ht7; exact ⟨rfl, rfl, rfl⟩
  have n7 : gN t7 7 = gN t1 7 := by rw [f7.2 7 rfl, f6.2 7 rfl, f5.2 7 rfl, f4.2 7 rfl, f3.2 7 rfl, f2.2 7 rfl]
  have n9 : gN t7 9 = gN t2 9 := by rw [f7.2 9 rfl, f6.2 9 rfl, f5.2 9 rfl, f4.2 9 rfl, f3.2 9 rfl]
  have n10 : gN t7 10 = gN t3 10 := by rw [f7.2 10 rfl, f6.2 10 rfl, f5.2 10 rfl, f4.2 10 rfl]
  have n11 : gN t7 11 = gN t4 11 := by rw [f7.2 11 rfl, f6.2 11 rfl, f5.2 11 rfl]
  have n8 : gN t7 8 = gN t5 8 := by rw [f7.2 8 rfl, f6.2 8 rfl]
  have z9 : gN t1 9 = gN t 9 := f1.2 9 rfl
  have z10 : gN t2 10 = gN t 9 := by rw [f2.2 10 rfl, f1.2 10 rfl]; exact c10
  have z11 : gN t3 11 = gN t 9 := by rw [f3.2 11 rfl, f2.2 11 rfl, f1.2 11 rfl]; exact c11
  have z8 : gN t4 8 = gN t 8 := by rw [f4.2 8 rfl, f3.2 8 rfl, f2.2 8 rfl, f1.2 8 rfl]
  rw [z9] at o2 x2 y2
  rw [z10] at o3 x3 y3
  rw [z11] at o4 x4 y4
  rw [z8] at o5 x5 y5
  have me0 : gN t7 9000 = gN t5 9000 := by rw [f7.2 9000 rfl, f6.2 9000 rfl]
  have me1 : gN t7 9001 = gN t5 9001 := by rw [f7.2 9001 rfl, f6.2 9001 rfl]
  have fall : fx [3, 5, 6, 7, 8, 9, 10, 11] [7, 8, 9, 10, 11, 9000, 9001] t t7 := (f1.wk rfl rfl).trans ((f2.wk rfl rfl).trans ((f3.wk rfl rfl).trans ((f4.wk rfl rfl).trans ((f5.wk rfl rfl).trans ((f6.wk rfl rfl).trans (f7.wk rfl rfl))))))
  -- the lengths
  have A7 : gN t7 7 ≤ 65536 ∧ (if gN t 7 < 2 ^ (m - 1) then max (2 ^ (m - 1)) (2 * gN t 7) else 0) + 2 * gN t 7 ≤ 2 * gN t7 7 := by
    rw [n7]
    by_cases c : gN t 7 < 2 ^ (m - 1)
    · have := o1.1 c
      rw [if_pos c]
      omega
    · have := o1.2 c
      rw [if_neg c]
      omega
  have A8 : gN t7 8 ≤ 16384 ∧ (if gN t 8 < 2 ^ min 13 (m + 1) then max (2 ^ min 13 (m + 1)) (2 * gN t 8) else 0) + 2 * gN t 8 ≤ 2 * gN t7 8 := by
    rw [n8]
    generalize 2 ^ min 13 (m + 1) = w at *
    by_cases c : gN t 8 < w
    · have := o5.1 c
      rw [if_pos c]
      omega
    · have := o5.2 c
      rw [if_neg c]
      omega
  have A9 : gN t7 9 ≤ 8800 ∧ gN t7 10 = gN t7 9 ∧ gN t7 11 = gN t7 9 ∧ (if gN t 9 < roomN m then max (roomN m) (2 * gN t 9) else 0) + 2 * gN t 9 ≤ 2 * gN t7 9 := by
    rw [n9, n10, n11]
    generalize roomN m = w at *
    by_cases c : gN t 9 < w
    · have := o2.1 c
      have := o3.1 c
      have := o4.1 c
      rw [if_pos c]
      omega
    · have := o2.2 c
      have := o3.2 c
      have := o4.2 c
      rw [if_neg c]
      omega
  refine ⟨t7, rfl, fall, ⟨s7.2.1, fun i hi => absurd hi (Nat.not_lt_zero i)⟩, ⟨Nat.min_le_left _ _, s7.1, by rw [n8]; exact l5, PrbOk.nil fun c hc => ?_⟩, ⟨A7.1, A8.1, A9.1, A9.2.1, A9.2.2.1⟩, s7.2.2, by rw [n7]; exact l1, by rw [n9]; exact l2, ?_, ?_⟩
  · rw [(f7.1 8 rfl).2.2.1]; exact v6 c hc
  · have := A7.2
    have := A8.2
    have := A9.2.2.2
    unfold PD
    rw [me1, y5, y4, y3, y2, y1]
    omega
  · rw [me0, x5, x4, x3, x2, x1]
    have b01 : ∀ p : Prop, ∀ _ : Decidable p, (if p then 1 else 0) ≤ 1 := fun p _ => by split <;> omega
    have := b01 (gN t 7 < 2 ^ (m - 1)) inferInstance
    have := b01 (gN t 9 < roomN m) inferInstance
    have := b01 (gN t 8 < 2 ^ min 13 (m + 1)) inferInstance
    omega
