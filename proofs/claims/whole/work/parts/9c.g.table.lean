/-! The class's tables: steps by rank, words, least sets of a row. -/
def wdsN (m : Nat) : Nat := if m ≤ 6 then 1 else 2 ^ (m - 6)
theorem wdsN_le {m : Nat} (h : m ≤ 16) : 1 ≤ wdsN m ∧ wdsN m ≤ 1024 := by
  unfold wdsN
  by_cases q : m ≤ 6
  · rw [if_pos q]; omega
  · rw [if_neg q]
    have h1 : 2 ^ (m - 6) ≤ 2 ^ 10 := Nat.pow_le_pow_right (by omega) (by omega)
    have h2 := Nat.two_pow_pos (m - 6)
    rw [show (2 : Nat) ^ 10 = 1024 from rfl] at h1
    omega
theorem wdsN_64 {m : Nat} (h : 6 ≤ m) : 64 * wdsN m = 2 ^ m := by
  unfold wdsN
  by_cases q : m ≤ 6
  · have : m = 6 := by omega
    subst this
    rfl
  · rw [if_neg q, show 64 = 2 ^ 6 from rfl, ← Nat.pow_add]
    congr 1
    omega
def TbR (t : St) (H : Nat) : Prop := (gN t 801 = 16 ∧ gN t 802 = 16) ∧ gI t 803 = jn (mN H) ∧ (∀ r, r < mN H → gA t 801 r = jn (odr H r)) ∧ (∀ s, s < 16 → H.testBit s = true → gA t 802 s = jn (rkN H s)) ∧ gI t 804 = jn (wdsN (mN H))
theorem TbR.fr {S T : List Nat} {t t' : St} {H : Nat} (h : TbR t H) (hx : fx S T t t') (h1 : (S.elem 801 || S.elem 802 || S.elem 803 || S.elem 804) = false := by rfl) (h2 : (T.elem 801 || T.elem 802) = false := by rfl) : TbR t' H := by
  simp only [Bool.or_eq_false_iff] at h1 h2
  unfold TbR
  rw [hx.2 801 h2.1, hx.2 802 h2.2, (hx.1 801 h1.1.1.1).2.2.1, (hx.1 802 h1.1.1.2).2.2.1, (hx.1 803 h1.1.2).1, (hx.1 804 h1.2).1]
  exact h
theorem gI_at {t : St} {k : Nat} {v : Int32} : gI (sI t k v) k = v := by
  show va_up t.1 k v k = v
  unfold va_up
  rw [if_pos rfl]
theorem rk0 (H : Nat) : rkN H 0 = 0 := rfl
theorem rankSteps_eq {t : St} {H : Nat} (hH : H < 65536) (h1 : gN t 801 = 16) (h2 : gN t 802 = 16) : ∃ t', x8_rankSteps t (jn H) = some t' ∧ fx [801, 802, 803] [] t t' ∧ gI t' 803 = jn (mN H) ∧ (∀ r, r < mN H → gA t' 801 r = jn (odr H r)) ∧ ∀ s, s < 16 → H.testBit s = true → gA t' 802 s = jn (rkN H s) := by
  have l := lp_cnt (b := fun y : Int32 × St => x8_rankSteps_B7 (jn H) y.1 y.2) (fun i s => (jn i, s)) 16
    (fun i s => fx [801, 802, 803] [] t s ∧ gI s 803 = jn (rkN H i) ∧ (∀ r, r < rkN H i → gA s 801 r = jn (odr H r)) ∧ ∀ x, x < i → H.testBit x = true → gA s 802 x = jn (rkN H x))
    (fun s => fx [801, 802, 803] [] t s ∧ gI s 803 = jn (mN H) ∧ (∀ r, r < mN H → gA s 801 r = jn (odr H r)) ∧ ∀ x, x < 16 → H.testBit x = true → gA s 802 x = jn (rkN H x)) (by
      rintro i s hi ⟨hf, v1, v2, v3⟩
      dsimp only
      unfold x8_rankSteps_B7
      rw [if_neg (jnge (x := 16) 16 rfl (by omega) (by omega) (by omega))]
      have hm := mN_le H
      cases hb : H.testBit i with
      | true =>
        have hr := rk_lt hi hb
        rw [if_pos ((bit_iff (by omega) (by omega)).mpr hb), v1, hf.2 801 rfl, h1, gd_jn (by omega) (by omega)]
        simp only [nm]
        rw [show gN (sA s 801 (jn (rkN H i)) (jn i)) 802 = gN s 802 from rfl, hf.2 802 rfl, h2, gd_jn (by omega) (by omega), show gI (sA s 801 (jn (rkN H i)) (jn i)) 803 = gI s 803 from rfl, v1, show gI (sA (sA s 801 (jn (rkN H i)) (jn i)) 802 (jn i) (jn (rkN H i))) 803 = gI s 803 from rfl, v1, jn_s, jn_s]
        refine ⟨_, rfl, ((hf.trans (fx_sA rfl)).trans (fx_sA rfl)).trans (fx_sI rfl), ?_, fun r hr2 => ?_, fun x hx hbx => ?_⟩
        · rw [rkN_s, hb, if_pos rfl]
          exact gI_at
        · show gA (sA (sA s 801 (jn (rkN H i)) (jn i)) 802 (jn i) (jn (rkN H i))) 801 r = _
          rw [gA_sA_ne (by omega), gA_sA, jn_cl (by omega)]
          rw [rkN_s, hb, if_pos rfl] at hr2
          by_cases e : r = rkN H i
          · subst e
            rw [upd_at, odr_rk hi hb]
          · rw [upd_ne e]; exact v2 r (by omega)
        · show gA (sA (sA s 801 (jn (rkN H i)) (jn i)) 802 (jn i) (jn (rkN H i))) 802 x = _
          rw [gA_sA, jn_cl (by omega)]
          by_cases e : x = i
          · subst e; rw [upd_at]
          · rw [upd_ne e]; exact v3 x (by omega) hbx
      | false =>
        rw [if_neg (fun e => by rw [(bit_iff (by omega) (by omega)).mp e] at hb; cases hb)]
        simp only [nm, jn_s]
        refine ⟨s, rfl, hf, ?_, fun r hr2 => ?_, fun x hx hbx => ?_⟩
        · rw [rkN_s, hb, if_neg (show ¬ false = true by decide), Nat.add_zero]; exact v1
        · rw [rkN_s, hb, if_neg (show ¬ false = true by decide), Nat.add_zero] at hr2; exact v2 r hr2
        · by_cases e : x = i
          · subst e; rw [hb] at hbx; cases hbx
          · exact v3 x (by omega) hbx) (by
      rintro s hs
      exact ⟨s, by dsimp only; unfold x8_rankSteps_B7; rw [if_pos (by decide)], by unfold mN; exact hs⟩) 0 (sI t 803 0) (by omega) ⟨fx_sI rfl, by rw [rk0]; exact gI_at, fun r hr => absurd hr (by rw [rk0]; exact Nat.not_lt_zero r), fun x hx => absurd hx (Nat.not_lt_zero x)⟩
  obtain ⟨s, k1, k2⟩ := l
  refine ⟨s, ?_, k2⟩
  unfold x8_rankSteps
  simp only [nm]
  rw [show ((0 : Int32), sI t 803 0) = (jn 0, sI t 803 0) from rfl, k1, bs]
theorem hasRank_eq (t : St) {w r : Nat} (hw : w < 1024) (h6 : 6 ≤ r) (hr : r < 16) : x8_hasRank t (jn w) (jn r) = some (if w.testBit (r - 6) then 1 else 0) := by
  unfold x8_hasRank
  rw [show jn r - 6 = jn (r - 6) from jn_sub (a := r) (b := 6) h6]
  cases hb : w.testBit (r - 6) with
  | true => rw [if_pos ((bit_iff (by omega) (by omega)).mpr hb)]; rfl
  | false => rw [if_neg (fun e => by rw [(bit_iff (by omega) (by omega)).mp e] at hb; cases hb)]; rfl
theorem stL_bit : ∀ r : Nat, r < 6 → ∀ j : Nat, j < 64 → wb (stL r) j = j.testBit r := by decide +kernel
theorem told_bit : ∀ m : Nat, m < 6 → ∀ j : Nat, j < 64 → wb (((1 : Int64) <<< ((jn (2 ^ m)).toInt64 &&& 63)) - 1) j = decide (j < 2 ^ m) := by decide +kernel
/-- a row of bits, from a place on -/
def RowF (t : St) (F : Nat → Bool) (at_ W : Nat) : Prop := ∀ w, w < W → ∀ j, j < 64 → wb (gB t 808 (at_ + w)) j = F (64 * w + j)
def lstF (F : Nat → Bool) (m q : Nat) : Bool := F q && !anyB (fun r => q.testBit r && F (clr q r)) m && decide (q < 2 ^ m)
theorem leastWord_eq {t : St} {H : Nat} (hT : TbR t H) {F : Nat → Bool} {at_ : Nat} (hF : RowF t F at_ (wdsN (mN H))) (hN : at_ + wdsN (mN H) ≤ gN t 808) (hB : gN t 808 ≤ 57344) {w : Nat} (hw : w < wdsN (mN H)) : ∃ v, x8_leastWord t (jn at_) (jn w) = some v ∧ ∀ j, j < 64 → wb v j = lstF F (mN H) (64 * w + j) := by
  have hm := mN_le H
  have hW := wdsN_le hm
  obtain ⟨-, t3, -, -, -⟩ := hT
  have l := lp_cnt (b := fun y : Int64 × Int32 => x8_leastWord_B15 t (jn at_) (jn w) (gB t 808 (at_ + w)) y.1 y.2) (fun i z => (z, jn i)) (mN H)
    (fun i z => ∀ j, j < 64 → wb z j = anyB (fun r => (64 * w + j).testBit r && F (clr (64 * w + j) r)) i)
    (fun z => ∀ j, j < 64 → wb z j = anyB (fun r => (64 * w + j).testBit r && F (clr (64 * w + j) r)) (mN H)) (by
      rintro i z hi hz
      have st : ∀ j, anyB (fun r => (64 * w + j).testBit r && F (clr (64 * w + j) r)) (i + 1) = (anyB (fun r => (64 * w + j).testBit r && F (clr (64 * w + j) r)) i || ((64 * w + j).testBit i && F (clr (64 * w + j) i))) := fun j => rfl
      dsimp only
      unfold x8_leastWord_B15
      rw [t3, if_neg (nle hi (by omega))]
      by_cases h6 : 6 ≤ i
      · rw [if_pos (jge (x := 6) 6 rfl h6 (by omega)), hasRank_eq t (by omega) h6 (by omega), bs]
        cases hb : w.testBit (i - 6) with
        | false =>
          rw [if_pos (show (if false = true then (1 : Int32) else 0) = 0 from rfl)]
          simp only [nm, jn_s]
          refine ⟨z, rfl, fun j hj => ?_⟩
          rw [st, hz j hj, tb_word hj, if_neg (by omega), hb, Bool.false_and, Bool.or_false]
        | true =>
          have c1 : 2 ^ (i - 6) ≤ w := Nat.ge_two_pow_of_testBit hb
          have c2 := (clr_lt hb)
          have c3 : clr w (i - 6) + 2 ^ (i - 6) = w := by
            have key := fun j (hj : j < 64) => clr_hi (w := w) (j := j) (s := i) (by omega) hj h6 (by omega) hb
            -- by the words' places
            have : ∀ (s n : Nat), n.testBit s = true → clr n s + 2 ^ s = n := by
              intro s
              induction s with
              | zero =>
                intro n h
                have h0 : n % 2 = 1 := by
                  rw [Nat.testBit_zero] at h
                  simpa using h
                have e1 : (clr n 0) / 2 = n / 2 := by
                  unfold clr
                  rw [Nat.xor_div_two]
                  show n / 2 ^^^ 0 = n / 2
                  exact Nat.xor_zero _
                have e2 : (clr n 0).testBit 0 = false := by rw [clr_bit h]; simp
                rw [Nat.testBit_zero] at e2
                have := Nat.mod_two_eq_zero_or_one (clr n 0)
                simp at e2
                show clr n 0 + 1 = n
                omega
              | succ s ih =>
                intro n h
                have h1 : (n / 2).testBit s = true := by rw [← Nat.testBit_succ]; exact h
                have e1 : (clr n (s + 1)) / 2 = clr (n / 2) s := by
                  unfold clr
                  rw [Nat.xor_div_two, Nat.pow_succ, Nat.mul_div_cancel _ (by omega)]
                have e2 : (clr n (s + 1)) % 2 = n % 2 := by
                  have : (clr n (s + 1)).testBit 0 = n.testBit 0 := by rw [clr_bit h]; simp
                  rw [Nat.testBit_zero, Nat.testBit_zero] at this
                  have h2 := Nat.mod_two_eq_zero_or_one (clr n (s + 1))
                  have h3 := Nat.mod_two_eq_zero_or_one n
                  simp only [decide_eq_decide] at this
                  omega
                have := ih (n / 2) h1
                rw [Nat.pow_succ]
                omega
            exact this _ _ hb
          have e : jn at_ + jn w - (1 : Int32) <<< ((jn i - 6) &&& 31) = jn (at_ + clr w (i - 6)) := by
            rw [show jn i - 6 = jn (i - 6) from jn_sub (a := i) (b := 6) h6, jn_shl1 (i - 6) (by omega), jn_add, jn_sub (by omega)]
            congr 1
            omega
          rw [if_neg (show ¬ (if true = true then (1 : Int32) else 0) = 0 by decide), e, gd_jn (by omega) (by omega), jn_cl (by omega)]
          simp only [nm, jn_s]
          refine ⟨_, rfl, fun j hj => ?_⟩
          rw [st, wb_or, hz j hj, hF _ (by omega) j hj, tb_word hj, if_neg (by omega), hb, clr_hi (by omega) hj h6 (by omega) hb, Bool.true_and]
      · rw [if_neg (jnge (x := 6) 6 rfl h6 (by omega) (by omega)), gd_jn (by omega) (by omega), jn_shl1 i (by omega), jn_cl (by omega)]
        simp only [nm, jn_s]
        refine ⟨_, rfl, fun j hj => ?_⟩
        have p1 : 2 ^ i ≤ 32 := Nat.pow_le_pow_right (n := 2) (i := i) (j := 5) (by omega) (by omega)
        rw [st, wb_or, hz j hj, wb_and, wb_shl (by omega) hj, stL_bit i (by omega) j hj, tb_word hj, if_pos (by omega)]
        congr 1
        cases hb : j.testBit i with
        | true =>
          obtain ⟨c1, c2⟩ := clr_lo (w := w) hj (by omega) hb
          have hj2 : j - 2 ^ i < 64 := Nat.lt_of_le_of_lt (Nat.sub_le _ _) hj
          rw [decide_eq_true c2, hF w hw _ hj2, c1]
          simp
        | false => simp) (by
      rintro z hz
      refine ⟨z, ?_, hz⟩
      dsimp only
      unfold x8_leastWord_B15
      rw [t3, if_pos (lee (by omega))]) 0 0 (by omega) (fun j _ => wb_0 j)
  obtain ⟨z, k1, k2⟩ := l
  unfold x8_leastWord
  rw [jn_add, gd_jn (by omega) (by omega), jn_cl (by omega)]
  simp only [nm]
  rw [show ((0 : Int64), (0 : Int32)) = (0, jn 0) from rfl, k1, bs, t3]
  by_cases h6 : 6 ≤ mN H
  · rw [if_pos (jge (x := 6) 6 rfl h6 (by omega))]
    refine ⟨_, rfl, fun j hj => ?_⟩
    have : 64 * w + j < 2 ^ mN H := by
      rw [← wdsN_64 h6]
      omega
    rw [wb_and, wb_and, wb_not hj, hF w hw j hj, k2 j hj, wb_m1 hj]
    unfold lstF
    rw [decide_eq_true this]
  · rw [if_neg (jnge (x := 6) 6 rfl h6 (by omega) (by omega)), jn_shl1 _ (by omega)]
    refine ⟨_, rfl, fun j hj => ?_⟩
    have w0 : w = 0 := by
      unfold wdsN at hw
      rw [if_pos (by omega)] at hw
      omega
    rw [wb_and, wb_and, wb_not hj, hF w hw j hj, k2 j hj, told_bit _ (by omega) j hj]
    unfold lstF
    rw [w0, Nat.mul_zero, Nat.zero_add]
/-- the counting of least sets stops soon after 200 -/
def capd (c n : Nat) : Prop := (c = n ∧ c ≤ 200) ∨ (200 < c ∧ 200 < n ∧ c ≤ 264)
theorem countLeast_eq {t : St} {H : Nat} (hT : TbR t H) {F : Nat → Bool} {at_ : Nat} (hF : RowF t F at_ (wdsN (mN H))) (hN : at_ + wdsN (mN H) ≤ gN t 808) (hB : gN t 808 ≤ 57344) : ∃ c, x8_countLeast t (jn at_) = some (jn c) ∧ capd c (cntB (lstF F (mN H)) (64 * wdsN (mN H))) := by
  have hm := mN_le H
  have hW := wdsN_le hm
  have t4 : gI t 804 = jn (wdsN (mN H)) := hT.2.2.2.2
  have key : ∀ d w c, d + w = wdsN (mN H) → c = cntB (lstF F (mN H)) (64 * w) → (c ≤ 200 ∨ (200 < c ∧ c ≤ 264)) → ∃ c', lp (fun y : Int32 × Int32 => x8_countLeast_B4 t (jn at_) y.1 y.2) (jn c, jn w) = some (jn c') ∧ capd c' (cntB (lstF F (mN H)) (64 * wdsN (mN H))) := by
    intro d
    induction d with
    | zero =>
      intro w c hd hc h2
      have : w = wdsN (mN H) := by omega
      subst this
      refine ⟨c, lp_r (by dsimp only; unfold x8_countLeast_B4; rw [t4, if_pos (lee (by omega))]), ?_⟩
      rcases h2 with h2 | h2
      · exact Or.inl ⟨hc, h2⟩
      · exact Or.inr ⟨h2.1, by omega, h2.2⟩
    | succ d ih =>
      intro w c hd hc h2
      rcases h2 with h2 | ⟨h2, h3⟩
      · obtain ⟨v, k1, k2⟩ := leastWord_eq hT hF hN hB (show w < wdsN (mN H) by omega)
        have e : wcn v = cntB (fun j => lstF F (mN H) (64 * w + j)) 64 := cntB_cong k2
        have l64 := wcn_le v
        have e2 : cntB (lstF F (mN H)) (64 * (w + 1)) = c + wcn v := by
          rw [cntB_words, e, hc, cntB_words]
          rfl
        rw [lp_l (x := (jn c, jn w)) (x' := (jn (c + wcn v), jn (w + 1))) (by
          dsimp only
          unfold x8_countLeast_B4
          rw [t4, if_neg (nle (by omega) (by omega)), if_neg (show ¬ (200 : Int32) < jn c from fun e => by have := (jn_lt (a := 200) (by omega) (by omega)).mp e; omega), k1, bs, bc64_eq, bs]
          simp only [nm, jn_add]
          rw [jn_s])]
        exact ih (w + 1) (c + wcn v) (by omega) e2.symm (by omega)
      · refine ⟨c, lp_r ?_, Or.inr ⟨h2, ?_, h3⟩⟩
        · dsimp only
          unfold x8_countLeast_B4
          rw [t4, if_neg (nle (by omega) (by omega)), if_pos (jgt (x := 200) 200 rfl h2 (by omega))]
        · have mono : cntB (lstF F (mN H)) (64 * w) ≤ cntB (lstF F (mN H)) (64 * wdsN (mN H)) := by
            have : ∀ n d, cntB (lstF F (mN H)) n ≤ cntB (lstF F (mN H)) (n + d) := by
              intro n d
              induction d with
              | zero => exact Nat.le_refl _
              | succ d ih => exact Nat.le_trans ih (Nat.le_add_right _ _)
            have := this (64 * w) (64 * wdsN (mN H) - 64 * w)
            rw [show 64 * w + (64 * wdsN (mN H) - 64 * w) = 64 * wdsN (mN H) by omega] at this
            exact this
          omega
  obtain ⟨c, k1, k2⟩ := key (wdsN (mN H)) 0 0 (by omega) rfl (Or.inl (by omega))
  refine ⟨c, ?_, k2⟩
  unfold x8_countLeast
  rw [show ((0 : Int32), (0 : Int32)) = (jn 0, jn 0) from rfl, k1, bs]
/-- the count of a knot's least sets, by a net's ranks -/
theorem lst_mw {tm : St} {k H q : Nat} (hq : q < 2 ^ mN H) : lstF (fun q => rch tm k (wd H q)) (mN H) q = mw tm k (wd H q) := by
  rw [mw_wd]
  unfold lstF lsR
  rw [decide_eq_true hq, Bool.and_true]
theorem lst_cnt {tx tm : St} (hK : RK tx tm) {k H : Nat} (hk : k < nK tm) (hH : ∀ s, (kH tm k).testBit s = true → H.testBit s = true) : cntB (lstF (fun q => rch tm k (wd H q)) (mN H)) (64 * wdsN (mN H)) = cnw tm k := by
  rw [← cnw_ranks hK hk hH]
  by_cases h6 : 6 ≤ mN H
  · rw [wdsN_64 h6]
    exact cntB_cong fun q hq => lst_mw hq
  · have e1 : wdsN (mN H) = 1 := by unfold wdsN; rw [if_pos (by omega)]
    have p1 : 2 ^ mN H ≤ 2 ^ 5 := Nat.pow_le_pow_right (by omega) (by omega)
    rw [show (2 : Nat) ^ 5 = 32 from rfl] at p1
    rw [e1]
    have cut : ∀ n d, (∀ i, n ≤ i → lstF (fun q => rch tm k (wd H q)) (mN H) i = false) → cntB (lstF (fun q => rch tm k (wd H q)) (mN H)) (n + d) = cntB (lstF (fun q => rch tm k (wd H q)) (mN H)) n := by
      intro n d h
      induction d with
      | zero => rfl
      | succ d ih =>
        show cntB _ (n + d) + (if lstF _ _ (n + d) then 1 else 0) = _
        rw [ih, h (n + d) (by omega)]
        rfl
    have := cut (2 ^ mN H) (64 * 1 - 2 ^ mN H) (fun i hi => by
      unfold lstF
      rw [decide_eq_false (by omega), Bool.and_false])
    rw [show 2 ^ mN H + (64 * 1 - 2 ^ mN H) = 64 * 1 by omega] at this
    rw [this]
    exact cntB_cong fun q hq => lst_mw hq
