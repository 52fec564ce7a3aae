/-! The class's list of ways. -/
theorem widened_eq {t : St} {H : Nat} (hT : TbR t H) {q : Nat} (hq : q < 65536) : x8_widened t (jn q) = some (jn (wd H q)) := by
  have hm := mN_le H
  have l := lp_cnt (b := fun y : Int32 × Int32 => x8_widened_B4 t (jn q) y.1 y.2) (fun i z => (z, jn i)) (mN H)
    (fun i z => z = jn (orr (fun r => if q.testBit r then 2 ^ odr H r else 0) i))
    (fun z => z = jn (wd H q)) (by
      rintro i z hi rfl
      obtain ⟨o1, o2, o3⟩ := odr_ok hi
      refine ⟨_, ?_, rfl⟩
      dsimp only
      unfold x8_widened_B4
      rw [hT.2.1, if_neg (nle hi (by omega)), hT.1.1, gd_jn (by omega) (by omega), jn_cl (by omega), hT.2.2.1 i hi, jn_bit (by omega) (by omega)]
      simp only [nm, jn_s]
      have : (if q.testBit i = true then jn 1 else jn 0) <<< (jn (odr H i) &&& 31) = jn (if q.testBit i then 2 ^ odr H i else 0) := by
        cases q.testBit i with
        | true => exact jn_shl1 _ (by omega)
        | false =>
          show jn 0 <<< (jn (odr H i) &&& 31) = jn 0
          have z : ∀ s : Nat, s < 16 → jn 0 <<< (jn s &&& 31) = jn 0 := by decide
          exact z _ o1
      rw [this, jn_or]
      rfl) (by
      rintro z rfl
      exact ⟨_, by dsimp only; unfold x8_widened_B4; rw [hT.2.1, if_pos (lee (by omega))]; unfold wd; rfl, rfl⟩) 0 (jn 0) (by omega) rfl
  obtain ⟨z, k1, rfl⟩ := l
  unfold x8_widened
  rw [show ((0 : Int32), (0 : Int32)) = (jn 0, jn 0) from rfl, k1, bs]
theorem bit1_iff {x : Int64} {m : Nat} (hm : m < 64) : lg_cmp (ush x m &&& 1) 1 = 0 ↔ wb x m = true := by
  rw [lcmp_iff]
  have e : nB (ush x m &&& 1) = if wb x m then 1 else 0 := by
    rw [nB_and, nB_ush hm, show nB 1 = 1 from rfl, Nat.and_one_is_mod, wb_nat, Nat.shiftRight_eq_div_pow, Nat.testBit_eq_decide_div_mod_eq]
    unfold nB
    have := Nat.mod_two_eq_zero_or_one (x.toBitVec.toNat / 2 ^ m)
    rcases this with h | h
    · rw [h]; rfl
    · rw [h]; rfl
  constructor
  · intro h
    rw [h, show nB 1 = 1 from rfl] at e
    cases hb : wb x m with
    | true => rfl
    | false => rw [hb] at e; exact absurd e (by decide)
  · intro h
    rw [h, if_pos rfl] at e
    exact Int64.toBitVec.inj (BitVec.eq_of_toNat_eq e)
theorem cntB_skip {g : Nat → Bool} {a : Nat} : ∀ d, cntB g a ≤ cntB g (a + d) := by
  intro d
  induction d with
  | zero => exact Nat.le_refl _
  | succ d ih => exact Nat.le_trans ih (Nat.le_add_right _ _)
theorem wlS_cong {P Q : Nat → Bool} {n : Nat} (h : ∀ i, i < n → P i = Q i) : wlS P n = wlS Q n := by
  induction n with
  | zero => rfl
  | succ n ih => rw [wlS_s, wlS_s, h n (by omega), ih (fun i hi => h i (by omega))]
theorem wlS_lst {tx tm : St} (hK : RK tx tm) {k H : Nat} (hk : k < nK tm) (hH : ∀ s, (kH tm k).testBit s = true → H.testBit s = true) : (wlS (lstF (rwF tm H k) (mN H)) (64 * wdsN (mN H))).map (wd H) = wlS (mw tm k) 65536 := by
  rw [mw_list hK hk hH]
  congr 1
  by_cases h6 : 6 ≤ mN H
  · rw [wdsN_64 h6]
    exact wlS_cong fun q hq => lst_mw hq
  · have e1 : wdsN (mN H) = 1 := by unfold wdsN; rw [if_pos (by omega)]
    have p1 : 2 ^ mN H ≤ 2 ^ 5 := Nat.pow_le_pow_right (by omega) (by omega)
    rw [show (2 : Nat) ^ 5 = 32 from rfl] at p1
    rw [e1, show 64 * 1 = 2 ^ mN H + (64 * 1 - 2 ^ mN H) by omega, wlS_skip]
    · exact wlS_cong fun q hq => lst_mw hq
    · intro x h1 h2
      unfold lstF
      rw [decide_eq_false (by omega), Bool.and_false]
theorem findAll_eq {tx tm t : St} (hK : RK tx tm) {K : Nat} (hk : K < nK tm) (hT : TbK tm K t) (hB : gN t 808 ≤ 57344) (hO : ¬ Over tm K) (h3 : gN t 1003 = 200) : ∃ t', x10_findAll t = some (jn (wlS (mw tm K) 65536).length, t') ∧ fx [1003] [] t t' ∧ ∀ i, i < (wlS (mw tm K) 65536).length → gA t' 1003 i = jn ((wlS (mw tm K) 65536).getD i 0) := by
  obtain ⟨T, n8, ⟨base, b1, b2, b3⟩, -⟩ := hT
  have hm := mN_le (kH tm K)
  have hW := wdsN_le hm
  have c200 : cnw tm K ≤ 200 := by
    by_cases c : cnw tm K ≤ 200
    · exact c
    · exact absurd ⟨K, Need.top, by omega⟩ hO
  let P := lstF (rwF tm (kH tm K) K) (mN (kH tm K))
  have eL : (wlS P (64 * wdsN (mN (kH tm K)))).map (wd (kH tm K)) = wlS (mw tm K) 65536 := wlS_lst hK hk (fun _ h => h)
  have tot : cntB P (64 * wdsN (mN (kH tm K))) = cnw tm K := lst_cnt hK hk (fun _ h => h)
  have Is : ∀ (s : St) (n : Nat), Prop := fun s n => fx [1003] [] t s ∧ ∀ i, i < cntB P n → gA s 1003 i = jn (wd (kH tm K) ((wlS P n).getD i 0))
  have word : ∀ w, w < wdsN (mN (kH tm K)) → ∀ v : Int64, (∀ j, j < 64 → wb v j = P (64 * w + j)) → ¬ lg_cmp v 0 = 0 → ∀ d b s, d + b = 64 → (fx [1003] [] t s ∧ ∀ i, i < cntB P (64 * w + b) → gA s 1003 i = jn (wd (kH tm K) ((wlS P (64 * w + b)).getD i 0))) → ∃ s', lp (fun y : Int32 × Int32 × St => x10_findAll_B34 (jn w) v y.1 y.2.1 y.2.2) (jn (cntB P (64 * w + b)), jn b, s) = some (jn (cntB P (64 * w + 64)), s') ∧ fx [1003] [] t s' ∧ ∀ i, i < cntB P (64 * w + 64) → gA s' 1003 i = jn (wd (kH tm K) ((wlS P (64 * w + 64)).getD i 0)) := by
    intro w hw v hv hv0 d
    induction d with
    | zero =>
      intro b s hb hs
      have : b = 64 := by omega
      subst this
      exact ⟨s, lp_r (by dsimp only; unfold x10_findAll_B34; rw [if_pos (by decide)]), hs⟩
    | succ d ih =>
      intro b s hb ⟨f1, v1⟩
      have hs1 : cntB P (64 * w + (b + 1)) = cntB P (64 * w + b) + if P (64 * w + b) then 1 else 0 := rfl
      have hs2 : wlS P (64 * w + (b + 1)) = if P (64 * w + b) then wlS P (64 * w + b) ++ [64 * w + b] else wlS P (64 * w + b) := rfl
      have ub : ((v).toUInt64 >>> ((jn b).toInt64.toUInt64 &&& Int64.toUInt64 63)).toInt64 = ush v b := rfl
      have b64 : ¬ (64 : Int32) ≤ jn b := jnge (x := 64) 64 rfl (by omega) (by omega) (by omega)
      cases hP : P (64 * w + b) with
      | true =>
        have lt : cntB P (64 * w + b) < cnw tm K := by
          have := cntB_skip (g := P) (a := 64 * w + (b + 1)) (64 * wdsN (mN (kH tm K)) - (64 * w + (b + 1)))
          rw [show 64 * w + (b + 1) + (64 * wdsN (mN (kH tm K)) - (64 * w + (b + 1))) = 64 * wdsN (mN (kH tm K)) by omega, tot, hs1, hP, if_pos rfl] at this
          omega
        rw [hP, if_pos rfl] at hs1 hs2
        rw [lp_l (x := (jn (cntB P (64 * w + b)), jn b, s)) (x' := (jn (cntB P (64 * w + (b + 1))), jn (b + 1), sA s 1003 (jn (cntB P (64 * w + b))) (jn (wd (kH tm K) (64 * w + b))))) (by
          dsimp only
          unfold x10_findAll_B34
          rw [if_neg b64, if_neg hv0, ub, if_pos ((bit1_iff (by omega)).mpr (by rw [hv b (by omega), hP])), f1.2 1003 rfl, h3, show Int32.ofNat 200 = jn 200 from rfl, if_neg (nle (by omega) (by omega)), show (64 : Int32) = jn 64 from rfl, jn_mul, jn_add, show w * 64 + b = 64 * w + b by omega, widened_eq (T.fr f1) (by omega), bs, gd_jn (by omega) (by omega)]
          simp only [nm, jn_s]
          rw [hs1])]
        refine ih (b + 1) _ (by omega) ⟨f1.trans (fx_sA rfl), fun i hi => ?_⟩
        rw [gA_sA, jn_cl (by omega), hs2]
        rw [hs1] at hi
        have hlen := wlS_len P (64 * w + b)
        by_cases e : i = cntB P (64 * w + b)
        · subst e
          rw [upd_at, ← hlen, getD_r]
        · rw [upd_ne e, getD_l (by omega)]
          exact v1 i (by omega)
      | false =>
        rw [hP] at hs1 hs2
        rw [if_neg (show ¬ false = true by decide)] at hs1 hs2
        replace hs1 : cntB P (64 * w + (b + 1)) = cntB P (64 * w + b) := hs1
        rw [lp_l (x := (jn (cntB P (64 * w + b)), jn b, s)) (x' := (jn (cntB P (64 * w + (b + 1))), jn (b + 1), s)) (by
          dsimp only
          unfold x10_findAll_B34
          rw [if_neg b64, if_neg hv0, ub, if_neg (fun e => by
            rw [bit1_iff (by omega), hv b (by omega), hP] at e
            cases e)]
          simp only [nm, jn_s]
          rw [hs1])]
        refine ih (b + 1) s (by omega) ⟨f1, fun i hi => ?_⟩
        rw [hs2]
        exact v1 i (by omega)
  have key : ∀ d w s, d + w = wdsN (mN (kH tm K)) → (fx [1003] [] t s ∧ ∀ i, i < cntB P (64 * w) → gA s 1003 i = jn (wd (kH tm K) ((wlS P (64 * w)).getD i 0))) → ∃ s', lp (fun y : Int32 × Int32 × St => x10_findAll_B4 y.1 y.2.1 y.2.2) (jn (cntB P (64 * w)), jn w, s) = some (jn (cntB P (64 * wdsN (mN (kH tm K)))), s') ∧ fx [1003] [] t s' ∧ ∀ i, i < cntB P (64 * wdsN (mN (kH tm K))) → gA s' 1003 i = jn (wd (kH tm K) ((wlS P (64 * wdsN (mN (kH tm K)))).getD i 0)) := by
    intro d
    induction d with
    | zero =>
      intro w s hw hs
      have : w = wdsN (mN (kH tm K)) := by omega
      subst this
      exact ⟨s, lp_r (by dsimp only; unfold x10_findAll_B4; rw [(hs.1.1 804 rfl).1, T.2.2.2.2, if_pos (lee (by omega))]), hs⟩
    | succ d ih =>
      intro w s hw ⟨f1, v1⟩
      obtain ⟨v, j1, j2⟩ := leastWord_eq (T.fr f1) (b3.to fun w _ => by rw [(f1.1 808 rfl).2.2.2]) (by rw [f1.2 808 rfl]; omega) (by rw [f1.2 808 rfl]; exact hB) (show w < wdsN (mN (kH tm K)) by omega)
      have step : ∃ s', lp (fun y : Int32 × Int32 × St => x10_findAll_B34 (jn w) v y.1 y.2.1 y.2.2) (jn (cntB P (64 * w)), jn 0, s) = some (jn (cntB P (64 * w + 64)), s') ∧ fx [1003] [] t s' ∧ ∀ i, i < cntB P (64 * w + 64) → gA s' 1003 i = jn (wd (kH tm K) ((wlS P (64 * w + 64)).getD i 0)) := by
        by_cases c : lg_cmp v 0 = 0
        · have z : ∀ x, 64 * w ≤ x → x < 64 * w + 64 → P x = false := by
            intro x h1 h2
            obtain ⟨j, rfl⟩ : ∃ j, x = 64 * w + j := ⟨x - 64 * w, by omega⟩
            have := j2 j (by omega)
            rw [none_bit c] at this
            exact this.symm
          have e1 : wlS P (64 * w + 64) = wlS P (64 * w) := wlS_skip 64 z
          have e2 : cntB P (64 * w + 64) = cntB P (64 * w) := by rw [← wlS_len, ← wlS_len, e1]
          rw [e1, e2]
          exact ⟨s, lp_r (by dsimp only; unfold x10_findAll_B34; rw [if_neg (by decide), if_pos c]), f1, v1⟩
        · exact word w (by omega) v j2 c 64 0 s (by omega) ⟨f1, v1⟩
      obtain ⟨s', k1, k2, k3⟩ := step
      rw [lp_l (x := (jn (cntB P (64 * w)), jn w, s)) (x' := (jn (cntB P (64 * (w + 1))), jn (w + 1), s')) (by
        dsimp only
        unfold x10_findAll_B4
        rw [(f1.1 804 rfl).1, T.2.2.2.2, if_neg (nle (by omega) (by omega)), (f1.1 806 rfl).1, b1, j1, bs, show (0 : Int32) = jn 0 from rfl, k1, bs]
        simp only [nm, jn_s]
        rfl)]
      exact ih (w + 1) s' (by omega) ⟨k2, by rw [show 64 * (w + 1) = 64 * w + 64 by omega]; exact k3⟩
  obtain ⟨s', k1, k2, k3⟩ := key (wdsN (mN (kH tm K))) 0 t (by omega) ⟨fx.rfl, fun i hi => absurd hi (Nat.not_lt_zero i)⟩
  have elen : (wlS (mw tm K) 65536).length = cntB P (64 * wdsN (mN (kH tm K))) := by rw [← eL, List.length_map, wlS_len]
  refine ⟨s', ?_, k2, fun i hi => ?_⟩
  · unfold x10_findAll
    rw [elen, show ((0 : Int32), (0 : Int32), t) = (jn (cntB P (64 * 0)), jn 0, t) from rfl, k1, bs]
  · rw [elen] at hi
    rw [k3 i hi, ← eL]
    congr 1
    rw [List.getD_eq_getElem?_getD, List.getD_eq_getElem?_getD, List.getElem?_map, List.getElem?_eq_getElem (by rw [wlS_len]; exact hi)]
    rfl
