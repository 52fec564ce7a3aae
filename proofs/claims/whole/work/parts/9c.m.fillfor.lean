/-! The class's tables of a net. -/
theorem cnw_letter {tx tm : St} (hK : RK tx tm) {k : Nat} (hk : k < nK tm) (q : kS tm k = 0) : cnw tm k ≤ 1 := by
  obtain ⟨h1, h2⟩ := kH_letter hK hk q
  have only : ∀ x, x < 65536 → mw tm k x = true → x = 2 ^ kT tm k := by
    intro x hx h
    have hr : rch tm k x = true := by
      unfold mw at h
      rw [Bool.and_eq_true] at h
      exact h.1
    rw [rch_eq hK hk, if_pos q] at hr
    apply Nat.eq_of_testBit_eq
    intro s
    rw [Nat.testBit_two_pow]
    cases hb : x.testBit s with
    | true =>
      have := mw_sub hK hk h (bit_16 hx hb) hb
      rw [h1, Nat.testBit_two_pow] at this
      exact this.symm
    | false =>
      by_cases e : kT tm k = s
      · subst e; rw [hr] at hb; cases hb
      · rw [decide_eq_false e]
  have : cnw tm k ≤ cntB (fun x => decide (x = 2 ^ kT tm k)) 65536 := cntB_mono fun x hx h => decide_eq_true (only x hx h)
  have e : cntB (fun x => decide (x = 2 ^ kT tm k)) 65536 = 1 := by
    refine Eq.trans (smm_cong (g := fun x => if x = 2 ^ kT tm k then 1 else 0) fun x _ => ?_) (smm_one1 (Nat.pow_lt_pow_right (a := 2) (n := 16) (by omega) h2))
    by_cases z : x = 2 ^ kT tm k <;> simp [z]
  omega
theorem mn_need {tm : St} {K : Nat} {f g : Nat → Int32} (h : Mn tm K 0 f g) {j : Nat} (hj : j ≤ K) (e : f j = 1) : Need tm K j := by
  rcases h.2.1 j hj with h | h
  · rw [h] at e; exact absurd e (by decide)
  · exact h.2
theorem mn_all {tx tm : St} (hK : RK tx tm) {K : Nat} (hk : K < nK tm) {f g : Nat → Int32} (h : Mn tm K 0 f g) {j : Nat} (n : Need tm K j) : f j = 1 := n.ind (fun j => f j = 1) h.1 fun u i n1 ih q hi => h.2.2.1 u (Nat.zero_le _) (n1.le hK hk) ih _ ⟨q, i, hi, rfl⟩
theorem live_next {tx tm : St} (hK : RK tx tm) {K k : Nat} (hk : K < nK tm) {f g : Nat → Int32} (hM : Mn tm K 0 f g) (hkK : k ≤ K) (hz : ¬ Need tm K k ∨ kS tm k = 0) (j : Nat) : LiveK tm K g (k + 1) j ↔ LiveK tm K g k j := by
  have h250 := nK_lt hK
  constructor
  · rintro ⟨j1, j2, j3, j4⟩
    have e : j ≠ k := by
      intro e
      subst e
      rcases hz with h | h
      · exact h j2
      · exact j3 h
    refine ⟨by omega, j2, j3, ?_⟩
    rcases j4 with j4 | j4
    · exact Or.inl j4
    · right; omega
  · rintro ⟨j1, j2, j3, j4⟩
    refine ⟨by omega, j2, j3, ?_⟩
    rcases j4 with j4 | j4
    · exact Or.inl j4
    · right
      have jl := j2.le hK hk
      obtain ⟨u, -, u2, u3, u4, u5, -⟩ := hM.2.2.2 j (by omega) (mn_all hK hk hM j2)
      unfold luN at j4 ⊢
      rw [u3, jn_cl (by omega)] at j4 ⊢
      by_cases c : u = k
      · exfalso
        subst c
        rcases hz with h | h
        · exact h (mn_need hM u2 u4)
        · exact u5.1 h
      · omega
theorem FSt.skip {tx tm b s s' : St} (hK : RK tx tm) {H K k : Nat} (hk : K < nK tm) {f g : Nat → Int32} (hM : Mn tm K 0 f g) (hkK : k ≤ K) (hz : ¬ Need tm K k ∨ kS tm k = 0) (h : FSt tm H K f g b k s) (hf : fx [812] [] s s') (h12 : ∀ j, j ≠ k → gA s' 812 j = gA s 812 j) (hl : Need tm K k → kS tm k = 0 → gA s' 812 k = jn (rkN H (kT tm k))) : FSt tm H K f g b (k + 1) s' := by
  obtain ⟨fb, ⟨h01, hst⟩, hlt, hlv, hdi, hor⟩ := h
  have ln := live_next hK hk hM hkK hz
  have e9 : gA s' 809 = gA s 809 := (hf.1 809 rfl).2.2.1
  have e8 : gB s' 808 = gB s 808 := (hf.1 808 rfl).2.2.2
  have ne : ∀ j, LiveK tm K g k j → gA s' 812 j = gA s 812 j := fun j hj => h12 j (by have := hj.1; omega)
  refine ⟨fb.trans (hf.wk rfl rfl), ⟨by rw [e9]; exact h01, fun r hr => (hst r hr).to fun w _ => by rw [e8]⟩, fun j hj hn hq => ?_, fun j hj => ?_, fun j j' hj hj' e => ?_, fun r r1 r2 r3 => ?_⟩
  · by_cases e : j = k
    · subst e; exact hl hn hq
    · rw [h12 j e]; exact hlt j (by omega) hn hq
  · rw [ln] at hj
    obtain ⟨ρ, x1, x2, x3, x4, x5⟩ := hlv j hj
    exact ⟨ρ, x1, x2, by rw [ne j hj]; exact x3, by rw [e9]; exact x4, x5.to fun w _ => by rw [e8]⟩
  · rw [ln] at hj hj'
    rw [ne j hj, ne j' hj'] at e
    exact hdi j j' hj hj' e
  · rw [e9] at r3
    obtain ⟨j, hj, e⟩ := hor r r1 r2 r3
    exact ⟨j, (ln j).mpr hj, by rw [ne j hj]; exact e⟩
/-- too many least sets, below k -/
def OverK (tm : St) (K k : Nat) : Prop := ∃ j, j < k ∧ Need tm K j ∧ 200 < cnw tm j
def CntS (tm : St) (K k : Nat) (s : St) : Prop := LC tm s ∧ ((gI s 807 = 1 ∧ OverK tm K k) ∨ (gI s 807 = 0 ∧ ¬ OverK tm K k))
theorem CntS.skip {tx tm s s' : St} (hK : RK tx tm) {K k : Nat} (hk : K < nK tm) (hkK : k ≤ K) (hz : ¬ Need tm K k ∨ kS tm k = 0) (h : CntS tm K k s) (hf : fx [808, 809, 812, 814] [] s s') : CntS tm K (k + 1) s' := by
  have : OverK tm K (k + 1) ↔ OverK tm K k := by
    constructor
    · rintro ⟨j, j1, j2, j3⟩
      by_cases e : j = k
      · subst e
        rcases hz with h | h
        · exact absurd j2 h
        · have := cnw_letter hK (show j < nK tm by omega) h
          omega
      · exact ⟨j, by omega, j2, j3⟩
    · rintro ⟨j, j1, j2, j3⟩
      exact ⟨j, by omega, j2, j3⟩
  unfold CntS LC at *
  rw [(hf.1 807 rfl).1, (hf.1 813 rfl).2.2.1, this]
  exact h
def TbK (tm : St) (K : Nat) (t : St) : Prop := TbR t (kH tm K) ∧ 56 * wdsN (mN (kH tm K)) ≤ gN t 808 ∧ (∃ base, gI t 806 = jn base ∧ base + wdsN (mN (kH tm K)) ≤ 56 * wdsN (mN (kH tm K)) ∧ RowF t (rwF tm (kH tm K) K) base (wdsN (mN (kH tm K)))) ∧ ((gI t 807 = 1 ∧ Over tm K) ∨ (gI t 807 = 0 ∧ ¬ Over tm K))
def Tb0 (t : St) : Prop := (gN t 801 = 16 ∧ gN t 802 = 16) ∧ (gN t 809 = 56 ∧ gN t 810 = 330 ∧ gN t 811 = 330 ∧ gN t 812 = 330 ∧ gN t 813 = 330 ∧ gN t 814 = 9) ∧ ∃ i, i ≤ 10 ∧ gN t 808 = 56 * 2 ^ i
def RTb (tx tm : St) : Prop := Tb0 tx ∧ LC tm tx ∧ (gI tx 805 = -1 ∨ ∃ K, K < nK tm ∧ gI tx 805 = jn K ∧ TbK tm K tx)
theorem wdsN_pow (m : Nat) (h : m ≤ 16) : ∃ i, i ≤ 10 ∧ wdsN m = 2 ^ i := by
  unfold wdsN
  by_cases q : m ≤ 6
  · rw [if_pos q]; exact ⟨0, by omega, rfl⟩
  · rw [if_neg q]; exact ⟨m - 6, by omega, rfl⟩
theorem knot_step {tx tm b s : St} (hK : RK tx tm) (hQ : RQ tm) {K k : Nat} (hk : K < nK tm) {f g : Nat → Int32} (hM : Mn tm K 0 f g) {S T : List Nat} (hf : fx S T tx b) (hS : (S.elem 603 || S.elem 604 || S.elem 605 || S.elem 606 || S.elem 608) = false) (hT2 : (T.elem 603 || T.elem 604 || T.elem 605 || T.elem 606 || T.elem 608) = false) (hsz : gN b 809 = 56 ∧ gN b 810 = 330 ∧ gN b 811 = 330 ∧ gN b 812 = 330 ∧ gN b 813 = 330 ∧ gN b 814 = 9) (hff : gA b 810 = f) (hg : gA b 811 = g) (h5 : gI b 805 = jn K) (hT : TbR b (kH tm K)) (hN : 56 * wdsN (mN (kH tm K)) ≤ gN b 808) (hB : gN b 808 ≤ 57344) (h : FSt tm (kH tm K) K f g b k s) (hc : CntS tm K k s) (hkK : k ≤ K) : ∃ s', x8_fillFor_B144 (jn k) s = some (.inl (jn (k + 1), s')) ∧ FSt tm (kH tm K) K f g b (k + 1) s' ∧ CntS tm K (k + 1) s' := by
  have h250 := nK_lt hK
  have hm := mN_le (kH tm K)
  have hW := wdsN_le hm
  have fb := h.1
  obtain ⟨⟨z3, z4, z5, z6, z7⟩, -, -, hall⟩ := id hK
  obtain ⟨s1, s2, s3, d1, d2, d3, g1, g2, g3, m1, m2, q1, q2⟩ := hall k (by omega)
  have hS' := hS
  have hT2' := hT2
  simp only [Bool.or_eq_false_iff] at hS' hT2'
  obtain ⟨⟨⟨⟨a3, a4⟩, a5⟩, a6⟩, a8⟩ := hS'
  obtain ⟨⟨⟨⟨b3, b4⟩, b5⟩, b6⟩, b8⟩ := hT2'
  obtain ⟨n9, n10, n11, n12, n13, n14⟩ := hsz
  have g0 : ∀ {α : Type} (x : Option α), gd (jn k) 330 x = x := fun x => gd_jn (by omega) (by omega)
  have ck : (jn k).toNatClampNeg = k := jn_cl (by omega)
  unfold x8_fillFor_B144
  rw [(fb.1 805 rfl).1, h5, if_neg (fun e => by have := (jn_lt (by omega) (by omega)).mp e; omega), fb.2 810 rfl, n10, g0, ck, (fb.1 810 rfl).2.2.1, hff]
  rcases hM.2.1 k hkK with e | ⟨e, nd⟩
  · have nn : ¬ Need tm K k := fun n => by
      rw [mn_all hK hk hM n] at e
      exact absurd e (by decide)
    rw [if_pos e]
    simp only [nm, jn_s]
    exact ⟨s, rfl, h.skip hK hk hM hkK (Or.inl nn) fx.rfl (fun _ _ => rfl) (fun n => absurd n nn), hc.skip hK hk hkK (Or.inl nn) fx.rfl⟩
  · rw [if_neg (by rw [e]; decide), fb.2 603 rfl, hf.2 603 b3, z3, g0, (fb.1 603 rfl).2.2.1, (hf.1 603 a3).2.2.1, s3, s1]
    by_cases q : kS tm k = 0
    · obtain ⟨t1, t2, t3, -, -, hk2⟩ := q1 q
      have hb : (kH tm K).testBit (kT tm k) = true := need_H hK hk nd (by rw [hk2, Nat.testBit_two_pow_self])
      have T2 : gA s 802 (kT tm k) = jn (rkN (kH tm K) (kT tm k)) := (congrFun (fb.1 802 rfl).2.2.1 _).trans (hT.2.2.2.1 _ t2 hb)
      rw [if_pos (show jn (kS tm k) = 0 by rw [q]; rfl), fb.2 604 rfl, hf.2 604 b4, z4, g0, (fb.1 604 rfl).2.2.1, (hf.1 604 a4).2.2.1, t3, t1, fb.2 802 rfl, hT.1.2, gd_jn (by omega) (by omega), fb.2 812 rfl, n12, g0, jn_cl (by omega), T2]
      simp only [nm, jn_s]
      have f12 : fx [812] [] s (sA s 812 (jn k) (jn (rkN (kH tm K) (kT tm k)))) := fx_sA rfl
      refine ⟨_, rfl, h.skip hK hk hM hkK (Or.inr q) f12 (fun j hj => ?_) (fun _ _ => ?_), hc.skip hK hk hkK (Or.inr q) (f12.wk rfl rfl)⟩
      · rw [gA_sA, ck, upd_ne hj]
      · rw [gA_sA, ck, upd_at]
    · rw [if_neg (jn_nz q (by omega))]
      obtain ⟨u, k1, f1, F1, ρ, r1, r2, r3, r4⟩ := fillKnot_eq hK hQ hk hM hf hS hT2 ⟨n9, n11, n12, n14⟩ hg hT hN h hkK nd q
      have fbu : fx [807, 808, 809, 812, 813, 814] [] b u := F1.1
      have u13 : gA u 813 = gA s 813 := (f1.1 813 rfl).2.2.1
      have u7 : gI u 807 = gI s 807 := (f1.1 807 rfl).1
      have N13 : gN u 813 = 330 := (fbu.2 813 rfl).trans n13
      rw [k1, bs, N13, g0, u13]
      -- the counting's end
      have fin : ∀ (v : St) (c : Nat), fx [813] [] u v → gA v 813 k = jn c → capd c (cnw tm k) → 1 ≤ c → c ≤ 264 → LC tm v → ∃ s', x8_fillFor_J234 v (jn k) = some (.inl (jn (k + 1), s')) ∧ FSt tm (kH tm K) K f g b (k + 1) s' ∧ CntS tm K (k + 1) s' := by
        intro v c fv ec hcap c1 c2 hlc
        have Fv : ∀ w : St, fx [807, 813] [] u w → FSt tm (kH tm K) K f g b (k + 1) w := by
          intro w fw
          obtain ⟨y1, ⟨y2, y3⟩, y4, y5, y6, y7⟩ := F1
          have e9 : gA w 809 = gA u 809 := (fw.1 809 rfl).2.2.1
          have e12 : gA w 812 = gA u 812 := (fw.1 812 rfl).2.2.1
          have e8 : gB w 808 = gB u 808 := (fw.1 808 rfl).2.2.2
          refine ⟨y1.trans (fw.wk rfl rfl), ⟨by rw [e9]; exact y2, fun r hr => (y3 r hr).to fun w _ => by rw [e8]⟩, by rw [e12]; exact y4, fun j hj => ?_, by rw [e12]; exact y6, by rw [e9, e12]; exact y7⟩
          obtain ⟨ρ', x1, x2, x3, x4, x5⟩ := y5 j hj
          exact ⟨ρ', x1, x2, by rw [e12]; exact x3, by rw [e9]; exact x4, x5.to fun w _ => by rw [e8]⟩
        have ov : OverK tm K (k + 1) ↔ (OverK tm K k ∨ 200 < cnw tm k) := by
          constructor
          · rintro ⟨j, j1, j2, j3⟩
            by_cases e : j = k
            · subst e; exact Or.inr j3
            · exact Or.inl ⟨j, by omega, j2, j3⟩
          · rintro (⟨j, j1, j2, j3⟩ | h)
            · exact ⟨j, by omega, j2, j3⟩
            · exact ⟨k, by omega, nd, h⟩
        unfold x8_fillFor_J234
        rw [fv.2 813 rfl, N13, g0, ck, ec]
        by_cases c3 : c ≤ 200
        · have n200 : ¬ 200 < cnw tm k := by
            rcases hcap with ⟨h1, h2⟩ | ⟨h1, h2⟩
            · omega
            · omega
          rw [if_pos (jle (x := 200) 200 rfl c3 (by omega))]
          simp only [nm, jn_s]
          refine ⟨v, rfl, Fv v (fv.wk rfl rfl), hlc, ?_⟩
          rw [(fv.1 807 rfl).1, u7, ov]
          rcases hc.2 with ⟨h1, h2⟩ | ⟨h1, h2⟩
          · exact Or.inl ⟨h1, Or.inl h2⟩
          · exact Or.inr ⟨h1, fun h => h.elim h2 n200⟩
        · have g200 : 200 < cnw tm k := by
            rcases hcap with ⟨h1, h2⟩ | ⟨h1, h2⟩
            · omega
            · exact h2.1
          rw [if_neg (jnle (x := 200) 200 rfl (by omega) (by omega))]
          simp only [nm, jn_s]
          exact ⟨sI v 807 1, rfl, Fv _ ((fv.wk rfl rfl).trans (fx_sI rfl)), hlc, Or.inl ⟨rfl, ov.mpr (Or.inr g200)⟩⟩
      have hl : LC tm u := by
        intro j hj
        rw [u13]
        exact hc.1 j hj
      by_cases c0 : gA s 813 k = 0
      · rw [if_pos c0, fbu.2 812 rfl, n12, g0, r3, (fbu.1 804 rfl).1, hT.2.2.2.2, jn_mul]
        have ρW := row_in (W := wdsN (mN (kH tm K))) (show ρ < 56 by omega)
        obtain ⟨c, j1, j2⟩ := countLeast_eq (hT.fr fbu) r4 (by rw [fbu.2 808 rfl]; omega) (by rw [fbu.2 808 rfl]; exact hB)
        have lc : cntB (lstF (rwF tm (kH tm K) k) (mN (kH tm K))) (64 * wdsN (mN (kH tm K))) = cnw tm k := lst_cnt hK (by omega) (fun s hs => need_H hK hk nd hs)
        rw [lc] at j2
        have pos := cnw_pos hK (show k < nK tm by omega)
        have cb : 1 ≤ c ∧ c ≤ 264 := by
          rcases j2 with ⟨h1, h2⟩ | ⟨h1, h2, h3⟩
          · omega
          · omega
        rw [j1, bs, g0]
        simp only [nm]
        refine fin _ c (fx_sA rfl) (by rw [gA_sA, ck, upd_at]) j2 cb.1 cb.2 fun j hj => ?_
        rw [gA_sA, ck]
        by_cases z : j = k
        · subst z
          rw [upd_at]
          exact Or.inr ⟨c, rfl, cb.1, cb.2, by omega, j2⟩
        · rw [upd_ne z]; exact hl j hj
      · rw [if_neg c0]
        rcases hc.1 k (by omega) with e0 | ⟨c, c1, c2, c3, c4, c5⟩
        · exact absurd e0 c0
        · exact fin u c fx.rfl (by rw [u13]; exact c1) c5 c2 c3 hl
