/-! What is reached: only the net's own steps tell; more steps reach more. -/
theorem cntB_pos {g : Nat → Bool} {n i : Nat} (hi : i < n) (h : g i = true) : 1 ≤ cntB g n := by
  have := cntB_mono (f := fun j => decide (j = i)) (g := g) (n := n) (fun j _ hj => by rw [of_decide_eq_true hj]; exact h)
  have e : cntB (fun j => decide (j = i)) n = 1 := by
    unfold cntB
    refine Eq.trans (smm_cong (g := fun j => if j = i then 1 else 0) fun j _ => ?_) (smm_one1 hi)
    by_cases z : j = i <;> simp [z]
  omega
theorem cntB_all {g : Nat → Bool} {n : Nat} (h : ∀ i, i < n → g i = true) : cntB g n = n := by
  have h1 := cntB_le g n
  have h2 := cntB_up (g := g) (n := n) (Nat.le_refl n) h
  omega
theorem orr_bit' {f : Nat → Nat} {n i s : Nat} (hi : i < n) (h : (f i).testBit s = true) : (orr f n).testBit s = true := by
  induction n with
  | zero => omega
  | succ n ih =>
    show (orr f n ||| f n).testBit s = true
    rw [Nat.testBit_or]
    by_cases e : i = n
    · subst e
      rw [h, Bool.or_true]
    · rw [ih (by omega), Bool.true_or]
theorem kH_row {tx tm : St} (hK : RK tx tm) {k : Nat} (hk : k < nK tm) (q : kS tm k ≠ 0) : kH tm k = orr (fun i => kH tm (kP tm k i)) (kN tm k) := ((hK.2.2.2 k hk).2.2.2.2.2.2.2.2.2.2.2.2 q).2.2.2.2.2.2.2.2
theorem kH_letter {tx tm : St} (hK : RK tx tm) {k : Nat} (hk : k < nK tm) (q : kS tm k = 0) : kH tm k = 2 ^ kT tm k ∧ kT tm k < 16 := ⟨((hK.2.2.2 k hk).2.2.2.2.2.2.2.2.2.2.2.1 q).2.2.2.2.2, ((hK.2.2.2 k hk).2.2.2.2.2.2.2.2.2.2.2.1 q).2.1⟩
theorem kH_lt {tx tm : St} (hK : RK tx tm) {k : Nat} (hk : k < nK tm) : kH tm k < 65536 := (hK.2.2.2 k hk).2.2.2.2.2.2.2.1
theorem rch_mono {tx tm : St} (hK : RK tx tm) {a b : Nat} : ∀ k, k < nK tm → (∀ s, (kH tm k).testBit s = true → a.testBit s = true → b.testBit s = true) → rch tm k a = true → rch tm k b = true := by
  intro k
  induction k using Nat.strongRecOn with
  | _ k ih =>
    intro hk hab h
    rw [rch_eq hK hk] at h ⊢
    by_cases q : kS tm k = 0
    · rw [if_pos q] at h ⊢
      refine hab _ ?_ h
      rw [(kH_letter hK hk q).1, Nat.testBit_two_pow_self]
    · rw [if_neg q] at h ⊢
      have h1 := of_decide_eq_true h
      refine decide_eq_true (Nat.le_trans h1 (cntB_mono fun i hi hr => ?_))
      have hp := kP_lt hK hk q hi
      refine ih _ hp (by omega) (fun s hs => hab s ?_) hr
      rw [kH_row hK hk q]
      exact orr_bit' hi hs
theorem rch_agree {tx tm : St} (hK : RK tx tm) {a b k : Nat} (hk : k < nK tm) (h : ∀ s, (kH tm k).testBit s = true → a.testBit s = b.testBit s) : rch tm k a = rch tm k b := by
  have h1 := rch_mono hK (a := a) (b := b) k hk (fun s hs e => by rw [← h s hs]; exact e)
  have h2 := rch_mono hK (a := b) (b := a) k hk (fun s hs e => by rw [h s hs]; exact e)
  cases ha : rch tm k a with
  | true => exact (h1 ha).symm
  | false =>
    cases hb : rch tm k b with
    | true => rw [h2 hb] at ha; cases ha
    | false => rfl
theorem kE_ok {tx tm : St} (hK : RK tx tm) {k : Nat} (hk : k < nK tm) (q : kS tm k ≠ 0) : 1 ≤ kE tm k ∧ kE tm k ≤ kN tm k := by
  obtain ⟨e1, e2, e3, e4, e5, e7, e8, e6, -⟩ := (hK.2.2.2 k hk).2.2.2.2.2.2.2.2.2.2.2.2 q
  unfold kE
  by_cases a : kS tm k = 1
  · rw [if_pos a]; omega
  · rw [if_neg a]
    by_cases b : kS tm k = 4
    · rw [if_pos b]; have := e7 b; omega
    · rw [if_neg b]; omega
theorem rch_full {tx tm : St} (hK : RK tx tm) {a : Nat} : ∀ k, k < nK tm → (∀ s, (kH tm k).testBit s = true → a.testBit s = true) → rch tm k a = true := by
  intro k
  induction k using Nat.strongRecOn with
  | _ k ih =>
    intro hk ha
    rw [rch_eq hK hk]
    by_cases q : kS tm k = 0
    · rw [if_pos q]
      refine ha _ ?_
      rw [(kH_letter hK hk q).1, Nat.testBit_two_pow_self]
    · rw [if_neg q, cntB_all fun i hi => ih _ (kP_lt hK hk q hi) (by have := kP_lt hK hk q hi; omega) (fun s hs => ha s (by rw [kH_row hK hk q]; exact orr_bit' hi hs))]
      exact decide_eq_true (kE_ok hK hk q).2
theorem rch_none {tx tm : St} (hK : RK tx tm) {a : Nat} : ∀ k, k < nK tm → (∀ s, (kH tm k).testBit s = true → a.testBit s = false) → rch tm k a = false := by
  intro k
  induction k using Nat.strongRecOn with
  | _ k ih =>
    intro hk ha
    rw [rch_eq hK hk]
    by_cases q : kS tm k = 0
    · rw [if_pos q]
      refine ha _ ?_
      rw [(kH_letter hK hk q).1, Nat.testBit_two_pow_self]
    · rw [if_neg q]
      have := cntB_dn (g := fun i => rch tm (kP tm k i) a) (n := kN tm k) (m := 0) (fun i _ hi => ih _ (kP_lt hK hk q hi) (by have := kP_lt hK hk q hi; omega) (fun s hs => ha s (by rw [kH_row hK hk q]; exact orr_bit' hi hs)))
      have := kE_ok hK hk q
      exact decide_eq_false (by omega)
theorem lss_f {tm : St} {k set : Nat} (h : lss tm k set = false) {s : Nat} (hs : s < 16) (hb : set.testBit s = true) : rch tm k (clr set s) = false := by
  cases hr : rch tm k (clr set s) with
  | false => rfl
  | true =>
    have : lss tm k set = true := anyB_t.mpr ⟨s, hs, by rw [hb, hr]; rfl⟩
    rw [this] at h
    cases h
theorem mw_sub {tx tm : St} (hK : RK tx tm) {k set : Nat} (hk : k < nK tm) (h : mw tm k set = true) {s : Nat} (hs : s < 16) (hb : set.testBit s = true) : (kH tm k).testBit s = true := by
  unfold mw at h
  rw [Bool.and_eq_true] at h
  have h2 : lss tm k set = false := by simpa using h.2
  have h3 := lss_f h2 hs hb
  cases hh : (kH tm k).testBit s with
  | true => rfl
  | false =>
    rw [rch_agree hK (a := clr set s) (b := set) hk (fun i hi => by
      rw [clr_bit hb]
      by_cases e : i = s
      · subst e; rw [hh] at hi; cases hi
      · rw [decide_eq_false e]; simp), h.1] at h3
    cases h3
/-- under each set that reaches there is a least one -/
theorem mw_under {tm : St} {k : Nat} : ∀ set, set < 65536 → rch tm k set = true → ∃ x, x ≤ set ∧ x < 65536 ∧ (∀ s, x.testBit s = true → set.testBit s = true) ∧ mw tm k x = true := by
  intro set
  induction set using Nat.strongRecOn with
  | _ set ih =>
    intro hset h
    cases hl : lss tm k set with
    | false => exact ⟨set, Nat.le_refl _, hset, fun _ h => h, by unfold mw; rw [h, hl]; rfl⟩
    | true =>
      obtain ⟨s, hs, hb⟩ := anyB_t.mp hl
      rw [Bool.and_eq_true] at hb
      have lt := clr_lt hb.1
      obtain ⟨x, x1, x2, x3, x4⟩ := ih (clr set s) lt (by omega) hb.2
      refine ⟨x, by omega, x2, fun i hi => ?_, x4⟩
      have := x3 i hi
      rw [clr_bit hb.1, Bool.and_eq_true] at this
      exact this.1
theorem cnw_pos {tx tm : St} (hK : RK tx tm) {k : Nat} (hk : k < nK tm) : 1 ≤ cnw tm k := by
  obtain ⟨x, -, h2, -, h4⟩ := mw_under (tm := tm) (k := k) (kH tm k) (kH_lt hK hk) (rch_full hK k hk (fun _ h => h))
  exact cntB_pos h2 h4
theorem mw_0 {tx tm : St} (hK : RK tx tm) {k : Nat} (hk : k < nK tm) : mw tm k 0 = false := by
  unfold mw
  rw [rch_none hK k hk (fun s _ => Nat.zero_testBit s)]
  rfl
/-! the net's own steps by rank -/
def rkN (H s : Nat) : Nat := (csL H s).length
def odr (H r : Nat) : Nat := (csL H 16).getD r 0
def mN (H : Nat) : Nat := rkN H 16
theorem csL_rank {H : Nat} : ∀ n s, s < n → H.testBit s = true → (csL H n).getD (rkN H s) 0 = s := by
  intro n
  induction n with
  | zero => intro s h; omega
  | succ n ih =>
    intro s hs hb
    rw [csL_s]
    by_cases e : s = n
    · subst e
      rw [if_pos hb]
      exact getD_r
    · have h1 := ih s (by omega) hb
      have h2 : rkN H s < (csL H n).length := by
        have : rkN H (s + 1) ≤ (csL H n).length := csL_mono H (by omega)
        unfold rkN at this ⊢
        rw [csL_s, if_pos hb, List.length_append] at this
        exact this
      split
      · rw [getD_l h2]; exact h1
      · exact h1
theorem odr_rk {H s : Nat} (hs : s < 16) (hb : H.testBit s = true) : odr H (rkN H s) = s := csL_rank 16 s hs hb
theorem rk_lt {H s : Nat} (hs : s < 16) (hb : H.testBit s = true) : rkN H s < mN H := by
  have : rkN H (s + 1) ≤ mN H := csL_mono H (by omega)
  unfold rkN at this ⊢
  rw [csL_s, if_pos hb, List.length_append] at this
  exact this
theorem csL_at {H : Nat} : ∀ n r, r < (csL H n).length → (csL H n).getD r 0 < n ∧ H.testBit ((csL H n).getD r 0) = true ∧ rkN H ((csL H n).getD r 0) = r := by
  intro n
  induction n with
  | zero => intro r h; exact absurd h (by show ¬ r < 0; omega)
  | succ n ih =>
    intro r hr
    rw [csL_s] at hr ⊢
    by_cases hb : H.testBit n = true
    · rw [if_pos hb] at hr ⊢
      rw [List.length_append] at hr
      by_cases e : r < (csL H n).length
      · rw [getD_l e]
        obtain ⟨h1, h2, h3⟩ := ih r e
        exact ⟨by omega, h2, h3⟩
      · have hr2 : r < (csL H n).length + 1 := hr
        have : r = (csL H n).length := by omega
        subst this
        rw [getD_r]
        exact ⟨Nat.lt_succ_self n, hb, rfl⟩
    · rw [if_neg hb] at hr ⊢
      obtain ⟨h1, h2, h3⟩ := ih r hr
      exact ⟨by omega, h2, h3⟩
theorem odr_ok {H r : Nat} (h : r < mN H) : odr H r < 16 ∧ H.testBit (odr H r) = true ∧ rkN H (odr H r) = r := csL_at 16 r h
theorem mN_le (H : Nat) : mN H ≤ 16 := by
  unfold mN rkN
  rw [pc_len]
  exact popc_le 16 H
/-- a set told by ranks, told by steps -/
def wd (H q : Nat) : Nat := orr (fun r => if q.testBit r then 2 ^ odr H r else 0) (mN H)
def nw (H set : Nat) : Nat := orr (fun r => if set.testBit (odr H r) then 2 ^ r else 0) (mN H)
theorem orr_tb {f : Nat → Nat} {s : Nat} : ∀ n, (orr f n).testBit s = anyB (fun i => (f i).testBit s) n := by
  intro n
  induction n with
  | zero => exact Nat.zero_testBit s
  | succ n ih =>
    show (orr f n ||| f n).testBit s = (anyB _ n || _)
    rw [Nat.testBit_or, ih]
theorem wd_bit {H q s : Nat} (hs : s < 16) : (wd H q).testBit s = (H.testBit s && q.testBit (rkN H s)) := by
  unfold wd
  rw [orr_tb]
  cases hb : H.testBit s with
  | true =>
    have hr := rk_lt hs hb
    cases hq : q.testBit (rkN H s) with
    | true =>
      rw [anyB_t.mpr ⟨rkN H s, hr, by rw [hq, if_pos rfl, odr_rk hs hb, Nat.testBit_two_pow_self]⟩]
      rfl
    | false =>
      cases hh : anyB (fun i => (if q.testBit i = true then 2 ^ odr H i else 0).testBit s) (mN H) with
      | false => rfl
      | true =>
        obtain ⟨r, h1, h2⟩ := anyB_t.mp hh
        obtain ⟨o1, o2, o3⟩ := odr_ok h1
        cases hqr : q.testBit r with
        | true =>
          rw [hqr, if_pos rfl, Nat.testBit_two_pow] at h2
          have := of_decide_eq_true h2
          rw [this] at o3
          rw [o3, hqr] at hq
          cases hq
        | false =>
          rw [hqr, if_neg (by decide), Nat.zero_testBit] at h2
          cases h2
  | false =>
    cases hh : anyB (fun i => (if q.testBit i = true then 2 ^ odr H i else 0).testBit s) (mN H) with
    | false => rfl
    | true =>
      obtain ⟨r, h1, h2⟩ := anyB_t.mp hh
      obtain ⟨o1, o2, o3⟩ := odr_ok h1
      cases hqr : q.testBit r with
      | true =>
        rw [hqr, if_pos rfl, Nat.testBit_two_pow] at h2
        have := of_decide_eq_true h2
        rw [this, hb] at o2
        cases o2
      | false =>
        rw [hqr, if_neg (by decide), Nat.zero_testBit] at h2
        cases h2
theorem wd_lt (H q : Nat) : wd H q < 65536 := orr_lt (w := 16) fun r hr => by
  split
  · exact Nat.pow_lt_pow_right (by omega) (odr_ok hr).1
  · exact Nat.two_pow_pos 16
theorem nw_bit {H set r : Nat} : (nw H set).testBit r = (decide (r < mN H) && set.testBit (odr H r)) := by
  unfold nw
  rw [orr_tb]
  by_cases hr : r < mN H
  · rw [decide_eq_true hr, Bool.true_and]
    cases hq : set.testBit (odr H r) with
    | true => exact anyB_t.mpr ⟨r, hr, by rw [hq, if_pos rfl, Nat.testBit_two_pow_self]⟩
    | false =>
      cases hh : anyB (fun i => (if set.testBit (odr H i) = true then 2 ^ i else 0).testBit r) (mN H) with
      | false => rfl
      | true =>
        obtain ⟨x, h1, h2⟩ := anyB_t.mp hh
        cases hx : set.testBit (odr H x) with
        | true =>
          rw [hx, if_pos rfl, Nat.testBit_two_pow] at h2
          have := of_decide_eq_true h2
          subst this
          rw [hx] at hq
          cases hq
        | false =>
          rw [hx, if_neg (by decide), Nat.zero_testBit] at h2
          cases h2
  · rw [decide_eq_false hr, Bool.false_and]
    cases hh : anyB (fun i => (if set.testBit (odr H i) = true then 2 ^ i else 0).testBit r) (mN H) with
    | false => rfl
    | true =>
      obtain ⟨x, h1, h2⟩ := anyB_t.mp hh
      cases hx : set.testBit (odr H x) with
      | true =>
        rw [hx, if_pos rfl, Nat.testBit_two_pow] at h2
        have := of_decide_eq_true h2
        omega
      | false =>
        rw [hx, if_neg (by decide), Nat.zero_testBit] at h2
        cases h2
theorem nw_lt (H set : Nat) : nw H set < 2 ^ mN H := orr_lt (w := mN H) fun r hr => by
  split
  · exact Nat.pow_lt_pow_right (by omega) hr
  · exact Nat.two_pow_pos _
theorem nw_wd {H q : Nat} (hq : q < 2 ^ mN H) : nw H (wd H q) = q := by
  apply Nat.eq_of_testBit_eq
  intro r
  rw [nw_bit]
  by_cases hr : r < mN H
  · obtain ⟨o1, o2, o3⟩ := odr_ok hr
    rw [decide_eq_true hr, wd_bit o1, o2, o3, Bool.true_and, Bool.true_and]
  · rw [decide_eq_false hr, Bool.false_and, Nat.testBit_lt_two_pow (Nat.lt_of_lt_of_le hq (Nat.pow_le_pow_right (by omega) (by omega)))]
theorem bit_16 {set s : Nat} (h : set < 65536) (hb : set.testBit s = true) : s < 16 := by
  by_cases q : s < 16
  · exact q
  · rw [Nat.testBit_lt_two_pow (Nat.lt_of_lt_of_le h (by rw [show 65536 = 2 ^ 16 from rfl]; exact Nat.pow_le_pow_right (by omega) (by omega)))] at hb
    cases hb
theorem wd_nw {H set : Nat} (hset : set < 65536) (hsub : ∀ s, set.testBit s = true → H.testBit s = true) : wd H (nw H set) = set := by
  apply Nat.eq_of_testBit_eq
  intro s
  by_cases hs : s < 16
  · rw [wd_bit hs, nw_bit]
    cases hb : H.testBit s with
    | true => rw [decide_eq_true (rk_lt hs hb), odr_rk hs hb, Bool.true_and, Bool.true_and]
    | false =>
      cases hx : set.testBit s with
      | true => rw [hsub s hx] at hb; cases hb
      | false => rfl
  · cases h1 : (wd H (nw H set)).testBit s with
    | true => exact absurd (bit_16 (wd_lt _ _) h1) hs
    | false =>
      cases h2 : set.testBit s with
      | true => exact absurd (bit_16 hset h2) hs
      | false => rfl
