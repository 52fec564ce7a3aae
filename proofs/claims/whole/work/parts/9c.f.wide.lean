/-! Sets by ranks, in the same order as sets by steps. -/
theorem top_diff {p q : Nat} (h : p < q) : ∃ i, p.testBit i = false ∧ q.testBit i = true ∧ ∀ j, i < j → p.testBit j = q.testBit j := by
  induction q using Nat.strongRecOn generalizing p with
  | _ q ih =>
    by_cases c : p / 2 < q / 2
    · obtain ⟨i, h1, h2, h3⟩ := ih (q / 2) (by omega) c
      refine ⟨i + 1, by rw [Nat.testBit_succ]; exact h1, by rw [Nat.testBit_succ]; exact h2, fun j hj => ?_⟩
      cases j with
      | zero => omega
      | succ j => rw [Nat.testBit_succ, Nat.testBit_succ]; exact h3 j (by omega)
    · have e : p / 2 = q / 2 := by omega
      refine ⟨0, ?_, ?_, fun j hj => ?_⟩
      · rw [Nat.testBit_zero, show p % 2 = 0 by omega]; rfl
      · rw [Nat.testBit_zero, show q % 2 = 1 by omega]; rfl
      · cases j with
        | zero => omega
        | succ j => rw [Nat.testBit_succ, Nat.testBit_succ, e]
theorem lt_bits : ∀ (i x y : Nat), x.testBit i = false → y.testBit i = true → (∀ j, i < j → x.testBit j = y.testBit j) → x < y := by
  intro i
  induction i with
  | zero =>
    intro x y h1 h2 h3
    have e : x / 2 = y / 2 := Nat.eq_of_testBit_eq fun j => by rw [← Nat.testBit_succ, ← Nat.testBit_succ]; exact h3 (j + 1) (by omega)
    rw [Nat.testBit_zero] at h1 h2
    simp only [decide_eq_true_eq, decide_eq_false_iff_not] at h1 h2
    omega
  | succ i ih =>
    intro x y h1 h2 h3
    rw [Nat.testBit_succ] at h1 h2
    have := ih (x / 2) (y / 2) h1 h2 fun j hj => by rw [← Nat.testBit_succ, ← Nat.testBit_succ]; exact h3 (j + 1) (by omega)
    omega
theorem rkN_mono (H : Nat) {s u : Nat} (h : s ≤ u) : rkN H s ≤ rkN H u := csL_mono H h
theorem rkN_s (H s : Nat) : rkN H (s + 1) = rkN H s + if H.testBit s then 1 else 0 := by
  unfold rkN
  rw [csL_s]
  split
  · rw [List.length_append]; rfl
  · rfl
theorem wd_mono {H p q : Nat} (hq : q < 2 ^ mN H) (h : p < q) : wd H p < wd H q := by
  obtain ⟨i, h1, h2, h3⟩ := top_diff h
  have hi : i < mN H := by
    by_cases c : i < mN H
    · exact c
    · rw [Nat.testBit_lt_two_pow (Nat.lt_of_lt_of_le hq (Nat.pow_le_pow_right (by omega) (by omega)))] at h2
      cases h2
  obtain ⟨o1, o2, o3⟩ := odr_ok hi
  refine lt_bits (odr H i) _ _ ?_ ?_ ?_
  · rw [wd_bit o1, o2, o3, h1, Bool.and_false]
  · rw [wd_bit o1, o2, o3, h2, Bool.and_true]
  · intro j hj
    by_cases c : j < 16
    · rw [wd_bit c, wd_bit c]
      cases hb : H.testBit j with
      | true =>
        rw [h3]
        have := rkN_mono H (show odr H i + 1 ≤ j by omega)
        rw [rkN_s, o2, if_pos rfl, o3] at this
        omega
      | false => rfl
    · cases h4 : (wd H p).testBit j with
      | true => exact absurd (bit_16 (wd_lt _ _) h4) c
      | false =>
        cases h5 : (wd H q).testBit j with
        | true => exact absurd (bit_16 (wd_lt _ _) h5) c
        | false => rfl
theorem wd_clr {H q s : Nat} (hs : s < 16) (hb : H.testBit s = true) (hq : q.testBit (rkN H s) = true) : clr (wd H q) s = wd H (clr q (rkN H s)) := by
  have h1 : (wd H q).testBit s = true := by rw [wd_bit hs, hb, hq]; rfl
  apply Nat.eq_of_testBit_eq
  intro i
  rw [clr_bit h1]
  by_cases hi : i < 16
  · rw [wd_bit hi, wd_bit hi, clr_bit hq]
    cases hbi : H.testBit i with
    | true =>
      have : decide (rkN H i = rkN H s) = decide (i = s) := by
        apply decide_eq_decide.mpr
        constructor
        · intro e
          rw [← odr_rk hi hbi, e, odr_rk hs hb]
        · intro e; rw [e]
      rw [this, Bool.true_and, Bool.true_and]
    | false => rfl
  · cases h4 : (wd H q).testBit i with
    | true => exact absurd (bit_16 (wd_lt _ _) h4) hi
    | false =>
      cases h5 : (wd H (clr q (rkN H s))).testBit i with
      | true => exact absurd (bit_16 (wd_lt _ _) h5) hi
      | false => rfl
/-- least, told by ranks -/
def lsR (tm : St) (k H q : Nat) : Bool := anyB (fun r => q.testBit r && rch tm k (wd H (clr q r))) (mN H)
theorem mw_wd {tm : St} {k H q : Nat} : mw tm k (wd H q) = (rch tm k (wd H q) && !lsR tm k H q) := by
  unfold mw
  congr 2
  unfold lss lsR
  cases h : anyB (fun r => q.testBit r && rch tm k (wd H (clr q r))) (mN H) with
  | true =>
    obtain ⟨r, h1, h2⟩ := anyB_t.mp h
    obtain ⟨o1, o2, o3⟩ := odr_ok h1
    rw [Bool.and_eq_true] at h2
    refine anyB_t.mpr ⟨odr H r, o1, ?_⟩
    rw [wd_bit o1, o2, o3, h2.1, wd_clr o1 o2 (by rw [o3]; exact h2.1), o3, h2.2]
    rfl
  | false =>
    cases h2 : anyB (fun s => (wd H q).testBit s && rch tm k (clr (wd H q) s)) 16 with
    | false => rfl
    | true =>
      obtain ⟨s, s1, s2⟩ := anyB_t.mp h2
      rw [Bool.and_eq_true, wd_bit s1, Bool.and_eq_true] at s2
      obtain ⟨⟨b1, b2⟩, b3⟩ := s2
      rw [wd_clr s1 b1 b2] at b3
      have : anyB (fun r => q.testBit r && rch tm k (wd H (clr q r))) (mN H) = true := anyB_t.mpr ⟨rkN H s, rk_lt s1 b1, by rw [b2, b3]; rfl⟩
      rw [this] at h
      cases h
/-- rising lists with the same numbers are the same -/
def RiseL : List Nat → Prop
  | [] => True
  | a :: l => (∀ x ∈ l, a < x) ∧ RiseL l
theorem rise_eq : ∀ {l m : List Nat}, RiseL l → RiseL m → (∀ x, x ∈ l ↔ x ∈ m) → l = m := by
  intro l
  induction l with
  | nil =>
    intro m _ _ h
    cases m with
    | nil => rfl
    | cons b m => exact absurd ((h b).mpr List.mem_cons_self) List.not_mem_nil
  | cons a l ih =>
    intro m hl hm h
    cases m with
    | nil => exact absurd ((h a).mp List.mem_cons_self) List.not_mem_nil
    | cons b m =>
      have e : a = b := by
        rcases List.mem_cons.mp ((h a).mp List.mem_cons_self) with e | e
        · exact e
        · rcases List.mem_cons.mp ((h b).mpr List.mem_cons_self) with e2 | e2
          · exact e2.symm
          · have := hm.1 a e
            have := hl.1 b e2
            omega
      subst e
      rw [ih hl.2 hm.2 fun x => ?_]
      constructor
      · intro hx
        rcases List.mem_cons.mp ((h x).mp (List.mem_cons_of_mem _ hx)) with e | e
        · have := hl.1 x hx; omega
        · exact e
      · intro hx
        rcases List.mem_cons.mp ((h x).mpr (List.mem_cons_of_mem _ hx)) with e | e
        · have := hm.1 x hx; omega
        · exact e
theorem rise_app : ∀ {l : List Nat} {x : Nat}, RiseL l → (∀ y ∈ l, y < x) → RiseL (l ++ [x]) := by
  intro l
  induction l with
  | nil => intro x _ _; exact ⟨fun y hy => absurd hy List.not_mem_nil, trivial⟩
  | cons a l ih =>
    intro x hl hx
    refine ⟨fun y hy => ?_, ih hl.2 fun y hy => hx y (List.mem_cons_of_mem _ hy)⟩
    rcases List.mem_append.mp hy with h | h
    · exact hl.1 y h
    · rw [List.mem_singleton.mp h]; exact hx a List.mem_cons_self
theorem wlS_rise (P : Nat → Bool) : ∀ n, RiseL (wlS P n) := by
  intro n
  induction n with
  | zero => trivial
  | succ n ih =>
    rw [wlS_s]
    split
    · exact rise_app ih fun y hy => ((wlS_mem n).mp hy).1
    · exact ih
theorem rise_map {f : Nat → Nat} : ∀ {l : List Nat}, RiseL l → (∀ x ∈ l, ∀ y ∈ l, x < y → f x < f y) → RiseL (l.map f) := by
  intro l
  induction l with
  | nil => intro _ _; trivial
  | cons a l ih =>
    intro hl hf
    refine ⟨fun y hy => ?_, ih hl.2 fun x hx y hy => hf x (List.mem_cons_of_mem _ hx) y (List.mem_cons_of_mem _ hy)⟩
    obtain ⟨x, hx, rfl⟩ := List.mem_map.mp hy
    exact hf a List.mem_cons_self x (List.mem_cons_of_mem _ hx) (hl.1 x hx)
theorem mw_list {tx tm : St} (hK : RK tx tm) {k H : Nat} (hk : k < nK tm) (hH : ∀ s, (kH tm k).testBit s = true → H.testBit s = true) : wlS (mw tm k) 65536 = (wlS (fun q => mw tm k (wd H q)) (2 ^ mN H)).map (wd H) := by
  refine rise_eq (wlS_rise _ _) (rise_map (wlS_rise _ _) fun x _ y hy h => wd_mono ((wlS_mem _).mp hy).1 h) fun x => ?_
  rw [wlS_mem, List.mem_map]
  constructor
  · rintro ⟨h1, h2⟩
    have hs : wd H (nw H x) = x := wd_nw h1 fun s hb => hH s (mw_sub hK hk h2 (bit_16 h1 hb) hb)
    exact ⟨nw H x, (wlS_mem _).mpr ⟨nw_lt _ _, by rw [hs]; exact h2⟩, hs⟩
  · rintro ⟨q, hq, rfl⟩
    exact ⟨wd_lt _ _, ((wlS_mem _).mp hq).2⟩
theorem cnw_ranks {tx tm : St} (hK : RK tx tm) {k H : Nat} (hk : k < nK tm) (hH : ∀ s, (kH tm k).testBit s = true → H.testBit s = true) : cntB (fun q => mw tm k (wd H q)) (2 ^ mN H) = cnw tm k := by
  have := congrArg List.length (mw_list hK hk hH)
  rw [List.length_map, wlS_len, wlS_len] at this
  exact this.symm
theorem need_H {tx tm : St} (hK : RK tx tm) {K j : Nat} (hk : K < nK tm) (h : Need tm K j) {s : Nat} (hb : (kH tm j).testBit s = true) : (kH tm K).testBit s = true := by
  have := h.ind (fun j => ∀ s, (kH tm j).testBit s = true → (kH tm K).testBit s = true) (fun _ h => h) fun u i hu ih q hi s hb => ih s (by
    rw [kH_row hK (by have := hu.le hK hk; omega) q]
    exact orr_bit' hi hb)
  exact this s hb
