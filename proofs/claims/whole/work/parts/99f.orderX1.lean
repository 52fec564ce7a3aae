/-! The class's orders: the steps that are chosen, where they may end. -/
theorem nw_N {t : St} {k n : Nat} {f : Nat → Int32} (h : k < 9000) : gN (nwI t k n f) k = n := by
  show va_up (va_up (va_up t.2.2.2.2 k n) 9000 _) 9001 _ k = n
  rw [up_ne (by omega), up_ne (by omega), up_at]
theorem gwn_eq {L N : Nat} (hN : N ≤ 100000) (hL : L ≤ 1000000) : gwn L (jn N) = jn (max N (2 * L)) := by
  unfold gwn
  rw [show Int32.ofNat L = jn L from rfl, show (2 : Int32) = jn 2 from rfl, jn_mul]
  by_cases q : N < 2 * L
  · rw [if_pos ((jn_lt (by omega) (by omega)).mpr q), Nat.max_eq_right (by omega)]
  · rw [if_neg (fun e => q ((jn_lt (by omega) (by omega)).mp e)), Nat.max_eq_left (by omega)]
/-- a row that grows: what its length and the meters are then -/
theorem grw_eqx {α : Type} {t : St} {k N : Nat} (hk9 : k < 9000) (hN : N ≤ 100000) (hk : gN t k ≤ 1000000) (f : St → Option α) : ∃ t1, grw t k (jn N) f = f t1 ∧ N ≤ gN t1 k ∧ ((gN t k < N → gN t1 k = max N (2 * gN t k)) ∧ (¬ gN t k < N → gN t1 k = gN t k)) ∧ (gN t1 9000 = gN t 9000 + (if gN t k < N then 1 else 0) ∧ gN t1 9001 = gN t 9001 + (if gN t k < N then max N (2 * gN t k) else 0)) ∧ ∀ S T : List Nat, S.elem k = true → T.elem k = true → T.elem 9000 = true → T.elem 9001 = true → fx S T t t1 := by
  unfold grw
  rw [show Int32.ofNat (gN t k) = jn (gN t k) from rfl]
  by_cases q : gN t k < N
  · rw [if_pos ((jn_lt (by omega) (by omega)).mpr q), gwn_eq hN hk, if_neg, jn_cl (by omega)]
    · refine ⟨_, rfl, ?_, ⟨fun _ => nw_N hk9, fun z => absurd q z⟩, ⟨?_, ?_⟩, fun S T h1 h2 h3 h4 => fx_nwI h1 h2 h3 h4⟩
      · rw [nw_N hk9]
        exact Nat.le_max_left _ _
      · rw [if_pos q]; rfl
      · rw [if_pos q]; rfl
    · rintro (e | e)
      · exact jn_neg (by omega) e
      · rw [jn_cl (by omega)] at e; omega
  · rw [if_neg (fun e => q ((jn_lt (by omega) (by omega)).mp e))]
    exact ⟨t, rfl, by omega, ⟨fun z => absurd z q, fun _ => rfl⟩, ⟨by rw [if_neg q]; rfl, by rw [if_neg q]; rfl⟩, fun S T h1 h2 h3 h4 => fx.rfl⟩
theorem grw_eq {α : Type} {t : St} {k N : Nat} (hk9 : k < 9000) (hN : N ≤ 100000) (hk : gN t k ≤ 1000000) (f : St → Option α) : ∃ t1, grw t k (jn N) f = f t1 ∧ N ≤ gN t1 k ∧ (gN t1 k < 2 * N ∨ gN t1 k = gN t k) ∧ ∀ S T : List Nat, S.elem k = true → T.elem k = true → T.elem 9000 = true → T.elem 9001 = true → fx S T t t1 := by
  obtain ⟨t1, a1, a2, ⟨a3, a4⟩, -, a5⟩ := grw_eqx hk9 hN hk f
  refine ⟨t1, a1, a2, ?_, a5⟩
  by_cases q : gN t k < N
  · have := a3 q
    exact Or.inl (by omega)
  · exact Or.inr (a4 q)
/-- what of the class's watch stays: room -/
def RW (tx : St) : Prop := gN tx 903 = 600 ∧ gN tx 904 = 7 ∧ gN tx 907 = 128 ∧ gN tx 906 ≤ 8414
theorem x_chosen {t : St} (h4 : gN t 904 = 7) {set : Nat} (v2 : Int32) (hset : set < 65536) (h7 : (csL set 16).length ≤ 7) : ∃ t', lp (fun x : Int32 × St => x9_prepare_B7 (jn set) v2 x.1 x.2) (jn 0, sI t 905 0) = some t' ∧ fx [904, 905] [] t t' ∧ gI t' 905 = jn (csL set 16).length ∧ ∀ c, c < (csL set 16).length → gA t' 904 c = jn ((csL set 16).getD c 0) := by
  have key := lp_wf (b := fun x : Int32 × St => x9_prepare_B7 (jn set) v2 x.1 x.2) (fun x => 20 - x.1.toNatClampNeg)
    (fun x => ∃ s u, s ≤ 16 ∧ x = (jn s, u) ∧ fx [904, 905] [] t u ∧ gI u 905 = jn (csL set s).length ∧ ∀ c, c < (csL set s).length → gA u 904 c = jn ((csL set 16).getD c 0))
    (fun t' => fx [904, 905] [] t t' ∧ gI t' 905 = jn (csL set 16).length ∧ ∀ c, c < (csL set 16).length → gA t' 904 c = jn ((csL set 16).getD c 0)) (by
      rintro x ⟨s, u, hs, rfl, hf, h5, h1⟩
      dsimp only
      unfold x9_prepare_B7
      have hmono := csL_mono set hs
      by_cases q : s = 16
      · subst q
        exact Or.inr ⟨u, by rw [if_pos (by decide)], hf, h5, h1⟩
      have q1 : ¬ (16 : Int32) ≤ jn s := fun e => by have := (jn_le (a := 16) (by omega) (by omega)).mp e; omega
      rw [if_neg q1, h5]
      by_cases q2 : (csL set s).length = 7
      · have e : (csL set 16).length = (csL set s).length := by omega
        refine Or.inr ⟨u, by rw [q2, if_pos (by decide)], hf, by rw [e]; exact h5, by rw [e]; exact h1⟩
      have q3 : ¬ (7 : Int32) ≤ jn (csL set s).length := fun e => by have := (jn_le (a := 7) (by omega) (by omega)).mp e; omega
      have ms : 20 - (jn (s + 1)).toNatClampNeg < 20 - (jn s).toNatClampNeg := by rw [jn_cl (by omega), jn_cl (by omega)]; omega
      rw [if_neg q3]
      by_cases hb : set.testBit s = true
      · obtain ⟨g1, g2⟩ := csL_new set (show s < 16 by omega) hb
        have hl : (csL set (s + 1)).length = (csL set s).length + 1 := by rw [csL_s, if_pos hb, List.length_append]; rfl
        rw [if_pos ((bit_iff (by omega) (by omega)).mpr hb), (hf.2 904 rfl).trans h4, gd_jn (by omega) (by omega)]
        simp only [nm, jn_s]
        rw [show gI (sA u 904 (jn (csL set s).length) (jn s)) 905 = gI u 905 from rfl, h5, jn_s]
        refine Or.inl ⟨_, rfl, ⟨s + 1, _, by omega, rfl, (hf.trans (fx_sA rfl)).trans (fx_sI rfl), by rw [hl]; rfl, ?_⟩, ms⟩
        rw [hl]
        intro c hc
        show upd (gA u 904) (jn (csL set s).length).toNatClampNeg (jn s) c = _
        rw [jn_cl (by omega)]
        by_cases e : c = (csL set s).length
        · subst e; rw [upd_at, g1]
        · rw [upd_ne e]; exact h1 c (by omega)
      · have hl : csL set (s + 1) = csL set s := by rw [csL_s, if_neg hb]
        rw [if_neg (fun e => hb ((bit_iff (by omega) (by omega)).mp e))]
        simp only [nm, jn_s]
        exact Or.inl ⟨_, rfl, ⟨s + 1, u, by omega, rfl, hf, by rw [hl]; exact h5, by rw [hl]; exact h1⟩, ms⟩)
    (jn 0, sI t 905 0) ⟨0, _, by omega, rfl, fx_sI rfl, rfl, fun c hc => absurd hc (by show ¬ c < 0; omega)⟩
  exact key
/-- the places where watchmen stand, as bits -/
def wbit (tm : St) (t m : Nat) : Nat := if 0 < wkN tm m then 2 ^ (gA tm 61 (12 * m + t % wkN tm m)).toNatClampNeg else 0
def wmask (tm : St) (t : Nat) (n : Nat) : Nat := orr (wbit tm t) n
theorem placeOf_eq {tx tm u : St} (hB : RB tx tm) (h0 : gA u 902 = gA tx 902) (h1 : gA u 901 = gA tx 901) (h2 : gN u 902 = gN tx 902) (h3 : gN u 901 = gN tx 901) {m t : Nat} (hm : m < 4) (ht : t < 2147483648) : (wkN tm m = 0 ∧ x9_placeOf u (jn m) (jn t) = some (-1)) ∨ (0 < wkN tm m ∧ ∃ p, p ≤ 7 ∧ gA tm 61 (12 * m + t % wkN tm m) = jn p ∧ x9_placeOf u (jn m) (jn t) = some (jn p)) := by
  obtain ⟨n, hn, e5, e6, hi⟩ := hB.2.2 m hm
  have e : wkN tm m = n := by unfold wkN; rw [e6, jn_cl (by omega)]
  have g4 : ∀ {α : Type} (x : Option α), gd (jn m) 4 x = x := fun x => gd_jn (by omega) (by omega)
  unfold x9_placeOf
  rw [h0, h1, h2, h3, hB.2.1, hB.1, g4, jn_cl (by omega), e5, e]
  by_cases g : n = 0
  · subst g
    left
    exact ⟨rfl, by rw [if_pos (by decide)]⟩
  · right
    have hlt : t % n < n := Nat.mod_lt _ (by omega)
    obtain ⟨i1, p, hp, i2⟩ := hi (t % n) hlt
    refine ⟨by omega, p, hp, i2, ?_⟩
    rw [if_neg (jn_nz g (by omega)), g4, dv_jn (by omega) (by omega), jn_rem ht (by omega), show (12 : Int32) = jn 12 from rfl, jn_mul, jn_add, gd_jn (by omega) (by omega), jn_cl (by omega), show m * 12 + t % n = 12 * m + t % n by omega, i1, i2]
theorem wbit_lt {tx tm : St} (hB : RB tx tm) {m t : Nat} (hm : m < 4) : wbit tm t m < 2 ^ 8 := by
  obtain ⟨n, hn, e5, e6, hi⟩ := hB.2.2 m hm
  have e : wkN tm m = n := by unfold wkN; rw [e6, jn_cl (by omega)]
  unfold wbit
  rw [e]
  split
  · next g =>
    obtain ⟨-, p, hp, i2⟩ := hi (t % n) (Nat.mod_lt _ (by omega))
    rw [i2, jn_cl (by omega)]
    exact Nat.pow_lt_pow_right (by omega) (by omega)
  · exact Nat.two_pow_pos 8
theorem orr_bit {f : Nat → Nat} {p : Nat} : ∀ n, (orr f n).testBit p = true ↔ ∃ i, i < n ∧ (f i).testBit p = true
  | 0 => by
    constructor
    · intro h
      unfold orr at h
      rw [Nat.zero_testBit] at h
      cases h
    · rintro ⟨i, hi, -⟩
      omega
  | n + 1 => by
    unfold orr
    rw [Nat.testBit_or, Bool.or_eq_true, orr_bit n]
    constructor
    · rintro (⟨i, hi, h⟩ | h)
      · exact ⟨i, by omega, h⟩
      · exact ⟨n, by omega, h⟩
    · rintro ⟨i, hi, h⟩
      by_cases e : i = n
      · subst e; exact Or.inr h
      · exact Or.inl ⟨i, by omega, h⟩
theorem wmask_bit {tx tm : St} (hB : RB tx tm) {t p : Nat} (hp : p ≤ 7) : (wmask tm t 4).testBit p = true ↔ ¬ stn tm p t = 0 := by
  have one : ∀ m, m < 4 → ((wbit tm t m).testBit p = true ↔ ¬ stn1 tm p t m = 0) := by
    intro m hm
    obtain ⟨n, hn, e5, e6, hi⟩ := hB.2.2 m hm
    have e : wkN tm m = n := by unfold wkN; rw [e6, jn_cl (by omega)]
    unfold wbit stn1
    rw [e]
    by_cases g : 0 < n
    · obtain ⟨-, p', hp', i2⟩ := hi (t % n) (Nat.mod_lt _ g)
      rw [if_pos g, i2, jn_cl (by omega), Nat.testBit_two_pow]
      by_cases q : p' = p
      · subst q
        rw [if_pos ⟨g, rfl⟩]
        simp
      · rw [if_neg (fun e => q ((jn_inj (by omega) (by omega)).mp e.2))]
        simp [q]
    · rw [if_neg g, if_neg (fun e => g e.1), Nat.zero_testBit]
      simp
  unfold wmask
  rw [orr_bit]
  have h0 := one 0 (by omega)
  have h1 := one 1 (by omega)
  have h2 := one 2 (by omega)
  have h3 := one 3 (by omega)
  unfold stn
  constructor
  · rintro ⟨i, hi, h⟩
    rcases (show i = 0 ∨ i = 1 ∨ i = 2 ∨ i = 3 by omega) with rfl | rfl | rfl | rfl
    · have := h0.mp h; omega
    · have := h1.mp h; omega
    · have := h2.mp h; omega
    · have := h3.mp h; omega
  · intro h
    by_cases q0 : stn1 tm p t 0 = 0
    · by_cases q1 : stn1 tm p t 1 = 0
      · by_cases q2 : stn1 tm p t 2 = 0
        · exact ⟨3, by omega, h3.mpr (by omega)⟩
        · exact ⟨2, by omega, h2.mpr q2⟩
      · exact ⟨1, by omega, h1.mpr q1⟩
    · exact ⟨0, by omega, h0.mpr q0⟩
theorem x_round {tx tm : St} (hB : RB tx tm) {u : St} (h0 : gA u 902 = gA tx 902) (h1 : gA u 901 = gA tx 901) (h2 : gN u 902 = gN tx 902) (h3 : gN u 901 = gN tx 901) (h9 : gN u 903 = 600) {a : Nat} (ha : a < 600) (hz : gA u 903 a = 0) : ∃ u', lp (fun x : Int32 × St => x9_lookRound_B18 (jn a) x.1 x.2) (jn 0, u) = some u' ∧ fx [903] [] u u' ∧ gA u' 903 a = jn (wmask tm a 4) ∧ ∀ j, j ≠ a → gA u' 903 j = gA u 903 j := by
  have h := lp_cnt (b := fun x : Int32 × St => x9_lookRound_B18 (jn a) x.1 x.2) (fun i u => (jn i, u)) 4
    (fun m s => fx [903] [] u s ∧ gA s 903 a = jn (wmask tm a m) ∧ ∀ j, j ≠ a → gA s 903 j = gA u 903 j)
    (fun s => fx [903] [] u s ∧ gA s 903 a = jn (wmask tm a 4) ∧ ∀ j, j ≠ a → gA s 903 j = gA u 903 j) (by
      rintro m s hm ⟨hf, k1, k2⟩
      dsimp only
      unfold x9_lookRound_B18
      have q : ¬ (3 : Int32) < jn m := fun e => by have := (jn_lt (a := 3) (by omega) (by omega)).mp e; omega
      have hw : wmask tm a (m + 1) = wmask tm a m ||| wbit tm a m := rfl
      rw [if_neg q]
      rcases placeOf_eq hB (u := s) ((hf.1 902 rfl).2.2.1.trans h0) ((hf.1 901 rfl).2.2.1.trans h1) ((hf.2 902 rfl).trans h2) ((hf.2 901 rfl).trans h3) hm (show a < 2147483648 by omega) with ⟨w0, e⟩ | ⟨w0, p, hp, w1, e⟩
      · rw [e, bs, if_pos (show (-1 : Int32) < 0 by decide)]
        simp only [nm, jn_s]
        refine ⟨s, rfl, hf, ?_, k2⟩
        rw [hw, k1]
        unfold wbit
        rw [if_neg (by omega), Nat.or_zero]
      · rw [e, bs, if_neg (jn_neg (by omega)), (hf.2 903 rfl).trans h9, gd_jn ha (by omega), gd_jn ha (by omega), jn_cl (by omega), k1, jn_shl1 p (by omega), jn_or]
        simp only [nm, jn_s]
        refine ⟨_, rfl, hf.trans (fx_sA rfl), ?_, ?_⟩
        · rw [gA_sA, jn_cl (by omega), upd_at, hw]
          unfold wbit
          rw [if_pos w0, w1, jn_cl (by omega)]
        · intro j hj
          rw [gA_sA, jn_cl (by omega), upd_ne hj]
          exact k2 j hj) (by
      rintro s hs
      exact ⟨s, by dsimp only; unfold x9_lookRound_B18; rw [if_pos (by decide)], hs⟩) 0 u (by omega) ⟨fx.rfl, by rw [hz]; rfl, fun j _ => rfl⟩
  exact h
theorem x_look {tx tm : St} (hB : RB tx tm) {u : St} (h0 : gA u 902 = gA tx 902) (h1 : gA u 901 = gA tx 901) (h2 : gN u 902 = gN tx 902) (h3 : gN u 901 = gN tx 901) (h9 : gN u 903 = 600) {minute : Nat} (hm : minute ≤ 600) : ∃ u', x9_lookRound u (jn minute) = some u' ∧ fx [903] [] u u' ∧ ∀ a, minute ≤ a → a < 600 → gA u' 903 a = jn (wmask tm a 4) := by
  have h := lp_cnt (b := fun x : Int32 × St => x9_lookRound_B2 x.1 x.2) (fun i u => (jn i, u)) 600
    (fun n s => fx [903] [] u s ∧ ∀ a, minute ≤ a → a < n → gA s 903 a = jn (wmask tm a 4))
    (fun s => fx [903] [] u s ∧ ∀ a, minute ≤ a → a < 600 → gA s 903 a = jn (wmask tm a 4)) (by
      rintro a s ha ⟨hf, k1⟩
      dsimp only
      unfold x9_lookRound_B2
      have q : ¬ (600 : Int32) ≤ jn a := fun e => by have := (jn_le (a := 600) (by omega) (by omega)).mp e; omega
      rw [if_neg q, (hf.2 903 rfl).trans h9, gd_jn ha (by omega)]
      simp only [nm]
      obtain ⟨s', j, j1, j2, j3⟩ := x_round hB (u := sA s 903 (jn a) 0) ((hf.1 902 rfl).2.2.1.trans h0) ((hf.1 901 rfl).2.2.1.trans h1) ((hf.2 902 rfl).trans h2) ((hf.2 901 rfl).trans h3) ((hf.2 903 rfl).trans h9) ha (by rw [gA_sA, jn_cl (by omega), upd_at])
      rw [show (0 : Int32) = jn 0 from rfl] at *
      rw [j, bs, jn_s]
      refine ⟨s', rfl, (hf.trans (fx_sA rfl)).trans j1, ?_⟩
      intro a1 h4 h5
      by_cases e : a1 = a
      · subst e; exact j2
      · rw [j3 a1 e, gA_sA, jn_cl (by omega), upd_ne e]
        exact k1 a1 h4 (by omega)) (by
      rintro s hs
      exact ⟨s, by dsimp only; unfold x9_lookRound_B2; rw [if_pos (by decide)], hs⟩) minute u hm ⟨fx.rfl, fun a h1 h2 => absurd h2 (by omega)⟩
  obtain ⟨s, k, k1, k2⟩ := h
  exact ⟨s, by unfold x9_lookRound; rw [k, bs], k1, k2⟩
