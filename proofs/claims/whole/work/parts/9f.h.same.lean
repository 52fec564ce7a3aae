/-! Diagrams: the list over sixteen steps is the list over the letters. -/
theorem hi_bit : ∀ n a b : Nat, b ≤ n → a < b → ∃ i, a.testBit i = false ∧ b.testBit i = true ∧ ∀ j, i < j → a.testBit j = b.testBit j := by
  intro n
  induction n with
  | zero => intro a b h1 h2; omega
  | succ n ih =>
    intro a b h1 h2
    by_cases c : a / 2 < b / 2
    · obtain ⟨i, i1, i2, i3⟩ := ih (a / 2) (b / 2) (by omega) c
      refine ⟨i + 1, by rw [Nat.testBit_succ]; exact i1, by rw [Nat.testBit_succ]; exact i2, fun j hj => ?_⟩
      obtain ⟨k, rfl⟩ : ∃ k, j = k + 1 := ⟨j - 1, by omega⟩
      rw [Nat.testBit_succ, Nat.testBit_succ]
      exact i3 k (by omega)
    · refine ⟨0, ?_, ?_, fun j hj => ?_⟩
      · rw [Nat.testBit_zero]; exact decide_eq_false (by omega)
      · rw [Nat.testBit_zero]; exact decide_eq_true (by omega)
      · obtain ⟨k, rfl⟩ : ∃ k, j = k + 1 := ⟨j - 1, by omega⟩
        rw [Nat.testBit_succ, Nat.testBit_succ, show a / 2 = b / 2 by omega]
theorem lt_bit {a b i : Nat} (h1 : a.testBit i = false) (h2 : b.testBit i = true) (h3 : ∀ j, i < j → a.testBit j = b.testBit j) : a < b := by
  by_cases c : a < b
  · exact c
  · by_cases e : b = a
    · rw [e, h1] at h2; exact absurd h2 (by decide)
    · obtain ⟨k, k1, k2, k3⟩ := hi_bit a b a (Nat.le_refl _) (by omega)
      by_cases d : i < k
      · have := h3 k d
        rw [k1, k2] at this; exact absurd this (by decide)
      · by_cases f : i = k
        · subst f; rw [h1] at k2; exact absurd k2 (by decide)
        · have := k3 i (by omega)
          rw [h1, h2] at this; exact absurd this (by decide)
theorem rk_up {H s u : Nat} (h : s < u) (hb : H.testBit s = true) : rkN H s + 1 ≤ rkN H u := by
  have : rkN H (s + 1) ≤ rkN H u := csL_mono H (by omega)
  unfold rkN at this ⊢
  rw [csL_s, if_pos hb, List.length_append] at this
  exact this
theorem wd_up {H a b : Nat} (hb : b < 2 ^ mN H) (h : a < b) : wd H a < wd H b := by
  obtain ⟨i, i1, i2, i3⟩ := hi_bit b a b (Nat.le_refl _) h
  have im : i < mN H := by
    by_cases c : i < mN H
    · exact c
    · rw [Nat.testBit_lt_two_pow (Nat.lt_of_lt_of_le hb (Nat.pow_le_pow_right (by omega) (by omega)))] at i2
      exact absurd i2 (by decide)
  obtain ⟨o1, o2, o3⟩ := odr_ok im
  refine lt_bit (i := odr H i) ?_ ?_ fun j hj => ?_
  · rw [wd_bit o1, o2, o3, i1, Bool.and_false]
  · rw [wd_bit o1, o2, o3, i2, Bool.and_true]
  · by_cases c : j < 16
    · rw [wd_bit c, wd_bit c]
      cases hj2 : H.testBit j with
      | false => rfl
      | true =>
        have := rk_up hj o2
        rw [i3 (rkN H j) (by omega)]
    · have p : 2 ^ 16 ≤ 2 ^ j := Nat.pow_le_pow_right (by omega) (by omega)
      have e16 : (2 : Nat) ^ 16 = 65536 := rfl
      have := wd_lt H a
      have := wd_lt H b
      rw [Nat.testBit_lt_two_pow (by omega), Nat.testBit_lt_two_pow (by omega)]
theorem wd_nw_and {H n : Nat} (hH : H < 65536) : wd H (nw H n) = n &&& H := by
  refine Nat.eq_of_testBit_eq fun s => ?_
  rw [Nat.testBit_and]
  by_cases c : s < 16
  · rw [wd_bit c, nw_bit]
    cases hb : H.testBit s with
    | false => rw [Bool.and_false, Bool.false_and]
    | true => rw [decide_eq_true (rk_lt c hb), odr_rk c hb, Bool.true_and, Bool.true_and, Bool.and_true]
  · have p : 2 ^ 16 ≤ 2 ^ s := Nat.pow_le_pow_right (by omega) (by omega)
    have e16 : (2 : Nat) ^ 16 = 65536 := rfl
    have := wd_lt H (nw H n)
    rw [Nat.testBit_lt_two_pow (by omega), Nat.testBit_lt_two_pow (x := H) (by omega), Bool.and_false]
theorem nw_low {H n s : Nat} (hn : n < 2 ^ s) : nw H n < 2 ^ rkN H s := by
  refine Nat.lt_pow_two_of_testBit _ fun i hi => ?_
  rw [nw_bit]
  by_cases im : i < mN H
  · obtain ⟨o1, o2, o3⟩ := odr_ok im
    have : s ≤ odr H i := by
      by_cases c : odr H i < s
      · have := rk_up c o2; omega
      · omega
    rw [Nat.testBit_lt_two_pow (Nat.lt_of_lt_of_le hn (Nat.pow_le_pow_right (by omega) this)), Bool.and_false]
  · rw [decide_eq_false im, Bool.false_and]
theorem nw_no {H n s : Nat} (hn : n < 2 ^ s) (hb : H.testBit s = false) : nw H (n + 2 ^ s) = nw H n := by
  refine Nat.eq_of_testBit_eq fun i => ?_
  rw [nw_bit, nw_bit, add_bit hn]
  by_cases im : i < mN H
  · obtain ⟨o1, o2, o3⟩ := odr_ok im
    rw [decide_eq_false (show ¬ odr H i = s from fun e => by rw [e, hb] at o2; exact absurd o2 (by decide)), Bool.or_false]
  · rw [decide_eq_false im, Bool.false_and, Bool.false_and]
theorem nw_yes {H n s : Nat} (hs : s < 16) (hn : n < 2 ^ s) (hb : H.testBit s = true) : nw H (n + 2 ^ s) = nw H n + 2 ^ rkN H s := by
  refine Nat.eq_of_testBit_eq fun i => ?_
  rw [add_bit (nw_low hn), nw_bit, nw_bit, add_bit hn]
  by_cases im : i < mN H
  · obtain ⟨o1, o2, o3⟩ := odr_ok im
    rw [decide_eq_true im, Bool.true_and, Bool.true_and]
    by_cases c : i = rkN H s
    · rw [decide_eq_true c, c, odr_rk hs hb, decide_eq_true rfl]
    · rw [decide_eq_false c, decide_eq_false (show ¬ odr H i = s from fun e => c (by rw [← o3, e]))]
  · rw [decide_eq_false im, Bool.false_and, Bool.false_and, decide_eq_false (show ¬ i = rkN H s from fun e => im (by rw [e]; exact rk_lt hs hb)), Bool.or_false]
/-- a node over letters, told over steps -/
def oN (H : Nat) (x : Nat × Nat × Nat) : Nat × Nat × Nat := (odr H x.1, x.2)
theorem oN_inj {H : Nat} {x y : Nat × Nat × Nat} (hx : x.1 < mN H) (hy : y.1 < mN H) (h : oN H x = oN H y) : x = y := by
  have e1 : odr H x.1 = odr H y.1 := congrArg Prod.fst (show (odr H x.1, x.2) = (odr H y.1, y.2) from h)
  have e2 : x.2 = y.2 := by
    have := congrArg (fun p : Nat × Nat × Nat => p.2) h
    exact this
  have : x.1 = y.1 := by rw [← (odr_ok hx).2.2, e1, (odr_ok hy).2.2]
  exact Prod.ext this e2
theorem oN_mem {H : Nat} {L : List (Nat × Nat × Nat)} {x : Nat × Nat × Nat} (hL : ∀ y, y ∈ L → y.1 < mN H) (hx : x.1 < mN H) : oN H x ∈ L.map (oN H) ↔ x ∈ L := by
  constructor
  · intro h
    obtain ⟨y, y1, y2⟩ := List.mem_map.mp h
    rw [← oN_inj (hL y y1) hx y2]
    exact y1
  · exact fun h => List.mem_map.mpr ⟨x, h, rfl⟩
theorem oN_add {H : Nat} {L : List (Nat × Nat × Nat)} {r a b : Nat} (hL : ∀ y, y ∈ L → y.1 < mN H) (hr : r < mN H) : addN (L.map (oN H)) (odr H r) a b = (addN L r a b).map (oN H) := by
  have h : (odr H r, a, b) ∈ L.map (oN H) ↔ (r, a, b) ∈ L := oN_mem (x := (r, a, b)) hL hr
  unfold addN
  by_cases c : a = b ∨ (r, a, b) ∈ L
  · rw [if_pos c, if_pos (c.imp id h.mpr)]
  · rw [if_neg c, if_neg (fun z => c (z.imp id h.mp)), List.map_append]
    rfl
theorem oN_ixn {H : Nat} {L : List (Nat × Nat × Nat)} {x : Nat × Nat × Nat} (hL : ∀ y, y ∈ L → y.1 < mN H) (hx : x.1 < mN H) : ixn (L.map (oN H)) (oN H x) = ixn L x := by
  induction L with
  | nil => rfl
  | cons y l ih =>
    show (if oN H y = oN H x then 0 else ixn (l.map (oN H)) (oN H x) + 1) = if y = x then 0 else ixn l x + 1
    rw [ih (fun z hz => hL z (List.mem_cons_of_mem _ hz))]
    by_cases c : y = x
    · rw [if_pos c, if_pos (by rw [c])]
    · rw [if_neg c, if_neg (fun z => c (oN_inj (hL y List.mem_cons_self) hx z))]
theorem oN_lk {H : Nat} {L : List (Nat × Nat × Nat)} {r a b : Nat} (hL : ∀ y, y ∈ L → y.1 < mN H) (hr : r < mN H) : lk (L.map (oN H)) (odr H r) a b = lk L r a b := by
  unfold lk
  rw [← oN_ixn (x := (r, a, b)) hL hr]
  rfl
theorem lv_no {N : List (Nat × Nat × Nat)} {s w : Nat} {g : Nat → Nat} (h : ∀ p, p < w → g p = g (p + w)) {n : Nat} (hn : n ≤ w) : lvN N s w g n = N := by
  induction n with
  | zero => rfl
  | succ n ih =>
    show addN (lvN N s w g n) s (g n) (g (n + w)) = N
    rw [ih (by omega)]
    exact if_pos (Or.inl (h n (by omega)))
theorem lv_yes {H s : Nat} (hH : H < 65536) (hs : s < 16) (hb : H.testBit s = true) {N : List (Nat × Nat × Nat)} (hN : ∀ y, y ∈ N → y.1 < mN H) {g G : Nat → Nat} (hg : ∀ p, p < 2 ^ (s + 1) → G p = g (nw H p)) {n : Nat} (hn : n ≤ 2 ^ s) : ∃ k, k ≤ 2 ^ rkN H s ∧ lvN (N.map (oN H)) s (2 ^ s) G n = (lvN N (rkN H s) (2 ^ rkN H s) g k).map (oN H) ∧ ∀ q, q < 2 ^ rkN H s → (q < k ↔ wd H q < n) := by
  have rm := rk_lt hs hb
  have pr : 2 ^ rkN H s ≤ 2 ^ mN H := Nat.pow_le_pow_right (by omega) (by omega)
  have lvm : ∀ k, ∀ y, y ∈ lvN N (rkN H s) (2 ^ rkN H s) g k → y.1 < mN H := fun k y hy => by
    rcases mem_lvN hy with h | ⟨q, q1, q2, -⟩
    · exact hN y h
    · rw [q2]; exact rm
  induction n with
  | zero => exact ⟨0, Nat.zero_le _, rfl, fun q _ => ⟨fun h => absurd h (Nat.not_lt_zero q), fun h => absurd h (Nat.not_lt_zero _)⟩⟩
  | succ n ih =>
    obtain ⟨k, k0, k1, k2⟩ := ih (by omega)
    have p2 : 2 ^ (s + 1) = 2 * 2 ^ s := by rw [Nat.pow_succ]; omega
    have ql := nw_low (H := H) (show n < 2 ^ s by omega)
    have st : lvN (N.map (oN H)) s (2 ^ s) G (n + 1) = addN ((lvN N (rkN H s) (2 ^ rkN H s) g k).map (oN H)) s (g (nw H n)) (g (nw H n + 2 ^ rkN H s)) := by
      show addN (lvN (N.map (oN H)) s (2 ^ s) G n) s (G n) (G (n + 2 ^ s)) = _
      rw [k1, hg n (by omega), hg (n + 2 ^ s) (by omega), nw_yes hs (by omega) hb]
    have st2 : lvN (N.map (oN H)) s (2 ^ s) G (n + 1) = (addN (lvN N (rkN H s) (2 ^ rkN H s) g k) (rkN H s) (g (nw H n)) (g (nw H n + 2 ^ rkN H s))).map (oN H) := by
      rw [st, ← oN_add (lvm k) rm, odr_rk hs hb]
    have wa := wd_nw_and (H := H) (n := n) hH
    have wl : wd H (nw H n) ≤ n := by rw [wa]; exact Nat.and_le_left
    by_cases c : wd H (nw H n) = n
    · have ek : nw H n = k := by
        have h1 : ¬ nw H n < k := fun z => by
          have := (k2 _ ql).mp z
          omega
        by_cases z : nw H n = k
        · exact z
        · have kq : k < nw H n := by omega
          have h2 := wd_up (H := H) (a := k) (b := nw H n) (by omega) kq
          have := (k2 k (by omega)).mpr (by omega)
          omega
      refine ⟨k + 1, by omega, ?_, fun q hq => ?_⟩
      · rw [st2, ek]; rfl
      · constructor
        · intro z
          by_cases e : q = k
          · rw [e, ← ek, c]; omega
          · have := (k2 q hq).mp (by omega)
            omega
        · intro z
          by_cases e : wd H q = n
          · have : q = nw H n := by
              rw [← e, nw_wd (by omega)]
            omega
          · have := (k2 q hq).mpr (by omega)
            omega
    · have qk : nw H n < k := (k2 _ ql).mpr (by omega)
      refine ⟨k, k0, ?_, fun q hq => ?_⟩
      · rw [st2]
        congr 1
        refine if_pos ?_
        by_cases e : g (nw H n) = g (nw H n + 2 ^ rkN H s)
        · exact Or.inl e
        · exact Or.inr (lvN_mem qk e)
      · rw [k2 q hq]
        constructor
        · intro z; omega
        · intro z
          by_cases e : wd H q = n
          · exact absurd (by rw [← e, nw_wd (by omega)]) c
          · omega
theorem rkN_le {H s : Nat} (h : s ≤ 16) : rkN H s ≤ mN H := csL_mono H h
theorem dg_same {H : Nat} (hH : H < 65536) {F f : Nat → Bool} (hF : ∀ p, p < 65536 → F p = f (nw H p)) {d : Nat} (hd : d ≤ 16) : (dg F 16 d).1 = (dg f (mN H) (mN H - rkN H (16 - d))).1.map (oN H) ∧ ∀ p, p < 2 ^ (16 - d) → (dg F 16 d).2 p = (dg f (mN H) (mN H - rkN H (16 - d))).2 (nw H p) := by
  induction d with
  | zero =>
    rw [Nat.sub_zero, show rkN H 16 = mN H from rfl, Nat.sub_self]
    refine ⟨rfl, fun p hp => ?_⟩
    show (if F p then 1 else 0) = if f (nw H p) then 1 else 0
    rw [hF p hp]
  | succ d ih =>
    obtain ⟨h1, h2⟩ := ih (by omega)
    have ds : dg F 16 (d + 1) = _ := dg_s F 16 d
    have es : 16 - d = (15 - d) + 1 := by omega
    rw [es] at h1 h2
    have ea : (dg F 16 (d + 1)).1 = lvN (dg F 16 d).1 (15 - d) (2 ^ (15 - d)) (dg F 16 d).2 (2 ^ (15 - d)) := congrArg Prod.fst ds
    have eb : ∀ s, (dg F 16 (d + 1)).2 s = lk (lvN (dg F 16 d).1 (15 - d) (2 ^ (15 - d)) (dg F 16 d).2 (2 ^ (15 - d))) (15 - d) ((dg F 16 d).2 s) ((dg F 16 d).2 (s + 2 ^ (15 - d))) := fun s => congrFun (congrArg Prod.snd ds) s
    have pw : 2 ^ (15 - d + 1) = 2 * 2 ^ (15 - d) := by rw [Nat.pow_succ]; omega
    rw [show 16 - (d + 1) = 15 - d by omega]
    have hs : 15 - d < 16 := by omega
    generalize 15 - d = s at *
    have er := rkN_s H s
    cases hb : H.testBit s with
    | false =>
      rw [hb, if_neg (by decide)] at er
      have er : rkN H (s + 1) = rkN H s := er
      rw [er] at h1 h2
      have e2 : ∀ p, p < 2 ^ s → (dg F 16 d).2 p = (dg F 16 d).2 (p + 2 ^ s) := fun p hp => by
        rw [h2 p (by omega), h2 (p + 2 ^ s) (by omega), nw_no hp hb]
      have eL : lvN (dg F 16 d).1 s (2 ^ s) (dg F 16 d).2 (2 ^ s) = (dg F 16 d).1 := lv_no e2 (Nat.le_refl _)
      refine ⟨by rw [ea, eL]; exact h1, fun p hp => ?_⟩
      rw [eb, eL, ← e2 p hp, ← h2 p (by omega)]
      exact if_pos rfl
    | true =>
      rw [hb, if_pos rfl] at er
      rw [er] at h1 h2
      have rm := rk_lt hs hb
      have eD : mN H - rkN H s = (mN H - (rkN H s + 1)) + 1 := by omega
      have ds' : dg f (mN H) (mN H - (rkN H s + 1) + 1) = _ := dg_s f (mN H) (mN H - (rkN H s + 1))
      rw [show mN H - 1 - (mN H - (rkN H s + 1)) = rkN H s by omega] at ds'
      rw [eD]
      generalize mN H - (rkN H s + 1) = D at *
      have ea' : (dg f (mN H) (D + 1)).1 = lvN (dg f (mN H) D).1 (rkN H s) (2 ^ rkN H s) (dg f (mN H) D).2 (2 ^ rkN H s) := congrArg Prod.fst ds'
      have eb' : ∀ q, (dg f (mN H) (D + 1)).2 q = lk (lvN (dg f (mN H) D).1 (rkN H s) (2 ^ rkN H s) (dg f (mN H) D).2 (2 ^ rkN H s)) (rkN H s) ((dg f (mN H) D).2 q) ((dg f (mN H) D).2 (q + 2 ^ rkN H s)) := fun q => congrFun (congrArg Prod.snd ds') q
      have hN : ∀ y, y ∈ (dg f (mN H) D).1 → y.1 < mN H := fun y hy => (dg_mem (by omega) hy).2
      obtain ⟨k, k0, k1, k2⟩ := lv_yes hH hs hb (N := (dg f (mN H) D).1) (g := (dg f (mN H) D).2) (G := (dg F 16 d).2) hN (fun p hp => h2 p hp) (Nat.le_refl (2 ^ s))
      have kk : k = 2 ^ rkN H s := by
        by_cases c : k < 2 ^ rkN H s
        · have : wd H k < 2 ^ s := by
            refine Nat.lt_pow_two_of_testBit _ fun i hi => ?_
            by_cases i16 : i < 16
            · rw [wd_bit i16]
              cases hbi : H.testBit i with
              | false => rfl
              | true =>
                have : rkN H s ≤ rkN H i := csL_mono H hi
                rw [Nat.testBit_lt_two_pow (Nat.lt_of_lt_of_le c (Nat.pow_le_pow_right (by omega) this)), Bool.and_false]
            · have p : 2 ^ 16 ≤ 2 ^ i := Nat.pow_le_pow_right (by omega) (by omega)
              have e16 : (2 : Nat) ^ 16 = 65536 := rfl
              have := wd_lt H k
              exact Nat.testBit_lt_two_pow (by omega)
          have := (k2 k c).mpr this
          omega
        · omega
      subst kk
      rw [← h1] at k1
      have lvm : ∀ y, y ∈ lvN (dg f (mN H) D).1 (rkN H s) (2 ^ rkN H s) (dg f (mN H) D).2 (2 ^ rkN H s) → y.1 < mN H := fun y hy => by
        rcases mem_lvN hy with h | ⟨q, q1, q2, -⟩
        · exact hN y h
        · rw [q2]; exact rm
      refine ⟨by rw [ea, k1, ea'], fun p hp => ?_⟩
      rw [eb, k1, eb', h2 p (by omega), h2 (p + 2 ^ s) (by omega), nw_yes hs hp hb]
      have := oN_lk (a := (dg f (mN H) D).2 (nw H p)) (b := (dg f (mN H) D).2 (nw H p + 2 ^ rkN H s)) lvm rm
      rw [odr_rk hs hb] at this
      exact this
theorem dgN_same {H : Nat} (hH : H < 65536) {F f : Nat → Bool} (hF : ∀ p, p < 65536 → F p = f (nw H p)) : dgN F 16 = (dgN f (mN H)).map (oN H) ∧ dgTop F 16 = dgTop f (mN H) := by
  obtain ⟨h1, h2⟩ := dg_same hH hF (d := 16) (Nat.le_refl _)
  rw [Nat.sub_self, show rkN H 0 = 0 from rfl, Nat.sub_zero] at h1 h2
  refine ⟨h1, ?_⟩
  have := h2 0 (by decide)
  have z : nw H 0 = 0 := by
    refine Nat.eq_of_testBit_eq fun i => ?_
    rw [nw_bit, Nat.zero_testBit, Nat.zero_testBit, Bool.and_false]
  rw [z] at this
  exact this
