/-! Diagrams: the levels, on the class's side. -/
theorem NX.fr {S T : List Nat} {t t' : St} {N : List (Nat × Nat × Nat)} (h : NX t N) (hx : fx S T t t') (h1 : (S.elem 3 || S.elem 9 || S.elem 10 || S.elem 11) = false := by rfl) : NX t' N := by
  simp only [Bool.or_eq_false_iff] at h1
  unfold NX
  rw [(hx.1 3 h1.1.1.1).1, (hx.1 9 h1.1.1.2).2.2.1, (hx.1 10 h1.1.2).2.2.1, (hx.1 11 h1.2).2.2.1]
  exact h
theorem HX.fr {S T : List Nat} {t t' : St} {e : Nat} {N : List (Nat × Nat × Nat)} (h : HX t e N) (hx : fx S T t t') (h1 : (S.elem 5 || S.elem 8) = false := by rfl) (h2 : T.elem 8 = false := by rfl) : HX t' e N := by
  simp only [Bool.or_eq_false_iff] at h1
  unfold HX
  rw [(hx.1 5 h1.1).1, (hx.1 8 h1.2).2.2.1, hx.2 8 h2]
  exact h
theorem DSz.fr {S T : List Nat} {t t' : St} (h : DSz t) (hx : fx S T t t') (h2 : (T.elem 7 || T.elem 8 || T.elem 9 || T.elem 10 || T.elem 11) = false := by rfl) : DSz t' ∧ PD t' = PD t := by
  simp only [Bool.or_eq_false_iff] at h2
  obtain ⟨⟨⟨⟨a7, a8⟩, a9⟩, a10⟩, a11⟩ := h2
  unfold DSz PD
  rw [hx.2 7 a7, hx.2 8 a8, hx.2 9 a9, hx.2 10 a10, hx.2 11 a11]
  exact ⟨h, rfl⟩
theorem lvN_sm {N : List (Nat × Nat × Nat)} {r w : Nat} {g : Nat → Nat} (hs : SmN N) (hr : r < 17) (hN : N.length + 2 ≤ 4400) (hg : ∀ s, s < w → g s < N.length + 2 ∧ g (s + w) < N.length + 2) {n : Nat} (hn : n ≤ w) : SmN (lvN N r w g n) := by
  intro i hi
  rcases mem_lvN (getD_memN hi) with h | ⟨s, h1, h2, -⟩
  · obtain ⟨j, j1, j2⟩ := mem_idx.mp h
    rw [← j2]; exact hs j j1
  · rw [h2]
    have := hg s (by omega)
    exact ⟨by show r < 4400; omega, by show g s < 4400; omega, by show g (s + w) < 4400; omega⟩
theorem lev_node {t : St} {N : List (Nat × Nat × Nat)} {e r w : Nat} {g : Nat → Nat} {i : Nat} (hX : NX t (lvN N r w g i)) (hH : HX t e (lvN N r w g i)) (hs : SmN N) (hd : N.Nodup) (hr : r < 17) (hg : ∀ s, s < w → g s < N.length + 2 ∧ g (s + w) < N.length + 2) (hi : i < w) (hl : (lvN N r w g w).length + 2 ≤ 4400) (hle : (lvN N r w g w).length < 2 ^ e) (h9 : (lvN N r w g w).length + 2 ≤ gN t 9) (h10 : gN t 10 = gN t 9) (h11 : gN t 11 = gN t 9) (hg9 : gN t 9 ≤ 8800) : ∃ t', x0_nodeFor t (jn r) (jn (g i)) (jn (g (i + w))) = some (jn (lk (lvN N r w g w) r (g i) (g (i + w))), t') ∧ fx [3, 8, 9, 10, 11] [] t t' ∧ NX t' (lvN N r w g (i + 1)) ∧ HX t' e (lvN N r w g (i + 1)) := by
  have a0 : N.length ≤ (lvN N r w g i).length := (lvN_ext N r w g (Nat.zero_le i)).len
  have a1 : (addN (lvN N r w g i) r (g i) (g (i + w))).length ≤ (lvN N r w g w).length := (lvN_ext N r w g (show i + 1 ≤ w by omega)).len
  have a2 : N.length ≤ (lvN N r w g w).length := (lvN_ext N r w g (Nat.zero_le w)).len
  have := hg i hi
  obtain ⟨t', k1, k2, k3, k4⟩ := nodeFor_eq hX hH (lvN_sm hs hr (by omega) hg (by omega)) (lvN_nd hd _ _ _ _) hr (a := g i) (b := g (i + w)) (by omega) (by omega) (by omega) (by omega) (by omega) (by omega) (by omega) (by omega)
  rw [← lvN_lk hi] at k1
  exact ⟨t', k1, k2, k3, k4⟩
theorem draw_lev {t : St} {N : List (Nat × Nat × Nat)} {e r w : Nat} {g : Nat → Nat} (hX : NX t N) (hH : HX t e N) (hs : SmN N) (hd : N.Nodup) (hr : r < 17) (hw : w ≤ 32768) (hg : ∀ s, s < w → g s < N.length + 2 ∧ g (s + w) < N.length + 2) (h7 : 2 * w ≤ gN t 7) (hv : ∀ s, s < 2 * w → gA t 7 s = jn (g s)) (hl : (lvN N r w g w).length + 2 ≤ 4400) (hle : (lvN N r w g w).length < 2 ^ e) (h9 : (lvN N r w g w).length + 2 ≤ gN t 9) (h10 : gN t 10 = gN t 9) (h11 : gN t 11 = gN t 9) (hg9 : gN t 9 ≤ 8800) : ∃ t', lp (fun x => x0_draw_B116 (jn w) (jn r) x.1 x.2) ((0 : Int32), t) = some t' ∧ fx [3, 7, 8, 9, 10, 11] [] t t' ∧ NX t' (lvN N r w g w) ∧ HX t' e (lvN N r w g w) ∧ ∀ s, s < w → gA t' 7 s = jn (lk (lvN N r w g w) r (g s) (g (s + w))) := by
  exact lp_cnt (b := fun x : Int32 × St => x0_draw_B116 (jn w) (jn r) x.1 x.2) (fun i s => (jn i, s)) w
    (fun i s => fx [3, 7, 8, 9, 10, 11] [] t s ∧ NX s (lvN N r w g i) ∧ HX s e (lvN N r w g i) ∧ (∀ j, j < i → gA s 7 j = jn (lk (lvN N r w g w) r (g j) (g (j + w)))) ∧ ∀ j, i ≤ j → gA s 7 j = gA t 7 j)
    (fun s => fx [3, 7, 8, 9, 10, 11] [] t s ∧ NX s (lvN N r w g w) ∧ HX s e (lvN N r w g w) ∧ ∀ j, j < w → gA s 7 j = jn (lk (lvN N r w g w) r (g j) (g (j + w)))) (by
      rintro i s hi ⟨hf, k1, k2, k3, k4⟩
      obtain ⟨s1, u1, u2, u3, u4⟩ := lev_node (t := s) k1 k2 hs hd hr hg hi hl hle (by rw [hf.2 9 rfl]; exact h9) (by rw [hf.2 10 rfl, hf.2 9 rfl]; exact h10) (by rw [hf.2 11 rfl, hf.2 9 rfl]; exact h11) (by rw [hf.2 9 rfl]; exact hg9)
      dsimp only
      unfold x0_draw_B116
      rw [if_neg (nle hi (by omega)), hf.2 7 rfl, gd_jn (by omega) (by omega), jn_add, gd_jn (by omega) (by omega), jn_cl (by omega), jn_cl (by omega), k4 i (by omega), k4 (i + w) (by omega), hv i (by omega), hv (i + w) (by omega), u1, bs, u2.2 7 rfl, hf.2 7 rfl, gd_jn (by omega) (by omega)]
      simp only [nm, jn_s]
      generalize hq : sA s1 7 (jn i) (jn (lk (lvN N r w g w) r (g i) (g (i + w)))) = s2
      have f2 : fx [7] [] s1 s2 := by subst hq; exact fx_sA rfl
      have e7 : gA s2 7 = upd (gA s 7) i (jn (lk (lvN N r w g w) r (g i) (g (i + w)))) := by
        rw [← hq, gA_sA, jn_cl (by omega), (u2.1 7 rfl).2.2.1]
      refine ⟨s2, rfl, hf.trans ((u2.wk rfl rfl).trans (f2.wk rfl rfl)), u3.fr f2, u4.fr f2, fun j hj => ?_, fun j hj => ?_⟩
      · rw [e7]
        by_cases c : j = i
        · subst c; rw [upd_at]
        · rw [upd_ne c]; exact k3 j (by omega)
      · rw [e7, upd_ne (by omega)]; exact k4 j (by omega)) (by
      rintro s ⟨hf, k1, k2, k3, -⟩
      exact ⟨s, by dsimp only; unfold x0_draw_B116; rw [if_pos (lee (by omega))], hf, k1, k2, k3⟩) 0 t (Nat.zero_le _) ⟨fx.rfl, hX, hH, fun j hj => absurd hj (Nat.not_lt_zero j), fun j _ => rfl⟩
theorem draw_lev0 {t : St} {e m : Nat} {f : Nat → Bool} (hX : NX t []) (hH : HX t e []) (h1 : 1 ≤ m) (hm : m ≤ 16) (h7 : 2 ^ (m - 1) ≤ gN t 7) (h803 : gI t 803 = jn m) (hb : ∀ s : St, fx [3, 7, 8, 9, 10, 11] [] t s → ∀ q, q < 2 ^ m → x8_bit s (jn q) = some (b01 (f q))) (hl : (dg f m 1).1.length + 2 ≤ 4400) (hle : (dg f m 1).1.length < 2 ^ e) (h9 : (dg f m 1).1.length + 2 ≤ gN t 9) (h10 : gN t 10 = gN t 9) (h11 : gN t 11 = gN t 9) (hg9 : gN t 9 ≤ 8800) : ∃ t', lp (fun x => x0_draw_B47 (jn (2 ^ (m - 1))) x.1 x.2) ((0 : Int32), t) = some t' ∧ fx [3, 7, 8, 9, 10, 11] [] t t' ∧ NX t' (dg f m 1).1 ∧ HX t' e (dg f m 1).1 ∧ ∀ s, s < 2 ^ (m - 1) → gA t' 7 s = jn ((dg f m 1).2 s) := by
  have pm1 : 2 ^ (m - 1) ≤ 2 ^ 15 := Nat.pow_le_pow_right (by omega) (by omega)
  have e15 : (2 : Nat) ^ 15 = 32768 := rfl
  have p2 : 2 ^ m = 2 ^ (m - 1) + 2 ^ (m - 1) := by
    rw [show m = (m - 1) + 1 by omega, Nat.pow_succ, Nat.add_sub_cancel]; omega
  have g0 : ∀ q, (dg f m 0).2 q < 2 := fun q => by
    show (if f q then 1 else 0) < 2
    split <;> omega
  have gb : ∀ q, b01 (f q) = jn ((dg f m 0).2 q) := fun q => by
    show b01 (f q) = jn (if f q then 1 else 0)
    cases f q <;> rfl
  have d1 : dg f m (0 + 1) = _ := dg_s f m 0
  rw [Nat.zero_add, Nat.sub_zero] at d1
  have d11 : (dg f m 1).1 = lvN [] (m - 1) (2 ^ (m - 1)) (dg f m 0).2 (2 ^ (m - 1)) := congrArg Prod.fst d1
  have d12 : ∀ s, (dg f m 1).2 s = lk (lvN [] (m - 1) (2 ^ (m - 1)) (dg f m 0).2 (2 ^ (m - 1))) (m - 1) ((dg f m 0).2 s) ((dg f m 0).2 (s + 2 ^ (m - 1))) := fun s => congrFun (congrArg Prod.snd d1) s
  rw [d11] at hl hle h9 ⊢
  have L := lp_cnt (b := fun x : Int32 × St => x0_draw_B47 (jn (2 ^ (m - 1))) x.1 x.2) (fun i s => (jn i, s)) (2 ^ (m - 1))
    (fun i s => fx [3, 7, 8, 9, 10, 11] [] t s ∧ NX s (lvN [] (m - 1) (2 ^ (m - 1)) (dg f m 0).2 i) ∧ HX s e (lvN [] (m - 1) (2 ^ (m - 1)) (dg f m 0).2 i) ∧ (∀ j, j < i → gA s 7 j = jn ((dg f m 1).2 j)))
    (fun s => fx [3, 7, 8, 9, 10, 11] [] t s ∧ NX s (lvN [] (m - 1) (2 ^ (m - 1)) (dg f m 0).2 (2 ^ (m - 1))) ∧ HX s e (lvN [] (m - 1) (2 ^ (m - 1)) (dg f m 0).2 (2 ^ (m - 1))) ∧ ∀ j, j < 2 ^ (m - 1) → gA s 7 j = jn ((dg f m 1).2 j)) (by
      rintro i s hi ⟨hf, k1, k2, k3⟩
      obtain ⟨s1, u1, u2, u3, u4⟩ := lev_node (t := s) k1 k2 (fun i hi => absurd hi (Nat.not_lt_zero i)) List.nodup_nil (by omega) (fun s _ => ⟨g0 s, g0 _⟩) hi hl hle (by rw [hf.2 9 rfl]; exact h9) (by rw [hf.2 10 rfl, hf.2 9 rfl]; exact h10) (by rw [hf.2 11 rfl, hf.2 9 rfl]; exact h11) (by rw [hf.2 9 rfl]; exact hg9)
      rw [← d12] at u1
      dsimp only
      unfold x0_draw_B47
      rw [if_neg (nle hi (by omega)), hb s hf i (by omega), bs, jn_add, hb s hf (i + 2 ^ (m - 1)) (by omega), bs, (hf.1 803 rfl).1, h803, show (1 : Int32) = jn 1 from rfl, jn_sub h1, gb, gb, u1, bs, u2.2 7 rfl, hf.2 7 rfl, gd_jn (by omega) (by omega)]
      simp only [nm, jn_add]
      generalize hq : sA s1 7 (jn i) (jn ((dg f m 1).2 i)) = s2
      have f2 : fx [7] [] s1 s2 := by subst hq; exact fx_sA rfl
      have e7 : gA s2 7 = upd (gA s 7) i (jn ((dg f m 1).2 i)) := by
        rw [← hq, gA_sA, jn_cl (by omega), (u2.1 7 rfl).2.2.1]
      refine ⟨s2, rfl, hf.trans ((u2.wk rfl rfl).trans (f2.wk rfl rfl)), u3.fr f2, u4.fr f2, fun j hj => ?_⟩
      rw [e7]
      by_cases c : j = i
      · subst c; rw [upd_at]
      · rw [upd_ne c]; exact k3 j (by omega)) (by
      rintro s ⟨hf, k1, k2, k3⟩
      exact ⟨s, by dsimp only; unfold x0_draw_B47; rw [if_pos (lee (by omega))], hf, k1, k2, k3⟩) 0 t (Nat.zero_le _) ⟨fx.rfl, hX, hH, fun j hj => absurd hj (Nat.not_lt_zero j)⟩
  exact L
theorem dg_sm (f : Nat → Bool) {m d : Nat} (hm : m ≤ 16) (hd : d ≤ m) (hl : (dg f m d).1.length + 2 ≤ 4400) : SmN (dg f m d).1 := by
  intro i hi
  obtain ⟨w1, w2, -⟩ := (dg_ok f hd).1 i hi
  have := (dg_mem hd (getD_memN hi)).2
  exact ⟨by omega, by omega, by omega⟩
theorem draw_all {t : St} {e m : Nat} {f : Nat → Bool} (hf : MonF f m) (hX : NX t (dg f m 1).1) (hH : HX t e (dg f m 1).1) (h1 : 1 ≤ m) (hm : m ≤ 16) (h7 : 2 ^ (m - 1) ≤ gN t 7) (hv : ∀ s, s < 2 ^ (m - 1) → gA t 7 s = jn ((dg f m 1).2 s)) (he : min 13 (m + 1) ≤ e) (h9 : roomN m ≤ gN t 9) (h10 : gN t 10 = gN t 9) (h11 : gN t 11 = gN t 9) (hg9 : gN t 9 ≤ 8800) : ∃ t', lp (fun x => x0_draw_B105 x.1 x.2) (jn m - 2, t) = some t' ∧ fx [3, 7, 8, 9, 10, 11] [] t t' ∧ NX t' (dgN f m) ∧ gA t' 7 0 = jn (dgTop f m) := by
  have pm1 : 2 ^ (m - 1) ≤ 2 ^ 15 := Nat.pow_le_pow_right (by omega) (by omega)
  have e15 : (2 : Nat) ^ 15 = 32768 := rfl
  have L := lp_cnt (b := fun x : Int32 × St => x0_draw_B105 x.1 x.2) (fun i s => (dn (m - 1 - i), s)) (m - 1)
    (fun i s => fx [3, 7, 8, 9, 10, 11] [] t s ∧ NX s (dg f m (i + 1)).1 ∧ HX s e (dg f m (i + 1)).1 ∧ ∀ j, j < 2 ^ (m - 1 - i) → gA s 7 j = jn ((dg f m (i + 1)).2 j))
    (fun s => fx [3, 7, 8, 9, 10, 11] [] t s ∧ NX s (dgN f m) ∧ gA s 7 0 = jn (dgTop f m)) (by
      rintro i s hi ⟨hx, k1, k2, k3⟩
      have b := dg_bound hf hm h1 (d := i + 2) (by omega)
      have b' := dg_bound hf hm h1 (d := i + 1) (by omega)
      have ds : dg f m (i + 1 + 1) = _ := dg_s f m (i + 1)
      have pw : 2 ^ (m - 1 - i) = 2 * 2 ^ (m - 1 - (i + 1)) := by
        rw [show m - 1 - i = (m - 1 - (i + 1)) + 1 by omega, Nat.pow_succ]; omega
      have pl : 2 ^ (m - 1 - i) ≤ 2 ^ (m - 1) := Nat.pow_le_pow_right (by omega) (by omega)
      have ok := (dg_ok f (m := m) (d := i + 1) (by omega)).2
      rw [show m - (i + 1) = m - 1 - i by omega] at ok
      have pe : 2 ^ min 13 (m + 1) ≤ 2 ^ e := Nat.pow_le_pow_right (by omega) he
      have b2 : (dg f m (i + 2)).1.length < 2 ^ min 13 (m + 1) ∧ (dg f m (i + 2)).1.length + 2 ≤ roomN m := by
        unfold roomN
        have : 2 ^ m * 2 = 2 ^ (m + 1) := (Nat.pow_succ ..).symm
        by_cases c : m + 1 ≤ 13
        · rw [Nat.min_eq_right c]
          exact ⟨by omega, by omega⟩
        · rw [Nat.min_eq_left (by omega)]
          have : (2 : Nat) ^ 13 = 8192 := rfl
          exact ⟨by omega, by omega⟩
      have ea : (dg f m (i + 2)).1 = lvN (dg f m (i + 1)).1 (m - 1 - (i + 1)) (2 ^ (m - 1 - (i + 1))) (dg f m (i + 1)).2 (2 ^ (m - 1 - (i + 1))) := congrArg Prod.fst ds
      have eb : ∀ s, (dg f m (i + 2)).2 s = lk (lvN (dg f m (i + 1)).1 (m - 1 - (i + 1)) (2 ^ (m - 1 - (i + 1))) (dg f m (i + 1)).2 (2 ^ (m - 1 - (i + 1)))) (m - 1 - (i + 1)) ((dg f m (i + 1)).2 s) ((dg f m (i + 1)).2 (s + 2 ^ (m - 1 - (i + 1)))) := fun s => congrFun (congrArg Prod.snd ds) s
      rw [ea] at b b2
      obtain ⟨s1, u1, u2, u3, u4, u5⟩ := draw_lev (t := s) (r := m - 1 - (i + 1)) (w := 2 ^ (m - 1 - (i + 1))) (g := (dg f m (i + 1)).2) k1 k2 (dg_sm f hm (by omega) (by omega)) (dg_nd f m _) (by omega) (by omega) (fun q hq => ⟨ok q (by omega), ok _ (by omega)⟩) (by rw [hx.2 7 rfl]; omega) (fun q hq => k3 q (by omega)) (by omega) (by omega) (by rw [hx.2 9 rfl]; omega) (by rw [hx.2 10 rfl, hx.2 9 rfl]; exact h10) (by rw [hx.2 11 rfl, hx.2 9 rfl]; exact h11) (by rw [hx.2 9 rfl]; exact hg9)
      refine ⟨s1, ?_, hx.trans u2, by rw [ea]; exact u3, by rw [ea]; exact u4, fun j hj => by rw [eb]; exact u5 j hj⟩
      dsimp only
      have ed : dn (m - 1 - i) = jn (m - 1 - (i + 1)) := by
        unfold dn
        rw [if_neg (by omega)]
        rfl
      unfold x0_draw_B105
      rw [ed, if_neg (jn_neg (by omega)), jn_shl1 _ (by omega)]
      simp only [nm]
      rw [u1, bs, dn_pred]) (by
      rintro s ⟨hx, k1, k2, k3⟩
      rw [show m - 1 + 1 = m by omega] at k1 k3
      refine ⟨s, ?_, hx, k1, k3 0 (Nat.two_pow_pos _)⟩
      dsimp only
      unfold x0_draw_B105
      rw [Nat.sub_self, if_pos (show dn 0 < 0 by decide)]) 0 t (Nat.zero_le _) ⟨fx.rfl, hX, hH, fun j hj => hv j hj⟩
  have z : ∀ m : Nat, m < 17 → 1 ≤ m → jn m - 2 = dn (m - 1) := by decide
  rw [z m (by omega) h1]
  exact L
theorem rwF_mono {tx tm : St} (hK : RK tx tm) {K : Nat} (hk : K < nK tm) : MonF (rwF tm (kH tm K) K) (mN (kH tm K)) := fun s u _ _ h hs => rch_mono hK K hk (fun x hx hb => by
  have h16 := bit_16 (kH_lt hK hk) hx
  rw [wd_bit h16] at hb ⊢
  rw [hx, Bool.true_and] at *
  exact h _ hb) hs
theorem mN_pos {tx tm : St} (hK : RK tx tm) {K : Nat} (hk : K < nK tm) : 1 ≤ mN (kH tm K) := by
  by_cases c : mN (kH tm K) = 0
  · have z : ∀ s, (kH tm K).testBit s = true → False := fun s hs => by
      have := rk_lt (bit_16 (kH_lt hK hk) hs) hs
      omega
    have a := rch_full hK (a := 0) K hk (fun s hs => (z s hs).elim)
    have b := rch_none hK (a := 0) K hk (fun s hs => (z s hs).elim)
    rw [a] at b
    exact absurd b (by decide)
  · omega
theorem RTb.atK {tx tm : St} (h : RTb tx tm) {K : Nat} (hk : K < nK tm) (h250 : nK tm ≤ 2147483647) (e : gI tx 805 = jn K) : TbK tm K tx := by
  rcases h.2.2 with e' | ⟨K', k1, k2, k3⟩
  · rw [e] at e'
    exact absurd e' (jn_ne1 (by omega))
  · rw [e] at k2
    rw [(jn_inj (by omega) (by omega)).mp k2]
    exact k3
/-- the diagram that is kept -/
def DgX (t : St) (f : Nat → Bool) (m : Nat) : Prop := NX t (dgN f m) ∧ gI t 4 = jn (dgTop f m) ∧ gI t 6 = jn ((m + 2) / 3) ∧ (dgN f m).length + 2 ≤ gN t 9
def RD (tx tm : St) : Prop := DSz tx ∧ (gI tx 2 = -1 ∨ ∃ K, K < nK tm ∧ gI tx 2 = jn K ∧ DgX tx (rwF tm (kH tm K) K) (mN (kH tm K)))
theorem RD.fr {S T : List Nat} {tx tx' tm : St} (h : RD tx tm) (hx : fx S T tx tx') (h1 : (S.elem 2 || S.elem 3 || S.elem 4 || S.elem 6 || S.elem 9 || S.elem 10 || S.elem 11) = false := by rfl) (h2 : (T.elem 7 || T.elem 8 || T.elem 9 || T.elem 10 || T.elem 11) = false := by rfl) : RD tx' tm := by
  refine ⟨(h.1.fr hx h2).1, ?_⟩
  simp only [Bool.or_eq_false_iff] at h1 h2
  obtain ⟨⟨⟨⟨⟨⟨a2, a3⟩, a4⟩, a6⟩, a9⟩, a10⟩, a11⟩ := h1
  rcases h.2 with e | ⟨K, k1, k2, k3, k4, k5, k6⟩
  · exact Or.inl ((hx.1 2 a2).1.trans e)
  · exact Or.inr ⟨K, k1, (hx.1 2 a2).1.trans k2, k3.fr hx (by simp only [a3, a9, a10, a11]; rfl), (hx.1 4 a4).1.trans k4, (hx.1 6 a6).1.trans k5, by rw [hx.2 9 h2.1.1.2]; exact k6⟩
theorem RD.same {tx tm tm' : St} (hs : SameK tm tm') (h : RD tx tm) : RD tx tm' := by
  refine ⟨h.1, ?_⟩
  rcases h.2 with e | ⟨K, k1, k2, k3⟩
  · exact Or.inl e
  · refine Or.inr ⟨K, by rw [hs.1]; exact k1, k2, ?_⟩
    rw [show rwF tm' (kH tm' K) K = rwF tm (kH tm K) K from by funext q; unfold rwF; rw [hs.2.1, hs.2.2.1], hs.2.2.1]
    exact k3
theorem RD.older {tx tm tm' : St} (hs : Older tm tm') (h : RD tx tm) : RD tx tm' := by
  refine ⟨h.1, ?_⟩
  rcases h.2 with e | ⟨K, k1, k2, k3⟩
  · exact Or.inl e
  · refine Or.inr ⟨K, by have := hs.1; omega, k2, ?_⟩
    rw [show rwF tm' (kH tm' K) K = rwF tm (kH tm K) K from by funext q; unfold rwF; rw [(hs.2 K k1).1, (hs.2 K k1).2.1], (hs.2 K k1).2.1]
    exact k3
theorem RD.atK {tx tm : St} (h : RD tx tm) {K : Nat} (hk : K < nK tm) (h250 : nK tm ≤ 2147483647) (e : gI tx 2 = jn K) : DgX tx (rwF tm (kH tm K) K) (mN (kH tm K)) := by
  rcases h.2 with e' | ⟨K', k1, k2, k3⟩
  · rw [e] at e'
    exact absurd e' (jn_ne1 (by omega))
  · rw [e] at k2
    rw [(jn_inj (by omega) (by omega)).mp k2]
    exact k3
theorem dg_room {f : Nat → Bool} {m d : Nat} (hf : MonF f m) (hm : m ≤ 16) (h1 : 1 ≤ m) (hd : d ≤ m) : (dg f m d).1.length < 2 ^ min 13 (m + 1) ∧ (dg f m d).1.length + 2 ≤ roomN m ∧ roomN m ≤ 4400 := by
  have b := dg_bound hf hm h1 hd
  refine ⟨?_, ?_, Nat.min_le_left _ _⟩
  · have : 2 ^ m * 2 = 2 ^ (m + 1) := (Nat.pow_succ ..).symm
    by_cases c : m + 1 ≤ 13
    · rw [Nat.min_eq_right c]
      omega
    · rw [Nat.min_eq_left (by omega)]
      have : (2 : Nat) ^ 13 = 8192 := rfl
      omega
  · unfold roomN
    omega
theorem draw_eq {tx tm : St} (hK : RK tx tm) (hQ : RQ tm) {K : Nat} (hk : K < nK tm) (hT : RTb tx tm) (hD : RD tx tm) : ∃ t', x0_draw tx (jn K) = some t' ∧ fx [2, 3, 4, 5, 6, 7, 8, 9, 10, 11, 801, 802, 803, 804, 805, 806, 807, 808, 809, 810, 811, 812, 813, 814] [7, 8, 9, 10, 11, 808, 9000, 9001] tx t' ∧ RTb t' tm ∧ RD t' tm ∧ gI t' 2 = jn K ∧ TbK tm K t' ∧ gN t' 9001 + 2 * gN tx 808 + PD tx ≤ gN tx 9001 + 2 * gN t' 808 + PD t' ∧ gN t' 9000 + gN tx 808 ≤ gN tx 9000 + gN t' 808 + 5 := by
  have h250 := nK_lt hK
  obtain ⟨t1, k1, f1, hT1, e5, TK, me1, me2⟩ := fillFor_eq hK hQ hk hT
  obtain ⟨hD1, pd1⟩ := hD.1.fr f1
  have RD1 : RD t1 tm := hD.fr f1
  unfold x0_draw
  rw [k1, bs]
  unfold x0_draw_J8
  by_cases c : gI t1 2 = jn K
  · rw [if_pos c.symm]
    exact ⟨t1, rfl, f1.wk rfl rfl, hT1, RD1, c, TK, by omega, by omega⟩
  · rw [if_neg (fun e => c e.symm)]
    simp only [nm]
    have hm := mN_le (kH tm K)
    have h1 := mN_pos hK hk
    have hf := rwF_mono hK hk
    generalize hm' : mN (kH tm K) = m at *
    generalize hfg : rwF tm (kH tm K) K = f at *
    have e803 : gI t1 803 = jn m := by rw [← hm']; exact TK.1.2.1
    generalize ht2 : sI t1 2 (jn K) = t2
    have f2 : fx [2] [] t1 t2 := by subst ht2; exact fx_sI rfl
    have g2 : gI t2 2 = jn K := by subst ht2; exact gI_at
    obtain ⟨hD2, pd2⟩ := hD1.fr f2
    rw [(f2.1 803 rfl).1, e803]
    obtain ⟨t3, r1, f3, r3, r4, hD3, r6, r7, r8, r9, r10⟩ := makeRoom_eq hD2 h1 hm
    rw [r1, bs]
    have v9 := hD3.2.2.1
    have e803' : gI t3 803 = jn m := by rw [(f3.1 803 rfl).1, (f2.1 803 rfl).1, e803]
    have f123 : fx [2, 3, 5, 6, 7, 8, 9, 10, 11] [7, 8, 9, 10, 11, 9000, 9001] t1 t3 := (f2.wk rfl rfl).trans (f3.wk rfl rfl)
    have d1 := dg_room hf hm h1 (d := 1) h1
    have dm := dg_room hf hm h1 (d := m) (Nat.le_refl _)
    obtain ⟨t4, u1, f4, u3, u4, u5⟩ := draw_lev0 (t := t3) (f := f) r3 r4 h1 hm r7 e803' (fun s hs q hq => by
      have x : fx [2, 3, 5, 6, 7, 8, 9, 10, 11] [7, 8, 9, 10, 11, 9000, 9001] t1 s := f123.trans (hs.wk rfl rfl)
      have hTs : RTb s tm := hT1.fr x
      rw [← hfg]
      exact bit_eq (hTs.atK hk (by omega) ((x.1 805 rfl).1.trans e5)) (Tb_808 hTs.1) (by rw [hm']; exact hq)) (by omega) d1.1 (by omega) hD3.2.2.2.1 hD3.2.2.2.2 v9
    obtain ⟨t5, w1, f5, w3, w4⟩ := draw_all (t := t4) (f := f) (e := min 13 (m + 1)) hf u3 u4 h1 hm (by rw [f4.2 7 rfl]; exact r7) u5 (Nat.le_refl _) (by rw [f4.2 9 rfl]; exact r8) (by rw [f4.2 10 rfl, f4.2 9 rfl]; exact hD3.2.2.2.1) (by rw [f4.2 11 rfl, f4.2 9 rfl]; exact hD3.2.2.2.2) (by rw [f4.2 9 rfl]; exact v9)
    unfold x0_draw_J33
    simp only [nm]
    rw [e803', show (1 : Int32) <<< ((jn m - (1 : Int32)) &&& 31) = jn (2 ^ (m - 1)) from by rw [show (1 : Int32) = jn 1 from rfl, jn_sub h1]; exact jn_shl1 _ (by omega), u1, bs, (f4.1 803 rfl).1, e803', w1, bs]
    have p1 := Nat.two_pow_pos (m - 1)
    have n7 : gN t5 7 = gN t3 7 := by rw [f5.2 7 rfl, f4.2 7 rfl]
    rw [show (0 : Int32) = jn 0 from rfl, gd_jn (show 0 < gN t5 7 by omega) (by omega), jn_cl (by omega), w4]
    generalize ht6 : sI t5 4 (jn (dgTop f m)) = t6
    have f6 : fx [4] [] t5 t6 := by subst ht6; exact fx_sI rfl
    have g4 : gI t6 4 = jn (dgTop f m) := by subst ht6; exact gI_at
    have f36 : fx [3, 4, 7, 8, 9, 10, 11] [] t3 t6 := (f4.wk rfl rfl).trans ((f5.wk rfl rfl).trans (f6.wk rfl rfl))
    have f16 : fx [2, 3, 4, 5, 6, 7, 8, 9, 10, 11] [7, 8, 9, 10, 11, 9000, 9001] t1 t6 := (f123.wk rfl rfl).trans (f36.wk rfl rfl)
    have hT6 : RTb t6 tm := hT1.fr f16
    obtain ⟨hD6, pd6⟩ := hD3.fr f36
    have g62 : gI t6 2 = jn K := by rw [(f36.1 2 rfl).1, (f3.1 2 rfl).1]; exact g2
    refine ⟨t6, rfl, (f1.wk rfl rfl).trans (f16.wk rfl rfl), hT6, ⟨hD6, Or.inr ⟨K, hk, g62, ?_⟩⟩, g62, hT6.atK hk (by omega) ((f16.1 805 rfl).1.trans e5), ?_, ?_⟩
    · rw [hm', hfg]
      exact ⟨w3.fr f6, g4, (f36.1 6 rfl).1.trans r6, by rw [f36.2 9 rfl]; exact Nat.le_trans dm.2.1 r8⟩
    · have q1 : gN t6 9001 = gN t3 9001 := f36.2 9001 rfl
      have q2 : gN t2 9001 = gN t1 9001 := f2.2 9001 rfl
      have q3 : gN t6 808 = gN t1 808 := f16.2 808 rfl
      omega
    · have q1 : gN t6 9000 = gN t3 9000 := f36.2 9000 rfl
      have q2 : gN t2 9000 = gN t1 9000 := f2.2 9000 rfl
      have q3 : gN t6 808 = gN t1 808 := f16.2 808 rfl
      omega
