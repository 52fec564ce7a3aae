/-! Diagrams: a node and the levels, on the reference's side. -/
def hsM (x : Nat × Nat × Nat) : Nat := x.2.1 * 7919 + x.2.2 * 104729
def NM (t : St) (N : List (Nat × Nat × Nat)) : Prop := gI t 36 = jn (N.length + 2) ∧ ∀ i, i < N.length → gA t 39 (i + 2) = jn (N.getD i (0, 0, 0)).1 ∧ gA t 40 (i + 2) = jn (N.getD i (0, 0, 0)).2.1 ∧ gA t 41 (i + 2) = jn (N.getD i (0, 0, 0)).2.2
def HM (t : St) (lo : Nat) (N : List (Nat × Nat × Nat)) : Prop := PrbOk (-1) 32768 (gA t 42) (fun i => hsM (N.getD i (0, 0, 0))) lo N.length
theorem nodeOf_body {t : St} {N : List (Nat × Nat × Nat)} {r a b : Nat} (hN : NM t N) (hs : SmN N) (ha : a < 4400) (hb : b < 4400) (hl : N.length + 2 ≤ 4400) {c : Nat} (hc : c < 32768) {i : Nat} (hi : i < N.length) (hv : gA t 42 c = jn (i + 2)) : m_nodeOf_B27 t (jn r) (jn a) (jn b) (jn c) = some (if (N.getD i (0, 0, 0)).2 = (a, b) then .inr (.inl (jn (i + 2))) else .inl (jn ((c + 1) % 32768))) := by
  obtain ⟨v9, v10, v11⟩ := hN.2 i hi
  obtain ⟨s1, s2, s3⟩ := hs i hi
  have nxt : m_nodeOf_J72 t (jn r) (jn a) (jn b) (jn c) = some (.inl (jn ((c + 1) % 32768))) := by
    unfold m_nodeOf_J72
    simp only [nm]
    rw [jn_s, show (32768 : Int32) = jn 32768 from rfl, jn_rem (by omega) (by omega)]
  unfold m_nodeOf_B27
  rw [gd_jn (show c < 32768 by omega) (by omega), jn_cl (show c < 2147483648 by omega), hv, if_neg (jn_ne1 (show i + 2 < 2147483648 by omega)), gd_jn (show c < 32768 by omega) (by omega)]
  simp only [nm]
  rw [gd_jn (show i + 2 < 12002 by omega) (by omega), jn_cl (show i + 2 < 2147483648 by omega), v10, gd_jn (show i + 2 < 12002 by omega) (by omega), v11, nxt]
  have hx : (N.getD i (0, 0, 0)).2 = ((N.getD i (0, 0, 0)).2.1, (N.getD i (0, 0, 0)).2.2) := rfl
  rw [hx]
  clear hx
  generalize (N.getD i (0, 0, 0)).2.1 = x2 at *
  generalize (N.getD i (0, 0, 0)).2.2 = x3 at *
  by_cases c1 : x2 = a
  · subst c1
    rw [if_pos rfl]
    by_cases c2 : x3 = b
    · subst c2
      rw [if_pos rfl, if_pos rfl]
    · rw [if_neg (fun z => c2 ((jn_inj (by omega) (by omega)).mp z)), if_neg (fun z => c2 (congrArg Prod.snd z))]
  · rw [if_neg (fun z => c1 ((jn_inj (by omega) (by omega)).mp z)), if_neg (fun z => c1 (congrArg Prod.fst z))]
theorem nodeOf_eq {t : St} {N : List (Nat × Nat × Nat)} {lo r a b : Nat} (hN : NM t N) (hH : HM t lo N) (hs : SmN N) (hd : N.Nodup) (hlo : lo ≤ N.length) (hl0 : ∀ i, i < lo → (N.getD i (0, 0, 0)).1 ≠ r) (hl1 : ∀ i, lo ≤ i → i < N.length → (N.getD i (0, 0, 0)).1 = r) (ha : a < N.length + 2) (hb : b < N.length + 2) (hl : (addN N r a b).length + 2 ≤ 4400) : ∃ t', m_nodeOf t (jn r) (jn a) (jn b) = some (jn (lk N r a b), t') ∧ fx [36, 39, 40, 41, 42] [] t t' ∧ NM t' (addN N r a b) ∧ HM t' lo (addN N r a b) ∧ ∀ i, i < 2 → gA t' 39 i = gA t 39 i := by
  have ex := (addN_ext N r a b).len
  unfold m_nodeOf
  by_cases c : a = b
  · subst c
    rw [if_pos rfl]
    refine ⟨t, ?_, fx.rfl, ?_, ?_, fun i _ => rfl⟩
    · rw [show lk N r a a = a from if_pos rfl]
    · rw [show addN N r a a = N from if_pos (Or.inl rfl)]; exact hN
    · rw [show addN N r a a = N from if_pos (Or.inl rfl)]; exact hH
  · rw [if_neg (fun z => c ((jn_inj (by omega) (by omega)).mp z))]
    have start : (((jn a * (7919 : Int32)) + (jn b * (104729 : Int32))) &&& (2147483647 : Int32)) - (((jn a * (7919 : Int32)) + (jn b * (104729 : Int32))) &&& (2147483647 : Int32)) / (32768 : Int32) * (32768 : Int32) = jn ((hsM (r, a, b) + 0) % 32768) := by
      rw [show (7919 : Int32) = jn 7919 from rfl, show (104729 : Int32) = jn 104729 from rfl, jn_mul, jn_mul, jn_add, show (2147483647 : Int32) = jn (2 ^ 31 - 1) from rfl, jn_and, Nat.and_two_pow_sub_one_eq_mod, show (32768 : Int32) = jn 32768 from rfl, jn_rem (Nat.mod_lt _ (by omega)) (by omega), Nat.mod_eq_of_lt (show a * 7919 + b * 104729 < 2 ^ 31 by omega)]
      simp only [hsM, Nat.add_zero]
    simp only [nm]
    rw [start]
    have P := probe (E := -1) (C := 32768) (cel := gA t 42) (key := fun i => hsM (N.getD i (0, 0, 0))) (lo := lo) (hi := N.length) (h := hsM (r, a, b)) hH (by omega) (fun i hi => jn_ne1 (by omega)) (by omega) (M := fun i => (N.getD i (0, 0, 0)).2 = (a, b)) (by
      by_cases m : (r, a, b) ∈ N
      · obtain ⟨i, i1, i2⟩ := mem_idx.mp m
        have il : lo ≤ i := by
          by_cases z : lo ≤ i
          · exact z
          · exact absurd (by rw [i2]) (hl0 i (by omega))
        exact Or.inl ⟨i, il, i1, by rw [i2], by rw [i2], fun j j0 j1 j2 => nd_at hd j1 i1 (by rw [i2, ← hl1 j j0 j1, ← j2])⟩
      · exact Or.inr fun i i0 i1 i2 => m (mem_idx.mpr ⟨i, i1, by rw [← hl1 i i0 i1, ← i2]⟩))
    obtain ⟨k, k1, k2, k3⟩ := P
    have L := lp_cnt (b := fun x : Int32 => m_nodeOf_B27 t (jn r) (jn a) (jn b) x) (fun i (_ : Unit) => jn ((hsM (r, a, b) + i) % 32768)) k
      (fun i _ => True)
      (fun y => (∃ i0, lo ≤ i0 ∧ i0 < N.length ∧ (N.getD i0 (0, 0, 0)).2 = (a, b) ∧ y = .inl (jn (i0 + 2))) ∨ ((r, a, b) ∉ N ∧ gA t 42 ((hsM (r, a, b) + k) % 32768) = -1 ∧ y = .inr (jn ((hsM (r, a, b) + k) % 32768)))) (by
        rintro i ⟨⟩ hi -
        obtain ⟨j, -, j1, j2, j3⟩ := k2 i hi
        refine ⟨(), ?_, trivial⟩
        rw [nodeOf_body hN hs (by omega) (by omega) (by omega) (Nat.mod_lt _ (by omega)) j1 j2, if_neg j3, Nat.mod_add_mod, Nat.add_assoc]) (by
        rintro ⟨⟩ -
        rcases k3 with ⟨i0, i00, i1, i2, i3⟩ | ⟨n1, n2⟩
        · refine ⟨.inl (jn (i0 + 2)), ?_, Or.inl ⟨i0, i00, i1, i2, rfl⟩⟩
          rw [nodeOf_body hN hs (by omega) (by omega) (by omega) (Nat.mod_lt _ (by omega)) i1 i3, if_pos i2]
        · refine ⟨.inr (jn ((hsM (r, a, b) + k) % 32768)), ?_, Or.inr ⟨fun m => by
            obtain ⟨i, i1, i2⟩ := mem_idx.mp m
            have il : lo ≤ i := by
              by_cases z : lo ≤ i
              · exact z
              · exact absurd (by rw [i2]) (hl0 i (by omega))
            exact n1 i il i1 (by rw [i2]), n2, rfl⟩⟩
          have lt := Nat.mod_lt (hsM (r, a, b) + k) (show 32768 > 0 by omega)
          unfold m_nodeOf_B27
          rw [gd_jn (by omega) (by omega), jn_cl (by omega), n2, if_pos rfl]) 0 () (Nat.zero_le _) trivial
    obtain ⟨y, l1, l2⟩ := L
    rw [show lp (fun x : Int32 => m_nodeOf_B27 t (jn r) (jn a) (jn b) x) (jn ((hsM (r, a, b) + 0) % 32768)) = some y from l1, bs]
    rcases l2 with ⟨i0, i00, i1, i2, rfl⟩ | ⟨m, n2, rfl⟩
    · have e0 : N.getD i0 (0, 0, 0) = (r, a, b) := by rw [← hl1 i0 i00 i1, ← i2]
      have mm := mem_idx.mpr ⟨i0, i1, e0⟩
      have ea : addN N r a b = N := if_pos (Or.inr mm)
      refine ⟨t, ?_, fx.rfl, by rw [ea]; exact hN, by rw [ea]; exact hH, fun i _ => rfl⟩
      show some (jn (i0 + 2), t) = some (jn (lk N r a b), t)
      have : ixn N (r, a, b) = i0 := by rw [← e0]; exact ixn_at hd i1
      unfold lk
      rw [if_neg c, this, Nat.add_comm]
    · have ea : addN N r a b = N ++ [(r, a, b)] := if_neg (fun z => z.elim c m)
      have el : (addN N r a b).length = N.length + 1 := by rw [ea, List.length_append]; rfl
      have lt := Nat.mod_lt (hsM (r, a, b) + k) (show 32768 > 0 by omega)
      have e3 := hN.1
      rw [el] at hl
      rw [ea]
      rw [ea] at el
      dsimp only [Sum.elim]
      rw [e3, gd_jn (show N.length + 2 < 12002 by omega) (by omega)]
      generalize ht1 : sA t 39 (jn (N.length + 2)) (jn r) = t1
      have f1 : fx [39] [] t t1 := by subst ht1; exact fx_sA rfl
      rw [(f1.1 36 rfl).1, e3, gd_jn (show N.length + 2 < 12002 by omega) (by omega)]
      generalize ht2 : sA t1 40 (jn (N.length + 2)) (jn a) = t2
      have f2 : fx [40] [] t1 t2 := by subst ht2; exact fx_sA rfl
      rw [(f2.1 36 rfl).1, (f1.1 36 rfl).1, e3, gd_jn (show N.length + 2 < 12002 by omega) (by omega)]
      generalize ht3 : sA t2 41 (jn (N.length + 2)) (jn b) = t3
      have f3 : fx [41] [] t2 t3 := by subst ht3; exact fx_sA rfl
      have f13 : fx [39, 40, 41] [] t t3 := (f1.wk rfl rfl).trans ((f2.wk rfl rfl).trans (f3.wk rfl rfl))
      rw [gd_jn (show (hsM (r, a, b) + k) % 32768 < 32768 by omega) (by omega), (f13.1 36 rfl).1, e3]
      generalize ht4 : sA t3 42 (jn ((hsM (r, a, b) + k) % 32768)) (jn (N.length + 2)) = t4
      have f4 : fx [42] [] t3 t4 := by subst ht4; exact fx_sA rfl
      rw [(f4.1 36 rfl).1, (f13.1 36 rfl).1, e3, jn_s]
      generalize ht5 : sI t4 36 (jn (N.length + 2 + 1)) = t5
      have f5 : fx [36] [] t4 t5 := by subst ht5; exact fx_sI rfl
      have g3 : gI t5 36 = jn (N.length + 2 + 1) := by subst ht5; exact gI_at
      rw [g3]
      have fall : fx [36, 39, 40, 41, 42] [] t t5 := (f13.wk rfl rfl).trans ((f4.wk rfl rfl).trans (f5.wk rfl rfl))
      have x8 : gA t5 42 = upd (gA t 42) ((hsM (r, a, b) + k) % 32768) (jn (N.length + 2)) := by
        rw [(f5.1 42 rfl).2.2.1, ← ht4, gA_sA, (f13.1 42 rfl).2.2.1, jn_cl (by omega)]
      have x9 : gA t5 39 = upd (gA t 39) (N.length + 2) (jn r) := by
        rw [(f5.1 39 rfl).2.2.1, (f4.1 39 rfl).2.2.1, (f3.1 39 rfl).2.2.1, (f2.1 39 rfl).2.2.1, ← ht1, gA_sA, jn_cl (by omega)]
      have x10 : gA t5 40 = upd (gA t 40) (N.length + 2) (jn a) := by
        rw [(f5.1 40 rfl).2.2.1, (f4.1 40 rfl).2.2.1, (f3.1 40 rfl).2.2.1, ← ht2, gA_sA, (f1.1 40 rfl).2.2.1, jn_cl (by omega)]
      have x11 : gA t5 41 = upd (gA t 41) (N.length + 2) (jn b) := by
        rw [(f5.1 41 rfl).2.2.1, (f4.1 41 rfl).2.2.1, ← ht3, gA_sA, (f2.1 41 rfl).2.2.1, (f1.1 41 rfl).2.2.1, jn_cl (by omega)]
      refine ⟨t5, ?_, fall, ⟨by rw [g3, el], fun i hi => ?_⟩, ?_, fun i hi => by rw [x9, upd_ne (by omega)]⟩
      · rw [show (1 : Int32) = jn 1 from rfl, jn_sub (by omega)]
        show some (jn (N.length + 2 + 1 - 1), t5) = some (jn (lk N r a b), t5)
        unfold lk
        rw [if_neg c, ixn_not m, Nat.add_sub_cancel, Nat.add_comm]
      · rw [el] at hi
        rw [x9, x10, x11]
        by_cases z : i = N.length
        · subst z
          rw [getD_last, upd_at, upd_at, upd_at]
          exact ⟨rfl, rfl, rfl⟩
        · rw [getD_app (by omega), upd_ne (by omega), upd_ne (by omega), upd_ne (by omega)]
          exact hN.2 i (by omega)
      · unfold HM
        rw [el, x8]
        refine PrbOk.put hH k1 hlo (fun i hi => jn_ne1 (by omega)) (fun j hj => ?_) n2 (fun i hi => by rw [getD_app hi]) (by rw [getD_last])
        obtain ⟨i, -, i1, i2, -⟩ := k2 j hj
        rw [i2]
        exact jn_ne1 (by omega)
theorem lvN_lev {N : List (Nat × Nat × Nat)} {r w : Nat} {g : Nat → Nat} (n : Nat) : ∀ i, N.length ≤ i → i < (lvN N r w g n).length → ((lvN N r w g n).getD i (0, 0, 0)).1 = r := by
  induction n with
  | zero => exact fun i h1 h2 => absurd h2 (by show ¬ i < N.length; omega)
  | succ n ih =>
    intro i h1 h2
    show ((addN (lvN N r w g n) r (g n) (g (n + w))).getD i (0, 0, 0)).1 = r
    have h3 : i < (addN (lvN N r w g n) r (g n) (g (n + w))).length := h2
    unfold addN at h3 ⊢
    by_cases c : g n = g (n + w) ∨ (r, g n, g (n + w)) ∈ lvN N r w g n
    · rw [if_pos c] at h3 ⊢
      exact ih i h1 h3
    · rw [if_neg c] at h3 ⊢
      by_cases z : i < (lvN N r w g n).length
      · rw [getD_app z]; exact ih i h1 z
      · rw [List.length_append] at h3
        have : [(r, g n, g (n + w))].length = 1 := rfl
        rw [show i = (lvN N r w g n).length by omega, getD_last]
theorem levM_node {t : St} {N : List (Nat × Nat × Nat)} {r w : Nat} {g : Nat → Nat} {i : Nat} (hX : NM t (lvN N r w g i)) (hH : HM t N.length (lvN N r w g i)) (hs : SmN N) (hd : N.Nodup) (hr : r < 17) (hn : ∀ x, x ∈ N → x.1 ≠ r) (hg : ∀ s, s < w → g s < N.length + 2 ∧ g (s + w) < N.length + 2) (hi : i < w) (hl : (lvN N r w g w).length + 2 ≤ 4400) : ∃ t', m_nodeOf t (jn r) (jn (g i)) (jn (g (i + w))) = some (jn (lk (lvN N r w g w) r (g i) (g (i + w))), t') ∧ fx [36, 39, 40, 41, 42] [] t t' ∧ NM t' (lvN N r w g (i + 1)) ∧ HM t' N.length (lvN N r w g (i + 1)) ∧ ∀ i, i < 2 → gA t' 39 i = gA t 39 i := by
  have x0 := lvN_ext N r w g (Nat.zero_le i)
  have a0 : N.length ≤ (lvN N r w g i).length := x0.len
  have a1 : (addN (lvN N r w g i) r (g i) (g (i + w))).length ≤ (lvN N r w g w).length := (lvN_ext N r w g (show i + 1 ≤ w by omega)).len
  have a2 : N.length ≤ (lvN N r w g w).length := (lvN_ext N r w g (Nat.zero_le w)).len
  have := hg i hi
  obtain ⟨t', k1, k2, k3, k4, k5⟩ := nodeOf_eq hX hH (lvN_sm hs hr (by omega) hg (by omega)) (lvN_nd hd _ _ _ _) a0 (fun j hj => by
    have e : (lvN N r w g i).getD j (0, 0, 0) = N.getD j (0, 0, 0) := x0.at hj
    rw [e]; exact hn _ (getD_memN hj)) (lvN_lev i) (a := g i) (b := g (i + w)) (by omega) (by omega) (by omega)
  rw [← lvN_lk hi] at k1
  exact ⟨t', k1, k2, k3, k4, k5⟩
theorem NM.fr {S T : List Nat} {t t' : St} {N : List (Nat × Nat × Nat)} (h : NM t N) (hx : fx S T t t') (h1 : (S.elem 36 || S.elem 39 || S.elem 40 || S.elem 41) = false := by rfl) : NM t' N := by
  simp only [Bool.or_eq_false_iff] at h1
  unfold NM
  rw [(hx.1 36 h1.1.1.1).1, (hx.1 39 h1.1.1.2).2.2.1, (hx.1 40 h1.1.2).2.2.1, (hx.1 41 h1.2).2.2.1]
  exact h
theorem HM.fr {S T : List Nat} {t t' : St} {lo : Nat} {N : List (Nat × Nat × Nat)} (h : HM t lo N) (hx : fx S T t t') (h1 : S.elem 42 = false := by rfl) : HM t' lo N := by
  unfold HM
  rw [(hx.1 42 h1).2.2.1]
  exact h
theorem diaM_wipe {t : St} (v : Int32) : ∃ t', lp (fun x => m_diagrams_B78 v x.1 x.2) ((0 : Int32), t) = some t' ∧ fx [42] [] t t' ∧ ∀ c, c < 32768 → gA t' 42 c = -1 :=
  lp_cnt (b := fun x : Int32 × St => m_diagrams_B78 v x.1 x.2) (fun i s => (jn i, s)) 32768
    (fun k s => fx [42] [] t s ∧ ∀ i, i < k → gA s 42 i = -1)
    (fun s => fx [42] [] t s ∧ ∀ i, i < 32768 → gA s 42 i = -1) (by
      rintro i s hi ⟨hf, h1⟩
      dsimp only
      unfold m_diagrams_B78
      rw [show (32768 : Int32) = jn 32768 from rfl, if_neg (nle hi (by omega)), gd_jn hi (by omega)]
      simp only [nm, jn_s]
      refine ⟨_, rfl, hf.trans (fx_sA rfl), fun i1 hi1 => ?_⟩
      rw [gA_sA, jn_cl (by omega)]
      by_cases e : i1 = i
      · subst e; rw [upd_at]
      · rw [upd_ne e]; exact h1 i1 (by omega)) (by
      rintro s hs
      exact ⟨s, by dsimp only; unfold m_diagrams_B78; rw [show (32768 : Int32) = jn 32768 from rfl, if_pos (lee (by omega))], hs⟩) 0 t (Nat.zero_le _) ⟨fx.rfl, fun i hi => absurd hi (Nat.not_lt_zero i)⟩
theorem diaM_lev {t : St} {N : List (Nat × Nat × Nat)} {r : Nat} {g : Nat → Nat} (hX : NM t N) (hH : HM t N.length N) (hs : SmN N) (hd : N.Nodup) (hr : r < 16) (hn : ∀ x, x ∈ N → x.1 ≠ r) (hg : ∀ s, s < 2 ^ r → g s < N.length + 2 ∧ g (s + 2 ^ r) < N.length + 2) (hv : ∀ s, s < 2 * 2 ^ r → gA t 38 s = jn (g s)) (hl : (lvN N r (2 ^ r) g (2 ^ r)).length + 2 ≤ 4400) : ∃ t', lp (fun x => m_diagrams_B99 (jn r) x.1 x.2) ((0 : Int32), t) = some t' ∧ fx [36, 38, 39, 40, 41, 42] [] t t' ∧ NM t' (lvN N r (2 ^ r) g (2 ^ r)) ∧ (∀ s, s < 2 ^ r → gA t' 38 s = jn (lk (lvN N r (2 ^ r) g (2 ^ r)) r (g s) (g (s + 2 ^ r)))) ∧ ∀ i, i < 2 → gA t' 39 i = gA t 39 i := by
  have pw : 2 ^ r ≤ 2 ^ 15 := Nat.pow_le_pow_right (by omega) (by omega)
  have e15 : (2 : Nat) ^ 15 = 32768 := rfl
  generalize hw : 2 ^ r = w at *
  exact lp_cnt (b := fun x : Int32 × St => m_diagrams_B99 (jn r) x.1 x.2) (fun i s => (jn i, s)) w
    (fun i s => fx [36, 38, 39, 40, 41, 42] [] t s ∧ NM s (lvN N r w g i) ∧ HM s N.length (lvN N r w g i) ∧ (∀ j, j < i → gA s 38 j = jn (lk (lvN N r w g w) r (g j) (g (j + w)))) ∧ (∀ j, i ≤ j → gA s 38 j = gA t 38 j) ∧ ∀ i, i < 2 → gA s 39 i = gA t 39 i)
    (fun s => fx [36, 38, 39, 40, 41, 42] [] t s ∧ NM s (lvN N r w g w) ∧ (∀ j, j < w → gA s 38 j = jn (lk (lvN N r w g w) r (g j) (g (j + w)))) ∧ ∀ i, i < 2 → gA s 39 i = gA t 39 i) (by
      rintro i s hi ⟨hf, k1, k2, k3, k4, k5⟩
      obtain ⟨s1, u1, u2, u3, u4, u5⟩ := levM_node (t := s) k1 k2 hs hd (by omega) hn hg hi hl
      dsimp only
      unfold m_diagrams_B99
      rw [jn_shl1 _ (by omega), hw, if_neg (nle hi (by omega)), gd_jn (by omega) (by omega), jn_add, gd_jn (by omega) (by omega), jn_cl (by omega), jn_cl (by omega), k4 i (by omega), k4 (i + w) (by omega), hv i (by omega), hv (i + w) (by omega), u1, bs, gd_jn (by omega) (by omega)]
      simp only [nm, jn_s]
      generalize hq : sA s1 38 (jn i) (jn (lk (lvN N r w g w) r (g i) (g (i + w)))) = s2
      have f2 : fx [38] [] s1 s2 := by subst hq; exact fx_sA rfl
      have e7 : gA s2 38 = upd (gA s 38) i (jn (lk (lvN N r w g w) r (g i) (g (i + w)))) := by
        rw [← hq, gA_sA, jn_cl (by omega), (u2.1 38 rfl).2.2.1]
      refine ⟨s2, rfl, hf.trans ((u2.wk rfl rfl).trans (f2.wk rfl rfl)), u3.fr f2, u4.fr f2, fun j hj => ?_, fun j hj => ?_, fun j hj => ?_⟩
      · rw [e7]
        by_cases c : j = i
        · subst c; rw [upd_at]
        · rw [upd_ne c]; exact k3 j (by omega)
      · rw [e7, upd_ne (by omega)]; exact k4 j (by omega)
      · rw [(f2.1 39 rfl).2.2.1, u5 j hj, k5 j hj]) (by
      rintro s ⟨hf, k1, k2, k3, -, k5⟩
      exact ⟨s, by dsimp only; unfold m_diagrams_B99; rw [jn_shl1 _ (by omega), hw, if_pos (lee (by omega))], hf, k1, k3, k5⟩) 0 t (Nat.zero_le _) ⟨fx.rfl, hX, hH, fun j hj => absurd hj (Nat.not_lt_zero j), fun j _ => rfl, fun i _ => rfl⟩
theorem diaM_all {t : St} {f : Nat → Bool} (hf : MonF f 16) (hX : NM t []) (hv : ∀ s, s < 65536 → gA t 38 s = b01 (f s)) : ∃ t', lp (fun x => m_diagrams_B72 x.1 x.2) ((15 : Int32), t) = some t' ∧ fx [36, 38, 39, 40, 41, 42] [] t t' ∧ NM t' (dgN f 16) ∧ gA t' 38 0 = jn (dgTop f 16) ∧ ∀ i, i < 2 → gA t' 39 i = gA t 39 i := by
  exact lp_cnt (b := fun x : Int32 × St => m_diagrams_B72 x.1 x.2) (fun i s => (dn (16 - i), s)) 16
    (fun i s => fx [36, 38, 39, 40, 41, 42] [] t s ∧ NM s (dg f 16 i).1 ∧ (∀ j, j < 2 ^ (16 - i) → gA s 38 j = jn ((dg f 16 i).2 j)) ∧ ∀ i, i < 2 → gA s 39 i = gA t 39 i)
    (fun s => fx [36, 38, 39, 40, 41, 42] [] t s ∧ NM s (dgN f 16) ∧ gA s 38 0 = jn (dgTop f 16) ∧ ∀ i, i < 2 → gA s 39 i = gA t 39 i) (by
      rintro i s hi ⟨hx, k1, k3, k5⟩
      have b := (dg_bound hf (Nat.le_refl _) (by omega) (d := i + 1) (by omega)).2
      have b' := (dg_bound hf (Nat.le_refl _) (by omega) (d := i) (by omega)).2
      have ds : dg f 16 (i + 1) = _ := dg_s f 16 i
      have pw : 2 ^ (16 - i) = 2 * 2 ^ (15 - i) := by
        rw [show 16 - i = (15 - i) + 1 by omega, Nat.pow_succ]; omega
      have ok := (dg_ok f (m := 16) (d := i) (by omega)).2
      have ea : (dg f 16 (i + 1)).1 = lvN (dg f 16 i).1 (15 - i) (2 ^ (15 - i)) (dg f 16 i).2 (2 ^ (15 - i)) := congrArg Prod.fst ds
      have eb : ∀ s, (dg f 16 (i + 1)).2 s = lk (lvN (dg f 16 i).1 (15 - i) (2 ^ (15 - i)) (dg f 16 i).2 (2 ^ (15 - i))) (15 - i) ((dg f 16 i).2 s) ((dg f 16 i).2 (s + 2 ^ (15 - i))) := fun s => congrFun (congrArg Prod.snd ds) s
      rw [ea] at b
      have ed : dn (16 - i) = jn (15 - i) := by
        unfold dn
        rw [if_neg (by omega)]
        rw [show 16 - i - 1 = 15 - i by omega]
      obtain ⟨s1, y1, y2, y3⟩ := diaM_wipe (t := s) (jn (15 - i))
      obtain ⟨s2, u1, u2, u3, u4, u5⟩ := diaM_lev (t := s1) (r := 15 - i) (g := (dg f 16 i).2) (k1.fr y2) (PrbOk.nil y3) (dg_sm f (Nat.le_refl _) (by omega) (by omega)) (dg_nd f 16 _) (by omega) (fun x hx e => by
        have := (dg_mem (show i ≤ 16 by omega) hx).1
        omega) (fun q hq => ⟨ok q (by omega), ok _ (by omega)⟩) (fun q hq => by rw [(y2.1 38 rfl).2.2.1]; exact k3 q (by omega)) (by omega)
      refine ⟨s2, ?_, hx.trans ((y2.wk rfl rfl).trans u2), by rw [ea]; exact u3, fun j hj => ?_, fun j hj => ?_⟩
      · dsimp only
        unfold m_diagrams_B72
        rw [ed, if_neg (jn_neg (by omega)), y1, bs, u1, bs]
        simp only [nm]
        rw [dn_pred, show 16 - (i + 1) = 15 - i by omega]
      · rw [eb]
        exact u4 j (by rw [show 15 - i = 16 - (i + 1) by omega]; exact hj)
      · rw [u5 j hj, (y2.1 39 rfl).2.2.1, k5 j hj]) (by
      rintro s ⟨hx, k1, k3, k5⟩
      refine ⟨s, ?_, hx, k1, k3 0 (Nat.two_pow_pos _), k5⟩
      dsimp only
      unfold m_diagrams_B72
      rw [if_pos (show dn (16 - 16) < 0 by decide)]) 0 t (Nat.zero_le _) ⟨fx.rfl, hX, fun j hj => by
        rw [hv j hj]
        show b01 (f j) = jn (if f j then 1 else 0)
        cases f j <;> rfl, fun i _ => rfl⟩
theorem rch_monF {tx tm : St} (hK : RK tx tm) {K : Nat} (hk : K < nK tm) : MonF (rch tm K) 16 := fun s u _ _ h hs => rch_mono hK K hk (fun x _ hb => h x hb) hs
/-- the reference's diagram that is kept -/
def DgM (t : St) (f : Nat → Bool) : Prop := NM t (dgN f 16) ∧ gI t 37 = jn (dgTop f 16) ∧ ∀ i, i < 2 → gA t 39 i = jn 16
def RDm (tm : St) : Prop := gI tm 35 = -1 ∨ ∃ K, K < nK tm ∧ gI tm 35 = jn K ∧ DgM tm (rch tm K)
theorem RDm.fr {S T : List Nat} {tm tm' : St} (h : RDm tm) (hx : fx S T tm tm') (h1 : (S.elem 35 || S.elem 36 || S.elem 37 || S.elem 39 || S.elem 40 || S.elem 41) = false := by rfl) (h2 : (S.elem 7 || S.elem 8 || S.elem 9 || S.elem 10 || S.elem 11 || S.elem 12 || S.elem 14) = false := by rfl) : RDm tm' := by
  simp only [Bool.or_eq_false_iff] at h1 h2
  obtain ⟨⟨⟨⟨⟨a5, a6⟩, a7⟩, a9⟩, a0⟩, a1⟩ := h1
  obtain ⟨⟨⟨⟨⟨⟨b7, b8⟩, b9⟩, b10⟩, b11⟩, b12⟩, b14⟩ := h2
  rcases h with e | ⟨K, k1, k2, k3, k4, k5⟩
  · exact Or.inl ((hx.1 35 a5).1.trans e)
  · refine Or.inr ⟨K, by rw [nK_fr hx b7]; exact k1, (hx.1 35 a5).1.trans k2, ?_⟩
    rw [rch_to (hx.1 8 b8).2.2.1 (hx.1 9 b9).2.2.1 (hx.1 10 b10).2.2.1 (hx.1 11 b11).2.2.1 (hx.1 12 b12).2.2.1 (hx.1 14 b14).2.2.1]
    exact ⟨k3.fr hx (by simp only [a6, a9, a0, a1]; rfl), (hx.1 37 a7).1.trans k4, by rw [(hx.1 39 a9).2.2.1]; exact k5⟩
theorem RDm.atK {tm : St} (h : RDm tm) {K : Nat} (hk : K < nK tm) (h250 : nK tm ≤ 2147483647) (e : gI tm 35 = jn K) : DgM tm (rch tm K) := by
  rcases h with e' | ⟨K', k1, k2, k3⟩
  · rw [e] at e'
    exact absurd e' (jn_ne1 (by omega))
  · rw [e] at k2
    rw [(jn_inj (by omega) (by omega)).mp k2]
    exact k3
theorem diagrams_eq {tx tm : St} (hK : RK tx tm) (hR : RR tx tm) {K : Nat} (hk : K < nK tm) (hD : RDm tm) : ∃ t', m_diagrams tm (jn K) = some t' ∧ fx [35, 36, 37, 38, 39, 40, 41, 42] [] tm t' ∧ gI t' 35 = jn K ∧ DgM t' (rch tm K) := by
  have h250 := nK_lt hK
  unfold m_diagrams
  by_cases c : gI tm 35 = jn K
  · rw [if_pos c]
    exact ⟨tm, rfl, fx.rfl, c, hD.atK hk (by omega) c⟩
  · rw [if_neg c]
    simp only [nm]
    generalize ht1 : sI (sI tm 35 (jn K)) 36 2 = t1
    have f1 : fx [35, 36] [] tm t1 := by subst ht1; exact (fx_sI rfl).trans (fx_sI rfl)
    have g1 : gI t1 35 = jn K ∧ gI t1 36 = jn 2 := by subst ht1; exact ⟨rfl, rfl⟩
    rw [show (0 : Int32) = jn 0 from rfl, gd_jn (show 0 < 12002 by omega) (by omega), show (16 : Int32) = jn 16 from rfl]
    generalize ht2 : sA t1 39 (jn 0) (jn 16) = t2
    have f2 : fx [39] [] t1 t2 := by subst ht2; exact fx_sA rfl
    have g2 : gA t2 39 0 = jn 16 := by rw [← ht2, gA_sA, jn_cl (by omega), upd_at]
    rw [show (1 : Int32) = jn 1 from rfl, gd_jn (show 1 < 12002 by omega) (by omega)]
    generalize ht3 : sA t2 39 (jn 1) (jn 16) = t3
    have f3 : fx [39] [] t2 t3 := by subst ht3; exact fx_sA rfl
    have g3 : ∀ i, i < 2 → gA t3 39 i = jn 16 := fun i hi => by
      rw [← ht3, gA_sA, jn_cl (by omega)]
      by_cases z : i = 1
      · subst z; rw [upd_at]
      · rw [upd_ne z, show i = 0 by omega]; exact g2
    have f13 : fx [35, 36, 39] [] tm t3 := (f1.wk rfl rfl).trans ((f2.wk rfl rfl).trans (f3.wk rfl rfl))
    have L := lp_cnt (b := fun x : Int32 × St => m_diagrams_B37 (jn K) x.1 x.2) (fun i s => (jn i, s)) 65536
      (fun i s => fx [38] [] t3 s ∧ ∀ j, j < i → gA s 38 j = b01 (rch tm K j))
      (fun s => fx [38] [] t3 s ∧ ∀ j, j < 65536 → gA s 38 j = b01 (rch tm K j)) (by
        rintro i s hi ⟨hf, h1⟩
        have er : m_isReached s (jn K) (jn i) = some (b01 (rch tm K i)) := by
          rw [← m_isReached_eq hK hR hk hi]
          unfold m_isReached
          rw [(hf.1 17 rfl).2.2.2, (f13.1 17 rfl).2.2.2]
        have eJ : ∀ v : Int32, m_diagrams_J62 s (jn K) (jn i) (jn i) v = some (.inl (jn (i + 1), sA s 38 (jn i) v)) := fun v => by
          unfold m_diagrams_J62
          rw [gd_jn hi (by omega)]
          simp only [nm, jn_s]
        refine ⟨sA s 38 (jn i) (b01 (rch tm K i)), ?_, hf.trans (fx_sA rfl), fun j hj => ?_⟩
        · dsimp only
          unfold m_diagrams_B37
          rw [show (65536 : Int32) = jn 65536 from rfl, if_neg (nle hi (by omega)), er, bs, eJ, eJ]
          cases rch tm K i <;> rfl
        · rw [gA_sA, jn_cl (by omega)]
          by_cases e : j = i
          · subst e; rw [upd_at]
          · rw [upd_ne e]; exact h1 j (by omega)) (by
        rintro s hs
        exact ⟨s, by dsimp only; unfold m_diagrams_B37; rw [show (65536 : Int32) = jn 65536 from rfl, if_pos (lee (by omega))], hs⟩) 0 t3 (Nat.zero_le _) ⟨fx.rfl, fun j hj => absurd hj (Nat.not_lt_zero j)⟩
    obtain ⟨t4, l1, f4, l3⟩ := L
    rw [l1, bs]
    have n4 : NM t4 [] := by
      refine ⟨?_, fun i hi => absurd hi (Nat.not_lt_zero i)⟩
      rw [(f4.1 36 rfl).1, (f3.1 36 rfl).1, (f2.1 36 rfl).1]
      exact g1.2
    obtain ⟨t5, w1, f5, w3, w4, w5⟩ := diaM_all (rch_monF hK hk) n4 l3
    rw [w1, bs, gd_jn (show 0 < 65536 by omega) (by omega), jn_cl (by omega), w4]
    generalize ht6 : sI t5 37 (jn (dgTop (rch tm K) 16)) = t6
    have f6 : fx [37] [] t5 t6 := by subst ht6; exact fx_sI rfl
    have g6 : gI t6 37 = jn (dgTop (rch tm K) 16) := by subst ht6; exact gI_at
    refine ⟨t6, rfl, (f13.wk rfl rfl).trans ((f4.wk rfl rfl).trans ((f5.wk rfl rfl).trans (f6.wk rfl rfl))), ?_, w3.fr f6, g6, fun i hi => ?_⟩
    · rw [(f6.1 35 rfl).1, (f5.1 35 rfl).1, (f4.1 35 rfl).1, (f3.1 35 rfl).1, (f2.1 35 rfl).1]
      exact g1.1
    · rw [(f6.1 39 rfl).2.2.1, w5 i hi, (f4.1 39 rfl).2.2.1]
      exact g3 i hi
