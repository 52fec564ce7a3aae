/-! The knots that a net needs, and who uses them last. -/
theorem part_eq {tx tm s : St} {S T : List Nat} (hK : RK tx tm) (hf : fx S T tx s) (h1 : (S.elem 606 || S.elem 608) = false := by rfl) (h2 : (T.elem 606 || T.elem 608) = false := by rfl) {k i : Nat} (hk : k < nK tm) (q : kS tm k ≠ 0) (hi : i < kN tm k) : x6_partOf s (jn k) (jn i) = some (jn (kP tm k i)) := by
  simp only [Bool.or_eq_false_iff] at h1 h2
  have h250 := nK_lt hK
  obtain ⟨⟨z3, z4, z5, z6, z7⟩, -, ⟨p1, p2, p3, p4, p5, p6⟩, hall⟩ := id hK
  obtain ⟨s1, s2, s3, d1, d2, d3, g1, g2, g3, m1, m2, q1, q2⟩ := hall k hk
  obtain ⟨e1, e2, e3, e4, e5, e7, e8, e6, -⟩ := q2 q
  obtain ⟨w1, w2, w3⟩ := e6 i hi
  unfold x6_partOf
  rw [hf.2 606 h2.1, z6, gd_jn (by omega) (by omega), jn_cl (by omega), (hf.1 606 h1.1).2.2.1, e4, e3, jn_add, hf.2 608 h2.2, gd_jn (by omega) (by omega), jn_cl (by omega), (hf.1 608 h1.2).2.2.1, w1, w2]
/-- j is a part of u -/
def PartOf (tm : St) (u j : Nat) : Prop := kS tm u ≠ 0 ∧ ∃ i, i < kN tm u ∧ kP tm u i = j
theorem mark_one {tx tm s : St} (hK : RK tx tm) (h10 : gN tx 810 = 330) (h11 : gN tx 811 = 330) {u : Nat} (hu : u < nK tm) (q : kS tm u ≠ 0) {S : List Nat} {T : List Nat} (hf : fx S T tx s) (hS : (S.elem 606 || S.elem 608) = false) (hT : (T.elem 606 || T.elem 608) = false) (hT2 : (T.elem 810 || T.elem 811) = false) : ∃ s', lp (fun y : Int32 × St => x8_markNeeded_B79 (jn u) (jn (kN tm u)) y.1 y.2) (0, s) = some s' ∧ fx [810, 811] [] s s' ∧ (∀ j, gA s' 810 j = if ∃ i, i < kN tm u ∧ kP tm u i = j then 1 else gA s 810 j) ∧ ∀ j, gA s' 811 j = if (∃ i, i < kN tm u ∧ kP tm u i = j) ∧ gA s 810 j = 0 then jn u else gA s 811 j := by
  have h250 := nK_lt hK
  simp only [Bool.or_eq_false_iff] at hT2
  obtain ⟨s1, s2, s3, d1, d2, d3, h1, h2, h3, m1, m2, q1, q2⟩ := hK.2.2.2 u hu
  obtain ⟨e1, e2, e3, e4, e5, e7, e8, e6, -⟩ := q2 q
  have l := lp_cnt (b := fun y : Int32 × St => x8_markNeeded_B79 (jn u) (jn (kN tm u)) y.1 y.2) (fun i s => (jn i, s)) (kN tm u)
    (fun n z => fx [810, 811] [] s z ∧ (∀ j, gA z 810 j = if ∃ i, i < n ∧ kP tm u i = j then 1 else gA s 810 j) ∧ ∀ j, gA z 811 j = if (∃ i, i < n ∧ kP tm u i = j) ∧ gA s 810 j = 0 then jn u else gA s 811 j)
    (fun z => fx [810, 811] [] s z ∧ (∀ j, gA z 810 j = if ∃ i, i < kN tm u ∧ kP tm u i = j then 1 else gA s 810 j) ∧ ∀ j, gA z 811 j = if (∃ i, i < kN tm u ∧ kP tm u i = j) ∧ gA s 810 j = 0 then jn u else gA s 811 j) (by
      rintro i z hi ⟨f1, v1, v2⟩
      have w3 := (e6 i hi).2.2
      have po : x6_partOf z (jn u) (jn i) = some (jn (kP tm u i)) := by
        have := part_eq hK hf hS hT hu q hi
        unfold x6_partOf at this ⊢
        rw [f1.2 606 rfl, f1.2 608 rfl, (f1.1 606 rfl).2.2.1, (f1.1 608 rfl).2.2.1]
        exact this
      have ex : ∀ j, (∃ x, x < i + 1 ∧ kP tm u x = j) ↔ ((∃ x, x < i ∧ kP tm u x = j) ∨ kP tm u i = j) := by
        intro j
        constructor
        · rintro ⟨x, x1, x2⟩
          by_cases e : x = i
          · subst e; exact Or.inr x2
          · exact Or.inl ⟨x, by omega, x2⟩
        · rintro (⟨x, x1, x2⟩ | e)
          · exact ⟨x, by omega, x2⟩
          · exact ⟨i, by omega, e⟩
      have N10 : gN z 810 = 330 := (f1.2 810 rfl).trans ((hf.2 810 hT2.1).trans h10)
      have N11 : gN z 811 = 330 := (f1.2 811 rfl).trans ((hf.2 811 hT2.2).trans h11)
      have fin : ∀ y : St, fx [810, 811] [] s y → gA y 810 = gA z 810 → (∀ j, gA y 811 j = if (∃ x, x < i + 1 ∧ kP tm u x = j) ∧ gA s 810 j = 0 then jn u else gA s 811 j) → ∃ s', x8_markNeeded_J113 y (jn u) (jn (kN tm u)) (jn i) (jn (kP tm u i)) = some (.inl (jn (i + 1), s')) ∧ fx [810, 811] [] s s' ∧ (∀ j, gA s' 810 j = if ∃ x, x < i + 1 ∧ kP tm u x = j then 1 else gA s 810 j) ∧ ∀ j, gA s' 811 j = if (∃ x, x < i + 1 ∧ kP tm u x = j) ∧ gA s 810 j = 0 then jn u else gA s 811 j := by
        intro y fy y10 y11
        refine ⟨sA y 810 (jn (kP tm u i)) (vp_nar .boolean 1), ?_, fy.trans (fx_sA rfl), fun j => ?_, fun j => ?_⟩
        · unfold x8_markNeeded_J113
          rw [fy.2 810 rfl, hf.2 810 hT2.1, h10, gd_jn (by omega) (by omega)]
          simp only [nm, jn_s]
        · rw [gA_sA, jn_cl (by omega), y10]
          by_cases e : j = kP tm u i
          · subst e
            rw [upd_at, if_pos ((ex _).mpr (Or.inr rfl))]
            rfl
          · rw [upd_ne e, v1]
            by_cases z2 : ∃ x, x < i ∧ kP tm u x = j
            · rw [if_pos z2, if_pos ((ex _).mpr (Or.inl z2))]
            · rw [if_neg z2, if_neg]
              intro h
              rcases (ex _).mp h with h | h
              · exact z2 h
              · exact e h.symm
        · rw [gA_sA_ne (by omega)]
          exact y11 j
      dsimp only
      unfold x8_markNeeded_B79
      rw [if_neg (nle hi (by omega)), po, bs, N10, gd_jn (by omega) (by omega), jn_cl (by omega), v1]
      by_cases c : ∃ x, x < i ∧ kP tm u x = kP tm u i
      · rw [if_pos c, if_neg (show ¬ (1 : Int32) = 0 by decide)]
        refine fin z f1 rfl fun j => ?_
        rw [v2]
        by_cases z2 : ∃ x, x < i ∧ kP tm u x = j
        · have z3 := (ex j).mpr (Or.inl z2)
          by_cases z4 : gA s 810 j = 0
          · rw [if_pos ⟨z2, z4⟩, if_pos ⟨z3, z4⟩]
          · rw [if_neg (fun h => z4 h.2), if_neg (fun h => z4 h.2)]
        · rw [if_neg (fun h => z2 h.1), if_neg]
          rintro ⟨h, -⟩
          rcases (ex _).mp h with h | h
          · exact z2 h
          · subst h; exact z2 c
      · rw [if_neg c]
        by_cases z0 : gA s 810 (kP tm u i) = 0
        · rw [if_pos z0, N11, gd_jn (by omega) (by omega)]
          simp only [nm]
          refine fin _ (f1.trans (fx_sA rfl)) (gA_sA_ne (by omega)) fun j => ?_
          rw [gA_sA, jn_cl (by omega)]
          by_cases e : j = kP tm u i
          · subst e
            rw [upd_at, if_pos ⟨(ex _).mpr (Or.inr rfl), z0⟩]
          · rw [upd_ne e, v2]
            by_cases z2 : ∃ x, x < i ∧ kP tm u x = j
            · have z3 := (ex j).mpr (Or.inl z2)
              by_cases z4 : gA s 810 j = 0
              · rw [if_pos ⟨z2, z4⟩, if_pos ⟨z3, z4⟩]
              · rw [if_neg (fun h => z4 h.2), if_neg (fun h => z4 h.2)]
            · rw [if_neg (fun h => z2 h.1), if_neg]
              rintro ⟨h, -⟩
              rcases (ex _).mp h with h | h
              · exact z2 h
              · exact e h.symm
        · rw [if_neg z0]
          refine fin z f1 rfl fun j => ?_
          rw [v2]
          by_cases z2 : ∃ x, x < i ∧ kP tm u x = j
          · have z3 := (ex j).mpr (Or.inl z2)
            by_cases z4 : gA s 810 j = 0
            · rw [if_pos ⟨z2, z4⟩, if_pos ⟨z3, z4⟩]
            · rw [if_neg (fun h => z4 h.2), if_neg (fun h => z4 h.2)]
          · rw [if_neg (fun h => z2 h.1), if_neg]
            rintro ⟨h, h4⟩
            rcases (ex _).mp h with h | h
            · exact z2 h
            · subst h; exact z0 h4) (by
      rintro z hz
      refine ⟨z, ?_, hz⟩
      dsimp only
      unfold x8_markNeeded_B79
      rw [if_pos (lee (by omega))]) 0 s (by omega) ⟨fx.rfl, fun j => by rw [if_neg (by rintro ⟨i, h, -⟩; omega)], fun j => by rw [if_neg (by rintro ⟨⟨i, h, -⟩, -⟩; omega)]⟩
  exact l
/-- marks down to m; who uses last -/
def Mn (tm : St) (K m : Nat) (f g : Nat → Int32) : Prop := f K = 1 ∧ (∀ j, j ≤ K → f j = 0 ∨ (f j = 1 ∧ Need tm K j)) ∧ (∀ u, m ≤ u → u ≤ K → f u = 1 → ∀ j, PartOf tm u j → f j = 1) ∧ ∀ j, j < K → f j = 1 → ∃ u, m ≤ u ∧ u ≤ K ∧ g j = jn u ∧ f u = 1 ∧ PartOf tm u j ∧ ∀ u', m ≤ u' → u' ≤ K → f u' = 1 → PartOf tm u' j → u' ≤ u
theorem PartOf.lt {tx tm : St} (hK : RK tx tm) {u j : Nat} (hu : u < nK tm) (h : PartOf tm u j) : j < u := by
  obtain ⟨q, i, hi, rfl⟩ := h
  exact kP_lt hK hu q hi
theorem markNeeded_eq {tx tm t : St} (hK : RK tx tm) (h10 : gN tx 810 = 330) (h11 : gN tx 811 = 330) {K : Nat} (hk : K < nK tm) {S T : List Nat} (hf : fx S T tx t) (hS : (S.elem 603 || S.elem 604 || S.elem 606 || S.elem 608) = false) (hT : (T.elem 603 || T.elem 604 || T.elem 606 || T.elem 608 || T.elem 810 || T.elem 811) = false) (h5 : gI t 805 = jn K) : ∃ t', x8_markNeeded t = some t' ∧ fx [810, 811] [] t t' ∧ Mn tm K 0 (gA t' 810) (gA t' 811) := by
  have h250 := nK_lt hK
  simp only [Bool.or_eq_false_iff] at hS hT
  obtain ⟨⟨⟨a3, a4⟩, a6⟩, a8⟩ := hS
  obtain ⟨⟨⟨⟨⟨b3, b4⟩, b6⟩, b8⟩, b10⟩, b11⟩ := hT
  obtain ⟨⟨z3, z4, z5, z6, z7⟩, -, -, hall⟩ := id hK
  have l := lp_cnt (b := fun y : Int32 × St => x8_markNeeded_B2 y.1 y.2) (fun i s => (jn i, s)) K
    (fun i s => fx [810, 811] [] t s ∧ ∀ j, j < i → gA s 810 j = 0)
    (fun s => fx [810, 811] [] t s ∧ ∀ j, j < K → gA s 810 j = 0) (by
      rintro i s hi ⟨f1, v1⟩
      refine ⟨sA s 810 (jn i) (vp_nar .boolean 0), ?_, f1.trans (fx_sA rfl), fun j hj => ?_⟩
      · dsimp only
        unfold x8_markNeeded_B2
        rw [(f1.1 805 rfl).1, h5, if_neg (nle hi (by omega)), f1.2 810 rfl, hf.2 810 b10, h10, gd_jn (by omega) (by omega)]
        simp only [nm, jn_s]
      · rw [gA_sA, jn_cl (by omega)]
        by_cases e : j = i
        · subst e; rw [upd_at]; rfl
        · rw [upd_ne e]; exact v1 j (by omega)) (by
      rintro s ⟨f1, v1⟩
      refine ⟨s, ?_, f1, v1⟩
      dsimp only
      unfold x8_markNeeded_B2
      rw [(f1.1 805 rfl).1, h5, if_pos (lee (by omega))]) 0 t (by omega) ⟨fx.rfl, fun j hj => absurd hj (by omega)⟩
  obtain ⟨s, k1, f1, v1⟩ := l
  generalize hs2 : sA s 810 (jn K) (vp_nar .boolean 1) = s2
  have f2 : fx [810, 811] [] t s2 := by subst hs2; exact f1.trans (fx_sA rfl)
  have e2 : ∀ j, j ≤ K → gA s2 810 j = if j = K then 1 else 0 := by
    subst hs2
    intro j hj
    rw [gA_sA, jn_cl (by omega)]
    by_cases e : j = K
    · subst e; rw [upd_at, if_pos rfl]; rfl
    · rw [upd_ne e, if_neg e]; exact v1 j (by omega)
  have key : ∀ m s, m ≤ K + 1 → fx [810, 811] [] t s → Mn tm K m (gA s 810) (gA s 811) → ∃ s', lp (fun y : Int32 × St => x8_markNeeded_B38 y.1 y.2) (dn m, s) = some s' ∧ fx [810, 811] [] t s' ∧ Mn tm K 0 (gA s' 810) (gA s' 811) := by
    intro m
    induction m with
    | zero =>
      intro s _ hf hM
      exact ⟨s, lp_r (by dsimp only; unfold x8_markNeeded_B38; rw [if_pos (show dn 0 < 0 by decide)]), hf, hM⟩
    | succ m ih =>
      intro s hm fs hM
      have N10 : gN s 810 = 330 := (fs.2 810 rfl).trans ((hf.2 810 b10).trans h10)
      have N3 : gN s 603 = 330 := (fs.2 603 rfl).trans ((hf.2 603 b3).trans z3)
      have N4 : gN s 604 = 330 := (fs.2 604 rfl).trans ((hf.2 604 b4).trans z4)
      obtain ⟨s1, x2, s3, d1, d2, d3, g1, g2, g3, m1, m2, q1, q2⟩ := hall m (by omega)
      have A3 : gA s 603 m = jn (kS tm m) := (congrFun (fs.1 603 rfl).2.2.1 m).trans ((congrFun (hf.1 603 a3).2.2.1 m).trans (s3.trans s1))
      have g0 : ∀ {α : Type} (x : Option α), gd (jn m) 330 x = x := fun x => gd_jn (by omega) (by omega)
      have ck : (jn m).toNatClampNeg = m := jn_cl (by omega)
      obtain ⟨M1, M2, M3, M4⟩ := hM
      rw [show dn (m + 1) = jn m from rfl]
      -- nothing is added
      have skip : (gA s 810 m = 0 ∨ kS tm m = 0) → x8_markNeeded_B38 (jn m) s = x8_markNeeded_J75 s (jn m) → ∃ s', lp (fun y : Int32 × St => x8_markNeeded_B38 y.1 y.2) (jn m, s) = some s' ∧ fx [810, 811] [] t s' ∧ Mn tm K 0 (gA s' 810) (gA s' 811) := by
        intro hz hb
        have nop : ∀ j, gA s 810 m = 1 → ¬ PartOf tm m j := by
          rintro j h1 ⟨q, -⟩
          rcases hz with h | h
          · rw [h] at h1; exact absurd h1 (by decide)
          · exact q h
        rw [lp_l (x := (jn m, s)) (x' := (dn m, s)) (by
          dsimp only
          rw [hb]
          unfold x8_markNeeded_J75 x8_markNeeded_J76
          rw [lp_r (y := s) (by dsimp only; unfold x8_markNeeded_B79; rw [if_pos (by decide)]), bs]
          simp only [nm, dn_pred])]
        refine ih s (by omega) fs ⟨M1, M2, fun u h1 h2 h3 j hj => ?_, fun j hj h => ?_⟩
        · by_cases e : u = m
          · subst e; exact absurd hj (nop j h3)
          · exact M3 u (by omega) h2 h3 j hj
        · obtain ⟨u, u1, u2, u3, u4, u5, u6⟩ := M4 j hj h
          refine ⟨u, by omega, u2, u3, u4, u5, fun u' w1 w2 w3 w4 => ?_⟩
          by_cases e : u' = m
          · subst e; exact absurd w4 (nop j w3)
          · exact u6 u' (by omega) w2 w3 w4
      rcases M2 m (by omega) with e | ⟨e, nd⟩
      · refine skip (Or.inl e) ?_
        unfold x8_markNeeded_B38
        rw [if_neg (jn_neg (by omega)), N10, g0, ck, if_pos e]
      · by_cases q : kS tm m = 0
        · refine skip (Or.inr q) ?_
          unfold x8_markNeeded_B38
          rw [if_neg (jn_neg (by omega)), N10, g0, ck, if_neg (by rw [e]; decide), N3, g0, A3, if_pos (show jn (kS tm m) = 0 by rw [q]; rfl)]
        · obtain ⟨e1, ee2, e3, e4, e5, e7, e8, e6, -⟩ := q2 q
          have A4 : gA s 604 m = jn (kN tm m) := (congrFun (fs.1 604 rfl).2.2.1 m).trans ((congrFun (hf.1 604 a4).2.2.1 m).trans (e1.trans m1))
          obtain ⟨s', j1, j2, j3, j4⟩ := mark_one (s := s) hK h10 h11 (u := m) (by omega) q (S := 810 :: 811 :: S) (T := T) (by
            refine (fx.wk hf (S := 810 :: 811 :: S) (T := T) ?_ ?_).trans (fx.wk fs ?_ ?_)
            · simp [List.all_eq_true]; exact fun x hx => Or.inr (Or.inr hx)
            · simp [List.all_eq_true]
            · simp [List.all_eq_true]
            · simp) (by
              simp only [Bool.or_eq_false_iff]
              exact ⟨by simpa [List.elem] using a6, by simpa [List.elem] using a8⟩) (by rw [b6, b8]; rfl) (by rw [b10, b11]; rfl)
          rw [lp_l (x := (jn m, s)) (x' := (dn m, s')) (by
            dsimp only
            unfold x8_markNeeded_B38
            rw [if_neg (jn_neg (by omega)), N10, g0, ck, if_neg (by rw [e]; decide), N3, g0, A3, if_neg (jn_nz q (by omega)), N4, g0, A4]
            unfold x8_markNeeded_J76
            rw [j1, bs]
            simp only [nm, dn_pred])]
          have up : ∀ u, m ≤ u → gA s' 810 u = gA s 810 u := by
            intro u hu
            rw [j3, if_neg]
            rintro ⟨i, i1, i2⟩
            have := (e6 i i1).2.2
            omega
          refine ih s' (by omega) (fs.trans j2) ⟨by rw [up K (by omega)]; exact M1, fun j hj => ?_, fun u h1 h2 h3 j hj => ?_, fun j hj h => ?_⟩
          · rw [j3]
            by_cases z : ∃ i, i < kN tm m ∧ kP tm m i = j
            · rw [if_pos z]
              obtain ⟨i, i1, rfl⟩ := z
              exact Or.inr ⟨rfl, nd.part q i1⟩
            · rw [if_neg z]; exact M2 j hj
          · rw [j3]
            by_cases z : ∃ i, i < kN tm m ∧ kP tm m i = j
            · rw [if_pos z]
            · rw [if_neg z]
              rw [up u h1] at h3
              by_cases e : u = m
              · subst e; exact absurd hj.2 z
              · exact M3 u (by omega) h2 h3 j hj
          · rw [j4]
            by_cases z : (∃ i, i < kN tm m ∧ kP tm m i = j) ∧ gA s 810 j = 0
            · rw [if_pos z]
              refine ⟨m, Nat.le_refl _, by omega, rfl, by rw [up m (Nat.le_refl _)]; exact e, ⟨q, z.1⟩, fun u' w1 w2 w3 w4 => ?_⟩
              rw [up u' w1] at w3
              by_cases y : u' = m
              · omega
              · have := M3 u' (by omega) w2 w3 j w4
                rw [z.2] at this
                exact absurd this (by decide)
            · rw [if_neg z]
              have hj1 : gA s 810 j = 1 := by
                rw [j3] at h
                by_cases y : ∃ i, i < kN tm m ∧ kP tm m i = j
                · rcases M2 j (by omega) with y2 | y2
                  · exact absurd ⟨y, y2⟩ z
                  · exact y2.1
                · rw [if_neg y] at h; exact h
              obtain ⟨u, u1, u2, u3, u4, u5, u6⟩ := M4 j hj hj1
              refine ⟨u, by omega, u2, u3, by rw [up u (by omega)]; exact u4, u5, fun u' w1 w2 w3 w4 => ?_⟩
              rw [up u' w1] at w3
              by_cases y : u' = m
              · omega
              · exact u6 u' (by omega) w2 w3 w4
  obtain ⟨s', j1, j2, j3⟩ := key (K + 1) s2 (Nat.le_refl _) f2 ⟨by rw [e2 K (Nat.le_refl _), if_pos rfl], fun j hj => by
    rw [e2 j hj]
    by_cases e : j = K
    · subst e; rw [if_pos rfl]; exact Or.inr ⟨rfl, Need.top⟩
    · rw [if_neg e]; exact Or.inl rfl, fun u h1 h2 => by omega, fun j hj h => by
    rw [e2 j (by omega), if_neg (by omega)] at h
    exact absurd h (by decide)⟩
  refine ⟨s', ?_, j2, j3⟩
  unfold x8_markNeeded
  rw [show (0 : Int32) = jn 0 from rfl, k1, bs, (f1.1 805 rfl).1, h5, f1.2 810 rfl, hf.2 810 b10, h10, gd_jn (by omega) (by omega)]
  simp only [nm]
  rw [show (1 : Int32) = 1 from rfl, hs2, (f2.1 805 rfl).1, h5, show jn K = dn (K + 1) from rfl, j1, bs]
