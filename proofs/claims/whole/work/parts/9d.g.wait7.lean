/-! The pool's bound, after a net is made. -/
theorem fr_lays_L (v1 : Int32) (v5 : Int32) (t : St) : FR [17, 18, 27] [] (lp (fun x => m_make_B55 v1 x.1 x.2) (v5, t)) t (fun (y : St) => y) := FR_lp (p := (fun (x : Int32 × St) => x.2)) (q := (fun (y : St) => y)) (fun x => by
  unfold m_make_B55
  exact FR_ite (FR_some fx.rfl) (FR_bind (fr_m_lays x.2 x.1) (fun q2 hq2 => FR_nm (fun x4 _ => FR_some hq2)))) (v5, t)
/-- what is read, when it is right -/
theorem reads_Cor {tx tm tm' : St} {n : Nat} (hn : n ≤ 80) (h5 : gI tm 5 = jn n) (hK : RK tx tm) (hN : NetsOf tm) (h : m_reads tm = some (0, tm')) : ∃ A t k R, fx [26] [] t tm' ∧ gI tm' 26 = jn k ∧ Cor tm A t 0 R [k] ∧ gA tm' 16 = gA tm 16 := by
  rw [m_reads_rL] at h
  obtain ⟨q, k1, k2⟩ := bd_some h
  obtain ⟨q', o1, o2, o3, o4, o5⟩ := opens_eq (t := sI tm 19 (-1)) (L := 0) (by rw [gI_at]; rfl) (by omega) false
  rw [show ((if false = true then 1 else 0 : Int32)) = 0 from rfl, k1] at o1
  obtain rfl := Option.some.inj o1
  have f0 : fx [19, 20, 24] [] tm q := (fx_sI (S := [19, 20, 24]) rfl).trans o2
  have C0 : Cor tm 0 q 0 (fun _ => []) [] := Cor.start hK o3 f0 (fun x hx => by rw [o5, if_pos ⟨by omega, by omega⟩]) (by rw [o4, if_pos rfl]; rfl)
  unfold rL at k2
  obtain ⟨y, k3, k4⟩ := bd_some k2
  have I0 : MIv tm n (jn 0, jn 0, q) := ⟨0, 0, 0, _, rfl, rfl, by omega, by omega, (f0.1 5 rfl).1.trans h5, (f0.1 16 rfl).2.2.1, C0, fun e => by omega, fun l hl => by
    rw [show l = 0 by omega]
    exact Or.inl (by rw [o4, if_pos rfl]; rfl)⟩
  have F := lp_inv (MIv tm n) (FinR tm n) (fun x x' I e => stepR hn hN I e) (fun x y I e => finR hn I e) k3 I0
  rcases F with ⟨f, s, rfl, hf⟩ | ⟨d, i, s, rfl, due, i', L, R, e1, -, hd, -, s5, s16, hC, hne, -⟩
  · have := congrArg Prod.fst (Option.some.inj k4)
    exact absurd this hf
  · dsimp only at e1 s5 s16 hC hne
    subst e1
    have k5 : (nm (sI s 25 (gI s 5)) (fun t32 : St => if jn due = (1 : Int32) then (if (gI t32 19) ≤ 0 then ((m_endsNet t32).bind (fun q35 => nm (sI q35.2 26 q35.1) (fun t37 : St => if (gI t37 7) ≤ (250 : Int32) then (some ((0 : Int32), t37)) else (some ((6 : Int32), t37))))) else (some ((2 : Int32), t32))) else (some ((2 : Int32), t32)))) = some (0, tm') := k4
    simp only [nm] at k5
    generalize ht : sI s 25 (gI s 5) = u at k5
    have fu : fx [25] [] s u := by subst ht; exact fx_sI rfl
    have no2 : ∀ v : St, (some ((2 : Int32), v) : Option (Int32 × St)) ≠ some (0, tm') := fun v e => absurd (congrArg Prod.fst (Option.some.inj e)) (show ¬ (2 : Int32) = 0 by decide)
    by_cases c : jn due = (1 : Int32)
    · rw [if_pos c] at k5
      have d1 : due = 1 := by
        have := congrArg Int32.toNatClampNeg c
        rw [jn_cl (by omega)] at this
        exact this
      have L8 := hC.1.2.1
      have g19 : gI u 19 = jn L := (fu.1 19 rfl).1.trans hC.1.1
      by_cases c2 : gI u 19 ≤ 0
      · rw [if_pos c2] at k5
        have L0 : L = 0 := by
          rw [g19, show (0 : Int32) = jn 0 from rfl, jn_le (by omega) (by omega)] at c2
          omega
        subst L0
        have hCu : Cor tm _ u 0 R [] := hC.fr fu
        obtain ⟨k, t', R', r1, r2, r3⟩ := ER hCu (hne d1)
        rw [endsNet_E, r1, bs] at k5
        dsimp only at k5
        have e6 : ¬ (6 : Int32) = 0 := by decide
        by_cases c3 : gI (sI t' 26 (jn k)) 7 ≤ 250
        · rw [if_pos c3] at k5
          have := congrArg Prod.snd (Option.some.inj k5)
          dsimp only at this
          subst this
          exact ⟨_, t', k, R', fx_sI rfl, gI_at, r2, ((fx_sI (S := [26]) (T := []) rfl).1 16 rfl).2.2.1.trans ((r3.1 16 rfl).2.2.1.trans ((fu.1 16 rfl).2.2.1.trans s16))⟩
        · rw [if_neg c3] at k5
          exact absurd (congrArg Prod.fst (Option.some.inj k5)) e6
      · rw [if_neg c2] at k5
        exact absurd k5 (no2 _)
    · rw [if_neg c] at k5
      exact absurd k5 (no2 _)
theorem rootB_t {tm : St} {j : Nat} : rootB tm j = true ↔ ∃ n, n < 10 ∧ gA tm 16 n = jn j := by
  unfold rootB
  rw [anyB_t]
  constructor
  · rintro ⟨n, h1, h2⟩; exact ⟨n, h1, of_decide_eq_true h2⟩
  · rintro ⟨n, h1, h2⟩; exact ⟨n, h1, decide_eq_true h2⟩
theorem usedB_T {tm : St} {k j : Nat} : usedB tm k j = true ↔ ∃ u, u < nK tm ∧ k ≤ u ∧ PartOf tm u j := by
  constructor
  · intro h
    unfold usedB at h
    obtain ⟨u, h1, h2⟩ := anyB_t.mp h
    simp only [Bool.and_eq_true, decide_eq_true_eq] at h2
    obtain ⟨h3, h4, h5⟩ := h2
    obtain ⟨i, h6, h7⟩ := anyB_t.mp h5
    exact ⟨u, h1, h3, h4, i, h6, of_decide_eq_true h7⟩
  · rintro ⟨u, h1, h2, h3⟩
    exact usedB_t h1 h2 h3
theorem pndB_T {tm : St} {k j : Nat} : pndB tm k j = true ↔ kS tm j ≠ 0 ∧ (usedB tm k j = true ∨ rootB tm j = true) := by
  unfold pndB
  simp only [Bool.and_eq_true, decide_eq_true_eq, Bool.or_eq_true]
theorem root_cnt {tm : St} (h250 : nK tm ≤ 250) (K : Nat) : cntB (fun j => decide (j < nK tm) && rootB tm j) K ≤ 10 := by
  refine Nat.le_trans (inj_cnt (p := fun _ => true) (h := fun n => (gA tm 16 n).toNatClampNeg) 10 K _ fun r _ hb => ?_) (cntB_le _ _)
  simp only [Bool.and_eq_true, decide_eq_true_eq] at hb
  obtain ⟨n, h1, h2⟩ := rootB_t.mp hb.2
  exact ⟨n, h1, rfl, by rw [h2, jn_cl (by omega)]⟩
theorem neg_ne {a : Nat} (ha : a < 2147483648) : ¬ (-1 : Int32) = jn a := by
  intro h
  have := congrArg Int32.toInt h
  rw [show (jn a).toInt = a from Int32.toInt_ofNat_of_lt ha] at this
  have e : (-1 : Int32).toInt = -1 := rfl
  omega
theorem AgM.old {tx tm tm' : St} (hK : RK tx tm) (h : AgM (nK tm) (nP tm) tm tm') : OldK tm tm' := ⟨fun u hu => ⟨(h.1 u hu).1, (h.1 u hu).2.2.2.1, (h.1 u hu).2.2.2.2.1⟩, h.2⟩
theorem RK.hl {tx tm : St} (hK : RK tx tm) {u : Nat} (hu : u < nK tm) : kS tm u ≠ 0 → kF tm u + kN tm u ≤ nP tm := fun z => (((hK.2.2.2 u hu).2.2.2.2.2.2.2.2.2.2.2.2) z).2.2.2.2.1
/-- the pool's bound, kept -/
theorem RQ.make {tx tm tx' tm' : St} {a : Int32} {r : Int32} {n : Nat} (hn : n ≤ 80) (h5 : gI tm 5 = jn n) (hK : RK tx tm) (hN : RN tx tm) (hQ : RQ tm) (hM : Made tx tm tx' tm') (h : m_make tm a = some (r, tm')) : RQ tm' := by
  have h250 := nK_lt hK
  have h250' := nK_lt hM.1
  have hNN : NetsOf tm := fun n hn => (hN.2 n hn).2
  have old := hM.2.2.2.2.2.1.1.old hK
  have pt : ∀ u, u < nK tm → ∀ j, PartOf tm' u j ↔ PartOf tm u j := fun u hu j => old.part hu (hK.hl hu) j
  have ks : ∀ u, u < nK tm → kS tm' u = kS tm u := fun u hu => (old.s hu).1
  have same : nK tm' = nK tm → (∀ j, gA tm' 16 j = gA tm 16 j) → RQ tm' := by
    intro e1 e2 k hk
    rw [e1] at hk
    refine Nat.le_trans (cntB_mono fun j hj hb => ?_) (hQ k hk)
    obtain ⟨z, hb⟩ := pndB_T.mp hb
    rw [ks j (by omega)] at z
    refine pndB_T.mpr ⟨z, ?_⟩
    rcases hb with hb | hb
    · obtain ⟨u, u1, u2, u3⟩ := usedB_T.mp hb
      rw [e1] at u1
      exact Or.inl (usedB_T.mpr ⟨u, u1, u2, (pt u u1 j).mp u3⟩)
    · obtain ⟨n, n1, n2⟩ := rootB_t.mp hb
      exact Or.inr (rootB_t.mpr ⟨n, n1, by rw [← e2]; exact n2⟩)
  unfold m_make at h
  obtain ⟨b, -, h⟩ := bd_some h
  by_cases c0 : b = 0
  · rw [if_pos c0] at h
    have : tm = tm' := congrArg Prod.snd (Option.some.inj h)
    subst this
    exact hQ
  · rw [if_neg c0] at h
    simp only [nm] at h
    obtain ⟨q, k1, h⟩ := bd_some h
    obtain ⟨w, q⟩ := q
    dsimp only at h
    have fq := fr_m_reads _ _ k1
    by_cases c1 : w = 0
    · subst c1
      rw [if_pos rfl] at h
      obtain ⟨t1, k2, h⟩ := bd_some h
      obtain ⟨ia, h⟩ := gd_some h
      have : sA t1 16 a (gI t1 26) = tm' := congrArg Prod.snd (Option.some.inj h)
      obtain ⟨A, t, k, R, f26, g26, hC, e16⟩ := reads_Cor hn h5 hK hNN k1
      have f1 := fr_lays_L _ _ _ _ k2
      have f2 : fx [16] [] t1 tm' := by rw [← this]; exact fx_sA rfl
      have fall : fx [16, 17, 18, 26, 27] [] t tm' := (f26.wk rfl rfl).trans ((f1.wk rfl rfl).trans (f2.wk rfl rfl))
      have eK : nK tm' = nK t := nK_fr fall
      have o2 : OldK t tm' := OldK.fx fall
      obtain ⟨-, ⟨-, -, b3, -, -, -⟩, hall, hwb, -, hD⟩ := hC
      have kk := hwb k (Or.inl (List.mem_singleton.mpr rfl))
      have v16 : ∀ n, n < 10 → gA tm' 16 n = jn k ∨ gA tm' 16 n = gA tm 16 n := fun n hn => by
        rw [← this, gA_sA, (f1.1 26 rfl).1, g26, (f1.1 16 rfl).2.2.1, e16]
        by_cases e : n = a.toNatClampNeg
        · rw [e, upd_at]; exact Or.inl rfl
        · rw [upd_ne e]; exact Or.inr rfl
      have pt2 : ∀ u, u < nK t → ∀ j, PartOf tm' u j ↔ PartOf t u j := fun u hu j => o2.part hu (hall u hu).1 j
      have ks2 : ∀ u, u < nK t → kS tm' u = kS t u := fun u hu => (o2.s hu).1
      have rt : ∀ j, j < nK t → rootB tm' j = true → rootB tm j = true ∧ j < nK tm ∨ j = k := by
        intro j hj hb
        obtain ⟨n, n1, n2⟩ := rootB_t.mp hb
        rcases v16 n n1 with e | e
        · rw [e] at n2
          exact Or.inr ((jn_inj (by omega) (by omega)).mp n2).symm
        · left
          rw [e] at n2
          refine ⟨rootB_t.mpr ⟨n, n1, n2⟩, ?_⟩
          rcases hNN n n1 with e2 | ⟨i, i1, i2⟩
          · rw [e2] at n2; exact absurd n2 (neg_ne (by omega))
          · rw [i2] at n2
            have := (jn_inj (by omega) (by omega)).mp n2
            omega
      intro K hK'
      rw [eK] at hK' h250'
      by_cases cK : K ≤ nK tm
      · refine Nat.le_trans (cntB_mono fun j hj hb => ?_) (hQ K cK)
        obtain ⟨z, hb⟩ := pndB_T.mp hb
        rw [ks j (by omega)] at z
        refine pndB_T.mpr ⟨z, ?_⟩
        rcases hb with hb | hb
        · obtain ⟨u, u1, u2, u3⟩ := usedB_T.mp hb
          rw [eK] at u1
          by_cases cu : u < nK tm
          · exact Or.inl (usedB_T.mpr ⟨u, cu, u2, (pt u cu j).mp u3⟩)
          · exact Or.inr ((hall u u1).2 (by omega) j ((pt2 u u1 j).mp u3) (by omega))
        · rcases rt j (by omega) hb with ⟨h, -⟩ | e
          · exact Or.inr h
          · subst e; exact Or.inr (kk.2 (by omega))
      · obtain ⟨D, D1, D2⟩ := hD K (by omega) hK'
        have hr := root_cnt (tm := tm) h250 K
        have ho := cnt_or (fun j => decide (j < nK tm) && rootB tm j) D K
        refine Nat.le_trans (cntB_mono (g := fun j => (decide (j < nK tm) && rootB tm j) || D j) fun j hj hb => ?_) (by omega)
        obtain ⟨z, hb⟩ := pndB_T.mp hb
        rw [ks2 j (by omega)] at z
        by_cases cj : j < nK tm
        · rw [Bool.or_eq_true]
          left
          rw [Bool.and_eq_true]
          refine ⟨decide_eq_true cj, ?_⟩
          rcases hb with hb | hb
          · obtain ⟨u, u1, u2, u3⟩ := usedB_T.mp hb
            rw [eK] at u1
            exact (hall u u1).2 (by omega) j ((pt2 u u1 j).mp u3) cj
          · rcases rt j (by omega) hb with ⟨h, -⟩ | e
            · exact h
            · subst e; exact kk.2 cj
        · rw [Bool.or_eq_true]
          right
          refine D1 j (by omega) hj z ?_
          rcases hb with hb | hb
          · obtain ⟨u, u1, u2, u3⟩ := usedB_T.mp hb
            rw [eK] at u1
            exact Or.inl ⟨u, u2, u1, (pt2 u u1 j).mp u3⟩
          · rcases rt j (by omega) hb with ⟨-, h⟩ | e
            · omega
            · subst e; exact Or.inr (Or.inl (List.mem_singleton.mpr rfl))
    · rw [if_neg c1] at h
      have : sI (sI q 7 (gI tm 7)) 13 (gI tm 13) = tm' := congrArg Prod.snd (Option.some.inj h)
      refine same (by unfold nK; rw [← this]; rfl) fun j => ?_
      rw [← this]
      show gA q 16 j = _
      rw [(fq.1 16 rfl).2.2.1]
