/-! The class's ways by size. -/
theorem wlS_filter (P Q : Nat → Bool) : ∀ n, wlS (fun x => P x && Q x) n = (wlS P n).filter Q := by
  intro n
  induction n with
  | zero => rfl
  | succ n ih =>
    rw [wlS_s, wlS_s, ih]
    cases hp : P n with
    | false => rfl
    | true =>
      rw [if_pos rfl, List.filter_append, Bool.true_and]
      cases hq : Q n with
      | false => simp [hq]
      | true => simp [hq]
theorem take_s {l : List Nat} {i : Nat} (h : i < l.length) : l.take (i + 1) = l.take i ++ [l.getD i 0] := by
  rw [List.take_succ, List.getD_eq_getElem?_getD, List.getElem?_eq_getElem h]
  rfl
def LxIs (t : St) (l : List Nat) : Prop := gI t 1004 = jn l.length ∧ l.length ≤ 200 ∧ ∀ i, i < l.length → gA t 1002 i = jn (l.getD i 0)
theorem LxIs.add {t : St} {l : List Nat} (h : LxIs t l) (hl : l.length < 200) (x : Nat) : LxIs (sI (sA t 1002 (jn l.length) (jn x)) 1004 (jn (l.length + 1))) (l ++ [x]) := by
  refine ⟨?_, by rw [List.length_append]; show l.length + 1 ≤ 200; omega, fun i hi => ?_⟩
  · rw [List.length_append]; exact gI_at
  · show gA (sA t 1002 (jn l.length) (jn x)) 1002 i = _
    rw [gA_sA, jn_cl (by omega)]
    rw [List.length_append] at hi
    by_cases e : i = l.length
    · subst e
      rw [upd_at, getD_r]
    · have : i < l.length := by
        have : i < l.length + 1 := hi
        omega
      rw [upd_ne e, h.2.2 i this, getD_l this]
theorem getD_mem {l : List Nat} {i : Nat} (h : i < l.length) : l.getD i 0 ∈ l := by
  rw [List.getD_eq_getElem?_getD, List.getElem?_eq_getElem h]
  exact List.getElem_mem h
theorem filt1 (a m : Nat) : [a].filter (fun x => decide (popc 16 x = m)) = if popc 16 a = m then [a] else [] := by
  by_cases c : popc 16 a = m
  · simp [c]
  · simp [c]
theorem sortBySize_eq {tx tm t : St} (hK : RK tx tm) {K : Nat} (hk : K < nK tm) (hO : cnw tm K ≤ 200) (h2 : gN t 1002 = 200) (h3 : gN t 1003 = 200) (hF : ∀ i, i < (wlS (mw tm K) 65536).length → gA t 1003 i = jn ((wlS (mw tm K) 65536).getD i 0)) : ∃ t', x10_sortBySize t (jn (wlS (mw tm K) 65536).length) = some t' ∧ fx [1002, 1004] [] t t' ∧ LxIs t' (wyl tm K) := by
  have hFlen : (wlS (mw tm K) 65536).length = cnw tm K := wlS_len _ _
  have hFlt : ∀ i, i < (wlS (mw tm K) 65536).length → (wlS (mw tm K) 65536).getD i 0 < 65536 := fun i hi => ((wlS_mem _).mp (getD_mem hi)).1
  have hstep : ∀ m, wlA (mw tm K) (m + 1) = wlA (mw tm K) m ++ (wlS (mw tm K) 65536).filter (fun x => decide (popc 16 x = m)) := fun m => by
    show wlA (mw tm K) m ++ wlS _ 65536 = _
    rw [wlS_filter]
  have htot : ∀ m, m ≤ 17 → (wlA (mw tm K) m).length ≤ 200 := fun m hm => by
    have := wlA_mono (mw tm K) hm
    have e : (wlA (mw tm K) 17).length = cnw tm K := wyl_len tm K
    omega
  generalize hFF : wlS (mw tm K) 65536 = F at hF hFlen hFlt hstep ⊢
  have A1 : wlA (mw tm K) 1 = [] := by
    have : ∀ x, x ∉ wlA (mw tm K) 1 := by
      intro x hx
      obtain ⟨h1, h2, h3⟩ := (wlA_mem 1).mp hx
      have : x = 0 := by
        apply Nat.eq_of_testBit_eq
        intro s
        rw [Nat.zero_testBit]
        cases hb : x.testBit s with
        | false => rfl
        | true =>
          have hs := bit_16 h1 hb
          rw [popc_smm] at h3
          have h4 : 1 ≤ smm (fun i => if x.testBit i then 1 else 0) 16 := cntB_pos (g := fun i => x.testBit i) hs hb
          omega
      rw [this, mw_0 hK hk] at h2
      cases h2
    exact List.eq_nil_iff_forall_not_mem.mpr this
  -- one size
  have one : ∀ m s, 1 ≤ m → m ≤ 16 → fx [1002, 1004] [] t s → LxIs s (wlA (mw tm K) m) → ∃ s', lp (fun y : Int32 × St => x10_sortBySize_B15 (jn F.length) (jn m) y.1 y.2) (0, s) = some s' ∧ fx [1002, 1004] [] t s' ∧ LxIs s' (wlA (mw tm K) (m + 1)) := by
    intro m s hm1 hm2 hfs hl
    have l := lp_cnt (b := fun y : Int32 × St => x10_sortBySize_B15 (jn F.length) (jn m) y.1 y.2) (fun i s => (jn i, s)) F.length
      (fun i s => fx [1002, 1004] [] t s ∧ LxIs s (wlA (mw tm K) m ++ (F.take i).filter (fun x => decide (popc 16 x = m))))
      (fun s => fx [1002, 1004] [] t s ∧ LxIs s (wlA (mw tm K) m ++ (F.take F.length).filter (fun x => decide (popc 16 x = m)))) (by
        rintro i s hi ⟨f1, l1⟩
        have ec : (F.take (i + 1)).filter (fun x => decide (popc 16 x = m)) = (F.take i).filter (fun x => decide (popc 16 x = m)) ++ (if popc 16 (F.getD i 0) = m then [F.getD i 0] else []) := by
          rw [take_s hi, List.filter_append, filt1]
        have pl := popc_le 16 (F.getD i 0)
        have bc := bitCount_eq s (hFlt i hi)
        dsimp only
        unfold x10_sortBySize_B15
        rw [if_neg (nle hi (by omega)), f1.2 1003 rfl, h3, gd_jn (by omega) (by omega), jn_cl (by omega), (f1.1 1003 rfl).2.2.1, hF i hi, bc, bs]
        by_cases c : popc 16 (F.getD i 0) = m
        · rw [c, if_pos rfl, gd_jn (by omega) (by omega), f1.2 1002 rfl, h2]
          rw [if_pos c] at ec
          have len : (wlA (mw tm K) m ++ (F.take i).filter (fun x => decide (popc 16 x = m))).length < 200 := by
            have h1 := htot (m + 1) (by omega)
            rw [hstep m, ← List.take_append_drop (i + 1) F, List.filter_append, ec] at h1
            simp only [List.length_append, List.length_cons, List.length_nil] at h1 ⊢
            omega
          rw [l1.1, gd_jn len (by omega)]
          simp only [nm]
          rw [show gI (sA s 1002 (jn (wlA (mw tm K) m ++ (F.take i).filter (fun x => decide (popc 16 x = m))).length) (jn (F.getD i 0))) 1004 = gI s 1004 from rfl, l1.1, jn_s, jn_s]
          refine ⟨_, rfl, (f1.trans (fx_sA rfl)).trans (fx_sI rfl), ?_⟩
          rw [ec, ← List.append_assoc]
          exact l1.add len _
        · rw [if_neg (fun e => c ((jn_inj (by omega) (by omega)).mp e))]
          simp only [nm, jn_s]
          rw [if_neg c, List.append_nil] at ec
          exact ⟨s, rfl, f1, by rw [ec]; exact l1⟩) (by
        rintro s hs
        exact ⟨s, by dsimp only; unfold x10_sortBySize_B15; rw [if_pos (lee (by omega))], hs⟩) 0 s (by omega) ⟨hfs, by
          show LxIs s (_ ++ [])
          rw [List.append_nil]; exact hl⟩
    obtain ⟨s', k1, k2, k3⟩ := l
    refine ⟨s', k1, k2, ?_⟩
    rw [hstep m]
    rw [List.take_length] at k3
    exact k3
  have l := lp_cnt (b := fun y : Int32 × St => x10_sortBySize_B7 (jn F.length) y.1 y.2) (fun i s => (jn i, s)) 17
    (fun i s => 1 ≤ i ∧ fx [1002, 1004] [] t s ∧ LxIs s (wlA (mw tm K) i))
    (fun s => fx [1002, 1004] [] t s ∧ LxIs s (wlA (mw tm K) 17)) (by
      rintro i s hi ⟨hi1, f1, l1⟩
      obtain ⟨s', j1, j2, j3⟩ := one i s hi1 (by omega) f1 l1
      refine ⟨s', ?_, by omega, j2, j3⟩
      dsimp only
      unfold x10_sortBySize_B7
      rw [if_neg (show ¬ (16 : Int32) < jn i from fun e => by have := (jn_lt (a := 16) (by omega) (by omega)).mp e; omega), j1, bs]
      simp only [nm, jn_s]) (by
      rintro s ⟨-, hs⟩
      exact ⟨s, by dsimp only; unfold x10_sortBySize_B7; rw [if_pos (by decide)], hs⟩) 1 (sI t 1004 0) (by omega) ⟨Nat.le_refl _, fx_sI rfl, by
        rw [A1]
        exact ⟨rfl, Nat.zero_le _, fun i hi => absurd hi (Nat.not_lt_zero i)⟩⟩
  obtain ⟨s, k1, k2⟩ := l
  refine ⟨s, ?_, k2⟩
  unfold x10_sortBySize
  simp only [nm]
  rw [show ((1 : Int32), sI t 1004 0) = (jn 1, sI t 1004 0) from rfl, k1, bs]
def RWy (tx tm : St) : Prop := (gN tx 1002 = 200 ∧ gN tx 1003 = 200 ∧ gN tx 1008 = 200) ∧ (gI tx 1005 = -1 ∨ ∃ K, K < nK tm ∧ gI tx 1005 = jn K ∧ LxIs tx (wyl tm K))
theorem Need.fr {tm tm' : St} (h8 : kS tm' = kS tm) (h12 : kN tm' = kN tm) (hP : kP tm' = kP tm) (K j : Nat) : Need tm' K j ↔ Need tm K j := by
  unfold Need
  rw [h8, h12, hP]
/-- what the knots tell stays -/
def SameK (tm tm' : St) : Prop := nK tm' = nK tm ∧ rch tm' = rch tm ∧ kH tm' = kH tm ∧ ∀ K j, Need tm' K j ↔ Need tm K j
theorem same_fx {S T : List Nat} {tm tm' : St} (h : fx S T tm tm') (h1 : (S.elem 7 || S.elem 8 || S.elem 9 || S.elem 10 || S.elem 11 || S.elem 12 || S.elem 14 || S.elem 15) = false := by rfl) : SameK tm tm' := by
  simp only [Bool.or_eq_false_iff] at h1
  obtain ⟨⟨⟨⟨⟨⟨⟨a7, a8⟩, a9⟩, a10⟩, a11⟩, a12⟩, a14⟩, a15⟩ := h1
  have e8 := (h.1 8 a8).2.2.1
  have e11 := (h.1 11 a11).2.2.1
  have e12 := (h.1 12 a12).2.2.1
  have e14 := (h.1 14 a14).2.2.1
  refine ⟨nK_fr h a7, rch_to e8 (h.1 9 a9).2.2.1 (h.1 10 a10).2.2.1 e11 e12 e14, ?_, Need.fr ?_ ?_ ?_⟩
  · funext k; unfold kH; rw [(h.1 15 a15).2.2.1]
  · funext k; unfold kS; rw [e8]
  · funext k; unfold kN; rw [e12]
  · funext k i; unfold kP kF; rw [e11, e14]
theorem SameK.mw {tm tm' : St} (h : SameK tm tm') : mw tm' = mw tm := by
  funext k set
  show (rch tm' k set && !lss tm' k set) = (rch tm k set && !lss tm k set)
  unfold lss
  rw [h.2.1]
theorem RTb.same {tx tm tm' : St} (hs : SameK tm tm') (h : RTb tx tm) : RTb tx tm' := by
  have ecn : cnw tm' = cnw tm := by
    funext k; exact cnw_to hs.2.1 k
  obtain ⟨h0, hl, h5⟩ := h
  refine ⟨h0, ?_, ?_⟩
  · unfold LC at *
    rw [hs.1, ecn]; exact hl
  · rcases h5 with e | ⟨K, k1, k2, k3⟩
    · exact Or.inl e
    · refine Or.inr ⟨K, by rw [hs.1]; exact k1, k2, ?_⟩
      have er : rwF tm' = rwF tm := by
        funext H p q; unfold rwF; rw [hs.2.1]
      have eo : Over tm' K ↔ Over tm K := by
        unfold Over
        rw [ecn]
        constructor
        · rintro ⟨i, i1, i2⟩; exact ⟨i, (hs.2.2.2 K i).mp i1, i2⟩
        · rintro ⟨i, i1, i2⟩; exact ⟨i, (hs.2.2.2 K i).mpr i1, i2⟩
      unfold TbK at *
      rw [hs.2.2.1, er, eo]
      exact k3
theorem RWy.same {tx tm tm' : St} (hs : SameK tm tm') (h : RWy tx tm) : RWy tx tm' := by
  unfold RWy wyl at *
  rw [hs.1, hs.mw]
  exact h
