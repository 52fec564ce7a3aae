/-! What waits: square brackets, and the whole run. -/
theorem squaresR {t0 : St} {A : Nat} {t t' : St} {L : Nat} {R : Nat → List Nat} (h : Cor t0 A t (L + 1) R []) (hA : A + 1 ≤ 81) (hne : R (4 * (L + 1) + 3) ≠ []) (h24 : gA t 24 (L + 1) = 1) (hs : m_squares t = some (0, t')) : ∃ R', Cor t0 (A + 1) t' L R' [] ∧ R' (4 * L) ≠ [] ∧ fx [7, 8, 9, 10, 11, 12, 13, 14, 15, 19, 20, 21, 25] [] t t' := by
  have h0 := h
  obtain ⟨⟨a1, a2, a3⟩, ⟨b1, b2, b3, b4, b5, b6⟩, hall, hwb, ⟨c1, c2, c3⟩, hD⟩ := h
  have hx : 4 * (L + 1) + 3 < 4 * (L + 1 + 1) := by omega
  have len := h0.len hx
  have lpos : 1 ≤ (R (4 * (L + 1) + 3)).length := by
    cases hl : R (4 * (L + 1) + 3) with
    | nil => exact absurd hl hne
    | cons a l => show 1 ≤ l.length + 1; omega
  obtain ⟨rc, re⟩ := a3 _ hx
  have ent1 : ∀ i, i < (R (4 * (L + 1) + 3)).length → (R (4 * (L + 1) + 3)).getD i 0 < nK t := fun i hi => (hwb _ (Or.inr ⟨_, hx, getD_mem hi⟩)).1
  have eg := ent_ge (R := R) (fl := []) hx
  have no41 : m_squares_J41 t ≠ some (0, t') := by
    intro e
    unfold m_squares_J41 at e
    have := gd_some e
    have e2 := this.2
    simp only [nm] at e2
    have := congrArg Prod.fst (Option.some.inj e2)
    exact absurd (show (4 : Int32) = 0 from this) (by decide)
  unfold m_squares at hs
  rw [a1, show (4 : Int32) = jn 4 from rfl, jn_mul, show (3 : Int32) = jn 3 from rfl, jn_add] at hs
  simp only [nm] at hs
  have hs1 := (gd_some (gd_some hs).2).2
  generalize gA t 6 (gA t 23 (jn (L + 1)).toNatClampNeg).toNatClampNeg - 48 = w at hs1
  clear hs
  by_cases z : w = 0
  · rw [if_pos z] at hs1
    exact absurd hs1 no41
  · rw [if_neg z] at hs1
    have hs2 := (gd_some hs1).2
    by_cases z2 : w ≤ gA t 20 (jn (4 * (L + 1) + 3)).toNatClampNeg
    · rw [if_pos z2] at hs2
      obtain ⟨t1, k2, m7, m8, m9, m10, m11, m12, m15⟩ := newKnot_eq (t := t) (K := nK t) b1 (by omega) (jn 4)
      have fM := fr_m_newKnot t _ _ k2
      rw [k2, bs, gd_jn (by omega) (by omega)] at hs2
      dsimp only at hs2
      generalize hT1 : sA t1 9 (jn (nK t)) w = T1 at hs2
      have fT : fx [9] [] t1 T1 := by subst hT1; exact fx_sA rfl
      have ftT : fx [7, 8, 9, 10, 11, 12, 15] [] t T1 := fM.trans (fT.wk rfl rfl)
      obtain ⟨t2, k3, f3, w13, w12, w15, w14a, w14b⟩ := comes_loop (t := T1) (P := nP t) (K := nK t) (x := 4 * (L + 1) + 3) (n := (R (4 * (L + 1) + 3)).length) (fun i => (R (4 * (L + 1) + 3)).getD i 0) (fun i => (gA T1 15 ((R (4 * (L + 1) + 3)).getD i 0)).toBitVec.toNat) ((ftT.1 13 rfl).1.trans b2) (by omega) (by omega) (by omega) (by omega) (by rw [(ftT.1 20 rfl).2.2.1]; exact rc) (fun i hi => by
        rw [(ftT.1 21 rfl).2.2.1]
        exact ⟨re i hi, ent1 i hi, (jn_of _).symm⟩) (by rw [(fT.1 12 rfl).2.2.1, m12, upd_at]) (by rw [(fT.1 15 rfl).2.2.1, m15, upd_at])
      rw [show lp (fun x : Int32 × St => m_squares_B72 (jn (4 * (L + 1) + 3)) (jn (nK t)) x.1 x.2) ((0 : Int32), T1) = some t2 from k3, bs] at hs2
      generalize ht3 : sI t2 19 (jn L) = t3
      have f4 : fx [19] [] t2 t3 := by subst ht3; exact fx_sI rfl
      have e319 : gI t3 19 = jn L := by subst ht3; exact gI_at
      have f34 : fx [12, 13, 14, 15, 19] [] T1 t3 := (f3.wk rfl rfl).trans (f4.wk rfl rfl)
      have fall : fx [7, 8, 9, 10, 11, 12, 13, 14, 15, 19] [] t t3 := (ftT.wk rfl rfl).trans (f34.wk rfl rfl)
      have e7 : gI t3 7 = jn (nK t + 1) := (f34.1 7 rfl).1.trans ((fT.1 7 rfl).1.trans m7)
      have e13 : gI t3 13 = jn (nP t + (R (4 * (L + 1) + 3)).length) := (f4.1 13 rfl).1.trans w13
      have eK : nK t3 = nK t + 1 := nK_of e7 (by omega)
      have eP : nP t3 = nP t + (R (4 * (L + 1) + 3)).length := nP_of e13 (by omega)
      have x8 : gA t3 8 = upd (gA t 8) (nK t) (jn 4) := (f34.1 8 rfl).2.2.1.trans ((fT.1 8 rfl).2.2.1.trans m8)
      have x11 : gA t3 11 = upd (gA t 11) (nK t) (gI t 13) := (f34.1 11 rfl).2.2.1.trans ((fT.1 11 rfl).2.2.1.trans m11)
      have x12 : ∀ j, gA t3 12 j = if j = nK t then jn (R (4 * (L + 1) + 3)).length else gA t 12 j := by
        intro j
        rw [(f4.1 12 rfl).2.2.1, w12]
        by_cases e : j = nK t
        · rw [if_pos e, if_pos e]
        · rw [if_neg e, if_neg e, (fT.1 12 rfl).2.2.1, m12, upd_ne e]
      have x14 : ∀ j, j < nP t → gA t3 14 j = gA t 14 j := fun j hj => by
        rw [(f4.1 14 rfl).2.2.1, w14b j hj, (ftT.1 14 rfl).2.2.1]
      have old : OldK t t3 := ⟨fun u hu => by
        rw [x8, x11, x12, upd_ne (by omega), upd_ne (by omega), if_neg (by omega)]
        exact ⟨rfl, rfl, rfl⟩, x14⟩
      have nS : kS t3 (nK t) = 4 := by unfold kS; rw [x8, upd_at, jn_cl (by omega)]
      have nF : kF t3 (nK t) = nP t := by unfold kF; rw [x11, upd_at, b2, jn_cl (by omega)]
      have nN : kN t3 (nK t) = (R (4 * (L + 1) + 3)).length := by unfold kN; rw [x12, if_pos rfl, jn_cl (by omega)]
      have nPt : ∀ j, PartOf t3 (nK t) j → j ∈ R (4 * (L + 1) + 3) := by
        rintro j ⟨-, i, hi, e⟩
        rw [nN] at hi
        unfold kP at e
        rw [nF, (f4.1 14 rfl).2.2.1, w14a i hi, jn_cl (by have := ent1 i hi; omega)] at e
        rw [← e]
        exact getD_mem hi
      have wk : wtK (nK t0) t3 (nK t) = 4 := if_pos ⟨b3, by rw [nS]; omega⟩
      have wo : ∀ j, j < nK t → wtK (nK t0) t3 j = wtK (nK t0) t j := fun j hj => by unfold wtK; rw [(old.s hj).1]
      have sq : sqN t3 L + 1 = sqN t (L + 1) := by
        show _ = smm _ (L + 1) + (if gA t 24 (L + 1) = 1 then 1 else 0)
        rw [h24, if_pos rfl]
        unfold sqN
        rw [(fall.1 24 rfl).2.2.1]
      have pg := psL_ge (f := wtK (nK t0) t) (l := R (4 * (L + 1) + 3)) (fun j _ => (wtK_ge _ _ j).1)
      have p1 : potN (wtK (nK t0) t3) (4 * (L + 1)) R [nK t] + psL (wtK (nK t0) t) (R (4 * (L + 1) + 3)) ≤ potN (wtK (nK t0) t) (4 * (L + 1 + 1)) R [] + 4 := by
        have e1 : smm (fun x => psL (wtK (nK t0) t3) (R x)) (4 * (L + 1)) = smm (fun x => psL (wtK (nK t0) t) (R x)) (4 * (L + 1)) := smm_cong fun x hx => psL_cong fun j hj => wo j (hwb j (Or.inr ⟨x, by omega, hj⟩)).1
        have e2 : smm (fun x => psL (wtK (nK t0) t) (R x)) (4 * (L + 1 + 1)) = smm (fun x => psL (wtK (nK t0) t) (R x)) (4 * (L + 1)) + psL (wtK (nK t0) t) (R (4 * (L + 1))) + psL (wtK (nK t0) t) (R (4 * (L + 1) + 1)) + psL (wtK (nK t0) t) (R (4 * (L + 1) + 2)) + psL (wtK (nK t0) t) (R (4 * (L + 1) + 3)) := rfl
        show (wtK (nK t0) t3 (nK t) + 0) + _ + _ ≤ 0 + _ + 4
        rw [e1, e2, wk]
        omega
      have p2 : entN (4 * (L + 1)) R [nK t] + (R (4 * (L + 1) + 3)).length ≤ entN (4 * (L + 1 + 1)) R [] + 1 := by
        have e2 : smm (fun x => (R x).length) (4 * (L + 1 + 1)) = smm (fun x => (R x).length) (4 * (L + 1)) + (R (4 * (L + 1))).length + (R (4 * (L + 1) + 1)).length + (R (4 * (L + 1) + 2)).length + (R (4 * (L + 1) + 3)).length := rfl
        show 1 + _ + _ ≤ 0 + _ + 1
        rw [e2]
        omega
      have wsub : ∀ j, WB (4 * (L + 1)) R [nK t] j → j = nK t ∨ WB (4 * (L + 1 + 1)) R [] j := by
        intro j hj
        rcases hj with hj | ⟨x, x1, x2⟩
        · exact Or.inl (List.mem_singleton.mp hj)
        · exact Or.inr (Or.inr ⟨x, by omega, x2⟩)
      have h3 : Cor t0 (A + 1) t3 L R [nK t] := by
        refine ⟨⟨e319, by omega, fun x hx => ?_⟩, ⟨by rw [eK]; exact e7, by rw [eP]; exact e13, by omega, b4, b5, hA⟩, fun u hu => ?_, fun j hj => ?_, ⟨by omega, by omega, by omega⟩, fun K k1 k2' => ?_⟩
        · rw [(fall.1 20 rfl).2.2.1, (fall.1 21 rfl).2.2.1]
          exact a3 x (by omega)
        · rw [eK] at hu
          by_cases e : u = nK t
          · subst e
            rw [nF, nN, eP]
            exact ⟨fun _ => Nat.le_refl _, fun _ j hj hj0 => (hwb j (Or.inr ⟨_, hx, nPt j hj⟩)).2 hj0⟩
          · obtain ⟨d4, d5⟩ := hall u (by omega)
            obtain ⟨p1, p2, p3⟩ := old.s (show u < nK t by omega)
            rw [p1, p2, p3, eP]
            exact ⟨fun z => by have := d4 z; omega, fun hu0 j hj => d5 hu0 j ((old.part (by omega) d4 j).mp hj)⟩
        · rcases wsub j hj with e | hj2
          · subst e; exact ⟨by omega, fun h => by omega⟩
          · have := hwb j hj2
            exact ⟨by omega, this.2⟩
        · rw [eK] at k2'
          by_cases e : K = nK t + 1
          · obtain ⟨D, D1, D2⟩ := wait_all (nK t0) t3 K R [nK t] (4 * (L + 1))
            refine ⟨D, fun j j1 j2 j3 j4 => ?_, by omega⟩
            rcases j4 with ⟨u, u1, u2, -⟩ | j4
            · rw [eK] at u2; omega
            · exact D1 j j1 j3 j4
          · obtain ⟨D, D1, D2⟩ := hD K k1 (by omega)
            refine ⟨D, fun j j1 j2 j3 j4 => ?_, D2⟩
            rw [(old.s (show j < nK t by omega)).1] at j3
            refine D1 j j1 j2 j3 ?_
            rcases j4 with ⟨u, u1, u2, u3⟩ | j4
            · rw [eK] at u2
              by_cases z : u = nK t
              · subst z
                exact Or.inr (Or.inr ⟨_, hx, nPt j u3⟩)
              · exact Or.inl ⟨u, u1, by omega, (old.part (by omega) (hall u (by omega)).1 j).mp u3⟩
            · rcases wsub j j4 with z | z
              · omega
              · exact Or.inr z
      obtain ⟨t5, k5, h5, f5⟩ := toRowR h3 (r := 0) (by omega)
      unfold m_closes at hs2
      simp only [nm] at hs2
      rw [(f3.1 19 rfl).1, (ftT.1 19 rfl).1, a1, show jn (L + 1) - 1 = jn L from jn_sub (a := L + 1) (b := 1) (by omega), ht3, show m_toRow t3 0 (jn (nK t)) = some t5 from k5, bs, bs] at hs2
      have : t5 = t' := congrArg Prod.snd (Option.some.inj hs2)
      subst this
      refine ⟨_, h5, ?_, (fall.wk rfl rfl).trans (f5.wk rfl rfl)⟩
      rw [show 4 * L = 4 * L + 0 from rfl, setR_at]; exact app_ne
    · rw [if_neg z2] at hs2
      exact absurd hs2 no41
