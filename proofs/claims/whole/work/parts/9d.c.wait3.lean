/-! What waits: rows that grow, letters, levels. -/
theorem toRowR {t0 : St} {A : Nat} {t : St} {L : Nat} {R : Nat → List Nat} {k : Nat} (h : Cor t0 A t L R [k]) {r : Nat} (hr : r ≤ 3) : ∃ t', m_toRow t (jn r) (jn k) = some t' ∧ Cor t0 A t' L (setR R (4 * L + r) (R (4 * L + r) ++ [k])) [] ∧ fx [20, 21] [] t t' := by
  have h0 := h
  obtain ⟨⟨a1, a2, a3⟩, ⟨b1, b2, b3, b4, b5, b6⟩, hall, hwb, ⟨c1, c2, c3⟩, hD⟩ := h
  have hx : 4 * L + r < 4 * (L + 1) := by omega
  have len := h0.len hx
  obtain ⟨rc, re⟩ := a3 _ hx
  obtain ⟨t', j1, j2, j3, j4⟩ := toRow_eq (t := t) (L := L) (r := r) (m := (R (4 * L + r)).length) a1 a2 hr rc (by omega) (jn k)
  have ps := pot_set (f := wtK (nK t0) t) (n := 4 * (L + 1)) (x := 4 * L + r) (R := R) (l := R (4 * L + r) ++ [k]) (fl := [k]) (fl' := []) hx
  have es := ent_set (n := 4 * (L + 1)) (x := 4 * L + r) (R := R) (l := R (4 * L + r) ++ [k]) (fl := [k]) (fl' := []) hx
  rw [psL_app] at ps
  rw [List.length_append] at es
  have z1 : psL (wtK (nK t0) t) [] = 0 := rfl
  have z2 : ([] : List Nat).length = 0 := rfl
  have z3 : [k].length = 1 := rfl
  have sq : sqN t' L = sqN t L := by unfold sqN; rw [(j2.1 24 rfl).2.2.1]
  refine ⟨t', j1, h0.move ((j2.1 19 rfl).1.trans a1) a2 (fun x hx2 => ?_) (j2.1 7 rfl).1 (j2.1 13 rfl).1 (OldK.fx j2) (fun j hj => Or.inl ?_) b6 (by rw [sq]; omega) (by omega) (by omega), j2⟩
  · by_cases e : x = 4 * L + r
    · subst e
      rw [setR_at, j3, if_pos rfl, List.length_append]
      refine ⟨rfl, fun i hi => ?_⟩
      have hi2 : i < (R (4 * L + r)).length + 1 := hi
      rw [j4]
      by_cases e2 : i = (R (4 * L + r)).length
      · subst e2
        rw [if_pos rfl, getD_r]
      · rw [if_neg (by omega), getD_l (by omega)]
        exact re i (by omega)
    · rw [setR_ne e, j3, if_neg e]
      have lx := h0.len hx2
      refine ⟨(a3 x hx2).1, fun i hi => ?_⟩
      rw [j4, if_neg (by omega)]
      exact (a3 x hx2).2 i hi
  · rcases hj with hj | ⟨x, x1, x2⟩
    · exact absurd hj List.not_mem_nil
    · by_cases e : x = 4 * L + r
      · subst e
        rw [setR_at] at x2
        rcases List.mem_append.mp x2 with y | y
        · exact Or.inr ⟨_, hx, y⟩
        · exact Or.inl y
      · rw [setR_ne e] at x2; exact Or.inr ⟨x, x1, x2⟩
theorem app_ne {l : List Nat} {k : Nat} : l ++ [k] ≠ [] := by simp
/-- a level's rows are ended one by one -/
theorem endsF {t0 : St} {A : Nat} {t : St} {L : Nat} {R : Nat → List Nat} (h : Cor t0 A t L R []) (hne : R (4 * L) ≠ []) : ∀ r, r ≤ 3 → ∃ t' R', mF r t = some t' ∧ Cor t0 A t' L R' [] ∧ R' (4 * L + r) ≠ [] ∧ fx [7, 8, 9, 10, 11, 12, 13, 14, 15, 20, 21] [] t t' := by
  intro r
  induction r with
  | zero => intro _; exact ⟨t, R, rfl, h, hne, fx.rfl⟩
  | succ r ih =>
    intro hr
    obtain ⟨t1, R1, k1, h1, n1, f1⟩ := ih (by omega)
    obtain ⟨k, t2, k2, h2, f2⟩ := endsR h1 (r := r) (by omega) n1
    obtain ⟨t3, k3, h3, f3⟩ := toRowR h2 (r := r + 1) (by omega)
    refine ⟨t3, _, ?_, h3, ?_, (f1.trans (f2.wk rfl rfl)).trans (f3.wk rfl rfl)⟩
    · show (mF r t).bind _ = _
      rw [k1, bs, k2, bs, k3]
    · rw [setR_at]; exact app_ne
theorem ER {t0 : St} {A : Nat} {t : St} {L : Nat} {R : Nat → List Nat} (h : Cor t0 A t L R []) (hne : R (4 * L) ≠ []) : ∃ k t' R', mE 2 t = some (jn k, t') ∧ Cor t0 A t' L R' [k] ∧ fx [7, 8, 9, 10, 11, 12, 13, 14, 15, 20, 21] [] t t' := by
  obtain ⟨t1, R1, k1, h1, n1, f1⟩ := endsF h hne 2 (by omega)
  obtain ⟨k, t2, k2, h2, f2⟩ := endsR h1 (r := 2) (by omega) n1
  refine ⟨k, t2, _, ?_, h2, f1.trans (f2.wk rfl rfl)⟩
  unfold mE
  rw [k1, bs, k2]
theorem Cor.up {t0 : St} {A A' : Nat} {t : St} {L : Nat} {R : Nat → List Nat} {fl : List Nat} (h : Cor t0 A t L R fl) (hA : A ≤ A') (h81 : A' ≤ 81) : Cor t0 A' t L R fl := by
  obtain ⟨h1, ⟨b1, b2, b3, b4, b5, b6⟩, h3, h4, ⟨c1, c2, c3⟩, h6⟩ := h
  exact ⟨h1, ⟨b1, b2, b3, b4, b5, h81⟩, h3, h4, ⟨by omega, by omega, by omega⟩, h6⟩
/-- fields that tell nothing of what waits -/
theorem Cor.fr {t0 : St} {A : Nat} {t t' : St} {L : Nat} {R : Nat → List Nat} {fl : List Nat} {S T : List Nat} (h : Cor t0 A t L R fl) (hf : fx S T t t') (h1 : (S.elem 7 || S.elem 8 || S.elem 11 || S.elem 12 || S.elem 13 || S.elem 14 || S.elem 19 || S.elem 20 || S.elem 21 || S.elem 24) = false := by rfl) : Cor t0 A t' L R fl := by
  have h0 := h
  simp only [Bool.or_eq_false_iff] at h1
  obtain ⟨⟨⟨⟨⟨⟨⟨⟨⟨e7, e8⟩, e11⟩, e12⟩, e13⟩, e14⟩, e19⟩, e20⟩, e21⟩, e24⟩ := h1
  obtain ⟨⟨a1, a2, a3⟩, ⟨b1, b2, b3, b4, b5, b6⟩, hall, hwb, ⟨c1, c2, c3⟩, hD⟩ := h
  have sq : sqN t' L = sqN t L := by unfold sqN; rw [(hf.1 24 e24).2.2.1]
  refine h0.move ((hf.1 19 e19).1.trans a1) a2 (fun x hx => ?_) (hf.1 7 e7).1 (hf.1 13 e13).1 (OldK.fx hf (by rw [e8, e11, e12, e14]; rfl)) (fun j hj => Or.inl hj) b6 (by rw [sq]; exact c1) c2 c3
  rw [(hf.1 20 e20).2.2.1, (hf.1 21 e21).2.2.1]
  exact a3 x hx
/-- a digit's net -/
theorem digitR {t0 : St} {A : Nat} {t : St} {L : Nat} {R : Nat → List Nat} (h : Cor t0 A t L R []) (hA : A + 2 ≤ 81) {k : Nat} (hk : k < nK t0) (hr : rootB t0 k = true) : Cor t0 (A + 2) t L R [k] := by
  have h0 := h
  obtain ⟨⟨a1, a2, a3⟩, ⟨b1, b2, b3, b4, b5, b6⟩, hall, hwb, ⟨c1, c2, c3⟩, hD⟩ := h
  have w : wtK (nK t0) t k = 2 := if_neg (by omega)
  have e1 : potN (wtK (nK t0) t) (4 * (L + 1)) R [k] = potN (wtK (nK t0) t) (4 * (L + 1)) R [] + 2 := by
    show (wtK (nK t0) t k + 0) + _ = 0 + _ + 2
    omega
  have e2 : entN (4 * (L + 1)) R [k] = entN (4 * (L + 1)) R [] + 1 := by
    show 1 + _ = 0 + _ + 1
    omega
  refine h0.move a1 a2 a3 rfl rfl (OldK.fx (fx.rfl (S := []) (T := []))) (fun j hj => ?_) hA (by omega) (by omega) (by omega)
  rcases hj with hj | hj
  · rw [List.mem_singleton.mp hj]
    exact Or.inr ⟨by omega, hr, hk⟩
  · exact Or.inl (Or.inr hj)
/-- a letter's knot -/
theorem letterR {t0 : St} {A : Nat} {t t1 t2 : St} {L : Nat} {R : Nat → List Nat} (h : Cor t0 A t L R []) (hA : A + 2 ≤ 81) {q : Int32} (hk : m_newKnot t 0 = some (q, t1)) (hf : fx [10, 15] [] t1 t2) : q = jn (nK t) ∧ Cor t0 (A + 2) t2 L R [nK t] ∧ fx [7, 8, 9, 10, 11, 12, 15] [] t t2 := by
  have h0 := h
  obtain ⟨⟨a1, a2, a3⟩, ⟨b1, b2, b3, b4, b5, b6⟩, hall, hwb, ⟨c1, c2, c3⟩, hD⟩ := h
  obtain ⟨t1', k2, m7, m8, m9, m10, m11, m12, m15⟩ := newKnot_eq (t := t) (K := nK t) b1 (by omega) 0
  rw [hk] at k2
  obtain ⟨rfl, rfl⟩ : q = jn (nK t) ∧ t1 = t1' := by
    have := Option.some.inj k2
    exact ⟨congrArg Prod.fst this, congrArg Prod.snd this⟩
  have fM : fx [7, 8, 9, 10, 11, 12, 15] [] t t1 := fr_m_newKnot t _ _ hk
  have fall : fx [7, 8, 9, 10, 11, 12, 15] [] t t2 := fM.trans (hf.wk rfl rfl)
  have e7 : gI t2 7 = jn (nK t + 1) := (hf.1 7 rfl).1.trans m7
  have eK : nK t2 = nK t + 1 := nK_of e7 (by omega)
  have eP : nP t2 = nP t := nP_fr fall
  have x8 : gA t2 8 = upd (gA t 8) (nK t) 0 := (hf.1 8 rfl).2.2.1.trans m8
  have x11 : gA t2 11 = upd (gA t 11) (nK t) (gI t 13) := (hf.1 11 rfl).2.2.1.trans m11
  have x12 : gA t2 12 = upd (gA t 12) (nK t) 0 := (hf.1 12 rfl).2.2.1.trans m12
  have old : OldK t t2 := ⟨fun u hu => by
    rw [x8, x11, x12, upd_ne (by omega), upd_ne (by omega), upd_ne (by omega)]
    exact ⟨rfl, rfl, rfl⟩, fun j _ => by rw [(fall.1 14 rfl).2.2.1]⟩
  have nS : kS t2 (nK t) = 0 := by unfold kS; rw [x8, upd_at]; rfl
  have nF : kF t2 (nK t) = nP t := by unfold kF; rw [x11, upd_at, b2, jn_cl (by omega)]
  have nN : kN t2 (nK t) = 0 := by unfold kN; rw [x12, upd_at]; rfl
  have nPt : ∀ j, ¬ PartOf t2 (nK t) j := fun j hj => hj.1 nS
  have wk : wtK (nK t0) t2 (nK t) = 2 := if_neg (fun h => h.2 nS)
  have wo : ∀ j, j < nK t → wtK (nK t0) t2 j = wtK (nK t0) t j := fun j hj => by unfold wtK; rw [(old.s hj).1]
  have e1 : potN (wtK (nK t0) t2) (4 * (L + 1)) R [nK t] = potN (wtK (nK t0) t) (4 * (L + 1)) R [] + 2 := by
    rw [← pot_cong (f := wtK (nK t0) t2) (g := wtK (nK t0) t) (R := R) (fl := []) (fun j hj => wo j (hwb j hj).1)]
    show (wtK (nK t0) t2 (nK t) + 0) + _ = 0 + _ + 2
    omega
  have e2 : entN (4 * (L + 1)) R [nK t] = entN (4 * (L + 1)) R [] + 1 := by
    show 1 + _ = 0 + _ + 1
    omega
  have sq : sqN t2 L = sqN t L := by unfold sqN; rw [(fall.1 24 rfl).2.2.1]
  have wsub : ∀ j, WB (4 * (L + 1)) R [nK t] j → j = nK t ∨ WB (4 * (L + 1)) R [] j := by
    intro j hj
    rcases hj with hj | hj
    · exact Or.inl (List.mem_singleton.mp hj)
    · exact Or.inr (Or.inr hj)
  refine ⟨rfl, ⟨⟨(fall.1 19 rfl).1.trans a1, a2, fun x hx => ?_⟩, ⟨by rw [eK]; exact e7, by rw [eP, (fall.1 13 rfl).1]; exact b2, by omega, b4, b5, hA⟩, fun u hu => ?_, fun j hj => ?_, ⟨by rw [sq]; omega, by omega, by omega⟩, fun K k1 k2' => ?_⟩, fall⟩
  · rw [(fall.1 20 rfl).2.2.1, (fall.1 21 rfl).2.2.1]
    exact a3 x hx
  · rw [eK] at hu
    by_cases e : u = nK t
    · subst e
      rw [nF, nN, eP]
      exact ⟨fun _ => Nat.le_refl _, fun _ j hj => absurd hj (nPt j)⟩
    · obtain ⟨d4, d5⟩ := hall u (by omega)
      obtain ⟨p1, p2, p3⟩ := old.s (show u < nK t by omega)
      rw [p1, p2, p3, eP]
      exact ⟨d4, fun hu0 j hj => d5 hu0 j ((old.part (by omega) d4 j).mp hj)⟩
  · rcases wsub j hj with e | hj2
    · subst e; exact ⟨by omega, fun h => by omega⟩
    · have := hwb j hj2
      exact ⟨by omega, this.2⟩
  · rw [eK] at k2'
    by_cases e : K = nK t + 1
    · obtain ⟨D, D1, D2⟩ := wait_all (nK t0) t2 K R [nK t] (4 * (L + 1))
      refine ⟨D, fun j j1 j2 j3 j4 => ?_, by omega⟩
      rcases j4 with ⟨u, u1, u2, -⟩ | j4
      · rw [eK] at u2; omega
      · exact D1 j j1 j3 j4
    · obtain ⟨D, D1, D2⟩ := hD K k1 (by omega)
      refine ⟨D, fun j j1 j2 j3 j4 => ?_, D2⟩
      rw [(old.s (show j < nK t by omega)).1] at j3
      refine D1 j j1 j2 j3 ?_
      rcases j4 with ⟨u, u1, u2, u3⟩ | j4
      · rw [eK] at u2
        by_cases z : u = nK t
        · subst z; exact absurd u3 (nPt j)
        · exact Or.inl ⟨u, u1, by omega, (old.part (by omega) (hall u (by omega)).1 j).mp u3⟩
      · rcases wsub j j4 with z | z
        · omega
        · exact Or.inr z
theorem smm_ext {f : Nat → Nat} {n : Nat} : ∀ d, (∀ i, n ≤ i → i < n + d → f i = 0) → smm f (n + d) = smm f n := by
  intro d
  induction d with
  | zero => intro _; rfl
  | succ d ih =>
    intro h
    show smm f (n + d) + f (n + d) = _
    rw [h (n + d) (by omega) (by omega), ih fun i h1 h2 => h i h1 (by omega)]
    rfl
def cutR (R : Nat → List Nat) (n : Nat) : Nat → List Nat := fun x => if x < n then R x else []
theorem cutR_in {R : Nat → List Nat} {n x : Nat} (h : x < n) : cutR R n x = R x := if_pos h
theorem cutR_out {R : Nat → List Nat} {n x : Nat} (h : ¬ x < n) : cutR R n x = [] := if_neg h
/-- a new level -/
theorem opensR {t0 : St} {A : Nat} {t : St} {L : Nat} {R : Nat → List Nat} (h : Cor t0 A t L R []) (hL : L < 8) (b : Bool) (hA : A + 2 ≤ 81) : ∃ t', m_opens t (if b then 1 else 0) = some t' ∧ gI t' 19 = jn (L + 1) ∧ Cor t0 (if b then A + 2 else A) t' (L + 1) (cutR R (4 * (L + 1))) [] ∧ fx [19, 20, 24] [] t t' ∧ ∀ l, gA t' 24 l = if l = L + 1 then (if b then 1 else 0) else gA t 24 l := by
  have h0 := h
  obtain ⟨⟨a1, a2, a3⟩, ⟨b1, b2, b3, b4, b5, b6⟩, hall, hwb, ⟨c1, c2, c3⟩, hD⟩ := h
  obtain ⟨t', k1, f1, v19, v24, v20⟩ := opens_eq (t := t) (L := L + 1) (by rw [a1, jn_s]) (by omega) b
  have e1 : potN (wtK (nK t0) t) (4 * (L + 1 + 1)) (cutR R (4 * (L + 1))) [] = potN (wtK (nK t0) t) (4 * (L + 1)) R [] := by
    unfold potN
    congr 1
    rw [show 4 * (L + 1 + 1) = 4 * (L + 1) + 4 by omega, smm_ext 4 (fun i h1 h2 => by rw [cutR_out (by omega)]; rfl)]
    exact smm_cong fun x hx => by rw [cutR_in hx]
  have e2 : entN (4 * (L + 1 + 1)) (cutR R (4 * (L + 1))) [] = entN (4 * (L + 1)) R [] := by
    unfold entN
    congr 1
    rw [show 4 * (L + 1 + 1) = 4 * (L + 1) + 4 by omega, smm_ext 4 (fun i h1 h2 => by rw [cutR_out (by omega)]; rfl)]
    exact smm_cong fun x hx => by rw [cutR_in hx]
  have sq : sqN t' (L + 1) = sqN t L + if b then 1 else 0 := by
    show smm _ (L + 1) + (if gA t' 24 (L + 1) = 1 then 1 else 0) = _
    rw [v24, if_pos rfl, smm_cong (g := fun l => if gA t 24 l = 1 then 1 else 0) (fun l hl => by rw [v24, if_neg (show ¬ l = L + 1 by omega)])]
    cases b with
    | true => rfl
    | false => rfl
  refine ⟨t', k1, v19, h0.move v19 (by omega) (fun x hx => ?_) (f1.1 7 rfl).1 (f1.1 13 rfl).1 (OldK.fx f1) (fun j hj => Or.inl ?_) (by split <;> omega) (by rw [e1, sq]; cases b <;> simp <;> omega) (by rw [e2]; cases b <;> simp <;> omega) (by rw [e2]; cases b <;> simp <;> omega), f1, v24⟩
  · rw [v20, (f1.1 21 rfl).2.2.1]
    by_cases e : x < 4 * (L + 1)
    · rw [cutR_in e, if_neg (by omega)]
      exact a3 x e
    · rw [cutR_out e, if_pos (by omega)]
      exact ⟨rfl, fun i hi => absurd hi (Nat.not_lt_zero i)⟩
  · rcases hj with hj | ⟨x, x1, x2⟩
    · exact absurd hj List.not_mem_nil
    · by_cases e : x < 4 * (L + 1)
      · rw [cutR_in e] at x2; exact Or.inr ⟨x, e, x2⟩
      · rw [cutR_out e] at x2; exact absurd x2 List.not_mem_nil
theorem smm_le2 {f : Nat → Nat} {n m : Nat} (h : n ≤ m) : smm f n ≤ smm f m := by
  obtain ⟨d, rfl⟩ : ∃ d, m = n + d := ⟨m - n, by omega⟩
  induction d with
  | zero => exact Nat.le_refl _
  | succ d ih => exact Nat.le_trans (ih (by omega)) (Nat.le_add_right _ _)
/-- a level is closed -/
theorem closesR {t0 : St} {A : Nat} {t : St} {L : Nat} {R : Nat → List Nat} {k : Nat} (h : Cor t0 A t (L + 1) R [k]) : ∃ t' R', m_closes t (jn k) = some t' ∧ Cor t0 A t' L R' [] ∧ R' (4 * L) ≠ [] ∧ fx [19, 20, 21] [] t t' := by
  have h0 := h
  obtain ⟨⟨a1, a2, a3⟩, ⟨b1, b2, b3, b4, b5, b6⟩, hall, hwb, ⟨c1, c2, c3⟩, hD⟩ := h
  generalize ht : sI t 19 (jn L) = t1
  have f1 : fx [19] [] t t1 := by subst ht; exact fx_sI rfl
  have e19 : gI t1 19 = jn L := by subst ht; exact gI_at
  have p1 : potN (wtK (nK t0) t) (4 * (L + 1)) R [k] ≤ potN (wtK (nK t0) t) (4 * (L + 1 + 1)) R [k] := Nat.add_le_add_left (smm_le2 (by omega)) _
  have p2 : entN (4 * (L + 1)) R [k] ≤ entN (4 * (L + 1 + 1)) R [k] := Nat.add_le_add_left (smm_le2 (by omega)) _
  have sq : sqN t1 L ≤ sqN t (L + 1) := by
    unfold sqN
    rw [(f1.1 24 rfl).2.2.1]
    exact smm_le2 (by omega)
  have h1 : Cor t0 A t1 L R [k] := h0.move e19 (by omega) (fun x hx => by
    rw [(f1.1 20 rfl).2.2.1, (f1.1 21 rfl).2.2.1]
    exact a3 x (by omega)) (f1.1 7 rfl).1 (f1.1 13 rfl).1 (OldK.fx f1) (fun j hj => Or.inl (by
      rcases hj with hj | ⟨x, x1, x2⟩
      · exact Or.inl hj
      · exact Or.inr ⟨x, by omega, x2⟩)) b6 (by omega) (by omega) (by omega)
  obtain ⟨t2, k2, h2, f2⟩ := toRowR h1 (r := 0) (by omega)
  refine ⟨t2, _, ?_, h2, ?_, (f1.wk rfl rfl).trans (f2.wk rfl rfl)⟩
  · unfold m_closes
    simp only [nm]
    rw [a1, show jn (L + 1) - 1 = jn L from jn_sub (a := L + 1) (b := 1) (by omega), ht, show (0 : Int32) = jn 0 from rfl, k2, bs]
  · rw [show 4 * L = 4 * L + 0 from rfl, setR_at]; exact app_ne
