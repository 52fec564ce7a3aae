/-! What waits, step by step. -/
theorem jn_of (x : Int32) : jn x.toBitVec.toNat = x := by
  apply Int32.toBitVec.inj
  show BitVec.ofNat 32 x.toBitVec.toNat = x.toBitVec
  simp
/-- knots that were there are as they were -/
def OldK (t t' : St) : Prop := (∀ u, u < nK t → gA t' 8 u = gA t 8 u ∧ gA t' 11 u = gA t 11 u ∧ gA t' 12 u = gA t 12 u) ∧ ∀ j, j < nP t → gA t' 14 j = gA t 14 j
theorem OldK.s {t t' : St} (h : OldK t t') {u : Nat} (hu : u < nK t) : kS t' u = kS t u ∧ kF t' u = kF t u ∧ kN t' u = kN t u := by
  obtain ⟨h1, h2, h3⟩ := h.1 u hu
  unfold kS kF kN
  rw [h1, h2, h3]
  exact ⟨rfl, rfl, rfl⟩
theorem OldK.part {t t' : St} (h : OldK t t') {u : Nat} (hu : u < nK t) (hl : kS t u ≠ 0 → kF t u + kN t u ≤ nP t) (j : Nat) : PartOf t' u j ↔ PartOf t u j := by
  obtain ⟨e1, e2, e3⟩ := h.s hu
  unfold PartOf
  rw [e1, e3]
  have : kS t u ≠ 0 → ∀ i, i < kN t u → kP t' u i = kP t u i := fun z i hi => by
    have := hl z
    unfold kP
    rw [e2, h.2 _ (by omega)]
  constructor
  · rintro ⟨q, i, hi, e⟩
    exact ⟨q, i, hi, by rw [← this q i hi]; exact e⟩
  · rintro ⟨q, i, hi, e⟩
    exact ⟨q, i, hi, by rw [this q i hi]; exact e⟩
theorem OldK.fx {S T : List Nat} {t t' : St} (h : fx S T t t') (h1 : (S.elem 8 || S.elem 11 || S.elem 12 || S.elem 14) = false := by rfl) : OldK t t' := by
  simp only [Bool.or_eq_false_iff] at h1
  refine ⟨fun u _ => ?_, fun j _ => ?_⟩
  · rw [(h.1 8 h1.1.1.1).2.2.1, (h.1 11 h1.1.1.2).2.2.1, (h.1 12 h1.1.2).2.2.1]
    exact ⟨rfl, rfl, rfl⟩
  · rw [(h.1 14 h1.2).2.2.1]
/-- rows that are only moved about -/
theorem Cor.move {t0 : St} {A A' : Nat} {t t' : St} {L L' : Nat} {R R' : Nat → List Nat} {fl fl' : List Nat} (h : Cor t0 A t L R fl) (h19 : gI t' 19 = jn L') (hL : L' ≤ 8) (hR : RowsAre t' (4 * (L' + 1)) R') (h7 : gI t' 7 = gI t 7) (h13 : gI t' 13 = gI t 13) (ho : OldK t t') (hw : ∀ j, WB (4 * (L' + 1)) R' fl' j → WB (4 * (L + 1)) R fl j ∨ (j < nK t ∧ rootB t0 j = true ∧ j < nK t0)) (hA : A' ≤ 81) (hp : potN (wtK (nK t0) t) (4 * (L' + 1)) R' fl' + 2 * sqN t' L' ≤ A') (he : nK t + entN (4 * (L' + 1)) R' fl' ≤ nK t0 + A') (hq : nP t + 2 * entN (4 * (L' + 1)) R' fl' ≤ nP t0 + 2 * A') : Cor t0 A' t' L' R' fl' := by
  obtain ⟨⟨a1, a2, a3⟩, ⟨b1, b2, b3, b4, b5, b6⟩, hall, hwb, ⟨c1, c2, c3⟩, hD⟩ := h
  have e7 : nK t' = nK t := by unfold nK; rw [h7]
  have e13 : nP t' = nP t := by unfold nP; rw [h13]
  have ek : ∀ u, u < nK t → kS t' u = kS t u := fun u hu => (ho.s hu).1
  have hwb' : ∀ j, WB (4 * (L' + 1)) R' fl' j → j < nK t ∧ (j < nK t0 → rootB t0 j = true) := fun j hj => by
    rcases hw j hj with h | ⟨h1, h2, -⟩
    · exact hwb j h
    · exact ⟨h1, fun _ => h2⟩
  refine ⟨⟨h19, hL, hR⟩, ⟨by rw [e7, h7]; exact b1, by rw [e13, h13]; exact b2, by omega, b4, b5, hA⟩, fun u hu => ?_, fun j hj => by rw [e7]; exact hwb' j hj, ⟨?_, by rw [e7]; exact he, by rw [e13]; exact hq⟩, fun K k1 k2 => ?_⟩
  · rw [e7] at hu
    obtain ⟨d4, d5⟩ := hall u hu
    obtain ⟨s1, s2, s3⟩ := ho.s hu
    rw [s1, s2, s3, e13]
    exact ⟨d4, fun hu0 j hj => d5 hu0 j ((ho.part hu d4 j).mp hj)⟩
  · rw [pot_cong (g := wtK (nK t0) t) (fun j hj => by unfold wtK; rw [ek j (hwb' j hj).1])]
    exact hp
  · rw [e7] at k2
    obtain ⟨D, D1, D2⟩ := hD K k1 k2
    refine ⟨D, fun j j1 j2 j3 j4 => ?_, D2⟩
    rw [ek j (by omega)] at j3
    refine D1 j j1 j2 j3 ?_
    rcases j4 with ⟨u, u1, u2, u3⟩ | h
    · rw [e7] at u2
      exact Or.inl ⟨u, u1, u2, (ho.part u2 (hall u u2).1 j).mp u3⟩
    · rcases hw j h with h | ⟨-, -, h⟩
      · exact Or.inr h
      · omega
theorem endsR {t0 : St} {A : Nat} {t : St} {L : Nat} {R : Nat → List Nat} (h : Cor t0 A t L R []) {r : Nat} (hr : r ≤ 2) (hne : R (4 * L + r) ≠ []) : ∃ k t', m_ends t (jn r) (jn (3 - r)) = some (jn k, t') ∧ Cor t0 A t' L (setR R (4 * L + r) []) [k] ∧ fx [7, 8, 9, 10, 11, 12, 13, 14, 15, 20] [] t t' := by
  have h0 := h
  obtain ⟨⟨a1, a2, a3⟩, ⟨b1, b2, b3, b4, b5, b6⟩, hall, hwb, ⟨c1, c2, c3⟩, hD⟩ := h
  have hx : 4 * L + r < 4 * (L + 1) := by omega
  have len := h0.len hx
  have lpos : 1 ≤ (R (4 * L + r)).length := by
    cases hl : R (4 * L + r) with
    | nil => exact absurd hl hne
    | cons a l => show 1 ≤ l.length + 1; omega
  obtain ⟨rc, re⟩ := a3 _ hx
  have g36 : ∀ {α : Type} (x : Option α), gd (jn (4 * L + r)) 36 x = x := fun x => gd_jn (by omega) (by omega)
  have ck : (jn (4 * L + r)).toNatClampNeg = 4 * L + r := jn_cl (by omega)
  have rowsX : ∀ t' : St, gA t' 21 = gA t 21 → (∀ x, gA t' 20 x = if x = 4 * L + r then 0 else gA t 20 x) → RowsAre t' (4 * (L + 1)) (setR R (4 * L + r) []) := by
    intro t' e21 e20 x hx2
    by_cases e : x = 4 * L + r
    · subst e
      rw [setR_at, e20, if_pos rfl]
      exact ⟨rfl, fun i hi => absurd hi (Nat.not_lt_zero i)⟩
    · rw [setR_ne e, e20, if_neg e, e21]
      exact a3 x hx2
  have ent1 : ∀ i, i < (R (4 * L + r)).length → (R (4 * L + r)).getD i 0 < nK t := fun i hi => (hwb _ (Or.inr ⟨_, hx, getD_mem hi⟩)).1
  unfold m_ends
  rw [a1, show (4 : Int32) = jn 4 from rfl, jn_mul, jn_add, show (50 : Int32) = jn 50 from rfl]
  simp only [nm]
  rw [jn_mul, gd_jn (by omega) (by omega), g36, ck, rc, jn_cl (by omega)]
  by_cases c : (R (4 * L + r)).length ≤ 1
  · have e0 := re 0 (by omega)
    rw [Nat.add_zero] at e0
    have l1 : R (4 * L + r) = [(R (4 * L + r)).getD 0 0] := by
      cases hl : R (4 * L + r) with
      | nil => exact absurd hl hne
      | cons a l =>
        rw [hl] at c
        have : l = [] := List.length_eq_zero_iff.mp (by have : l.length + 1 ≤ 1 := c; omega)
        rw [this]
        rfl
    generalize (R (4 * L + r)).getD 0 0 = k at e0 l1
    refine ⟨k, sA t 20 (jn (4 * L + r)) 0, ?_, ?_, fx_sA rfl⟩
    · rw [if_pos (jle (x := 1) 1 rfl c (by omega)), J75_eq (by omega), e0]
    · have ps := pot_set (f := wtK (nK t0) t) (n := 4 * (L + 1)) (x := 4 * L + r) (R := R) (l := []) (fl := []) (fl' := [k]) hx
      have es := ent_set (n := 4 * (L + 1)) (x := 4 * L + r) (R := R) (l := []) (fl := []) (fl' := [k]) hx
      rw [l1] at ps es
      have z1 : psL (wtK (nK t0) t) [] = 0 := rfl
      have z2 : ([] : List Nat).length = 0 := rfl
      have z3 : [k].length = 1 := rfl
      have sq : sqN (sA t 20 (jn (4 * L + r)) 0) L = sqN t L := rfl
      refine h0.move a1 a2 (rowsX _ rfl fun x => ?_) rfl rfl (OldK.fx (fx_sA (S := [20]) (T := []) rfl)) (fun j hj => Or.inl ?_) b6 (by rw [sq]; omega) (by omega) (by omega)
      · rw [gA_sA, ck]
        by_cases e : x = 4 * L + r
        · subst e; rw [upd_at, if_pos rfl]
        · rw [upd_ne e, if_neg e]
      · rcases hj with hj | ⟨x, x1, x2⟩
        · rw [List.mem_singleton.mp hj]
          exact Or.inr ⟨_, hx, by rw [l1]; exact List.mem_singleton.mpr rfl⟩
        · by_cases e : x = 4 * L + r
          · subst e; rw [setR_at] at x2; exact absurd x2 List.not_mem_nil
          · rw [setR_ne e] at x2; exact Or.inr ⟨x, x1, x2⟩
  · rw [if_neg (jnle (x := 1) 1 rfl (by omega) (by omega))]
    have eg := ent_ge (R := R) (fl := []) hx
    obtain ⟨t1, k2, m7, m8, m9, m10, m11, m12, m15⟩ := newKnot_eq (t := t) (K := nK t) b1 (by omega) (jn (3 - r))
    have fM := fr_m_newKnot t _ _ k2
    obtain ⟨t2, k3, f3, w13, w12, w15, w14a, w14b⟩ := comes_loop (t := t1) (P := nP t) (K := nK t) (x := 4 * L + r) (n := (R (4 * L + r)).length) (fun i => (R (4 * L + r)).getD i 0) (fun i => (gA t1 15 ((R (4 * L + r)).getD i 0)).toBitVec.toNat) ((fM.1 13 rfl).1.trans b2) (by omega) (by omega) (by omega) (by omega) (by rw [(fM.1 20 rfl).2.2.1]; exact rc) (fun i hi => by
      rw [(fM.1 21 rfl).2.2.1]
      exact ⟨re i hi, ent1 i hi, (jn_of _).symm⟩) (by rw [m12, upd_at]) (by rw [m15, upd_at])
    generalize ht3 : sA t2 20 (jn (4 * L + r)) 0 = t3
    have f4 : fx [20] [] t2 t3 := by subst ht3; exact fx_sA rfl
    have f34 : fx [12, 13, 14, 15, 20] [] t1 t3 := (f3.wk rfl rfl).trans (f4.wk rfl rfl)
    have fall : fx [7, 8, 9, 10, 11, 12, 13, 14, 15, 20] [] t t3 := (fM.wk rfl rfl).trans (f34.wk rfl rfl)
    have e7 : gI t3 7 = jn (nK t + 1) := (f34.1 7 rfl).1.trans m7
    have e13 : gI t3 13 = jn (nP t + (R (4 * L + r)).length) := (f4.1 13 rfl).1.trans w13
    have eK : nK t3 = nK t + 1 := nK_of e7 (by omega)
    have eP : nP t3 = nP t + (R (4 * L + r)).length := nP_of e13 (by omega)
    have x8 : gA t3 8 = upd (gA t 8) (nK t) (jn (3 - r)) := (f34.1 8 rfl).2.2.1.trans m8
    have x11 : gA t3 11 = upd (gA t 11) (nK t) (gI t 13) := (f34.1 11 rfl).2.2.1.trans m11
    have x12 : ∀ j, gA t3 12 j = if j = nK t then jn (R (4 * L + r)).length else gA t 12 j := by
      intro j
      rw [(f4.1 12 rfl).2.2.1, w12]
      by_cases e : j = nK t
      · rw [if_pos e, if_pos e]
      · rw [if_neg e, if_neg e, m12, upd_ne e]
    have x14 : ∀ j, j < nP t → gA t3 14 j = gA t 14 j := fun j hj => by
      rw [(f4.1 14 rfl).2.2.1, w14b j hj, (fM.1 14 rfl).2.2.1]
    have old : OldK t t3 := ⟨fun u hu => by
      rw [x8, x11, x12, upd_ne (by omega), upd_ne (by omega), if_neg (by omega)]
      exact ⟨rfl, rfl, rfl⟩, x14⟩
    have nS : kS t3 (nK t) = 3 - r := by unfold kS; rw [x8, upd_at, jn_cl (by omega)]
    have nF : kF t3 (nK t) = nP t := by unfold kF; rw [x11, upd_at, b2, jn_cl (by omega)]
    have nN : kN t3 (nK t) = (R (4 * L + r)).length := by unfold kN; rw [x12, if_pos rfl, jn_cl (by omega)]
    have nPt : ∀ j, PartOf t3 (nK t) j → j ∈ R (4 * L + r) := by
      rintro j ⟨-, i, hi, e⟩
      rw [nN] at hi
      unfold kP at e
      rw [nF, (f4.1 14 rfl).2.2.1, w14a i hi, jn_cl (by have := ent1 i hi; omega)] at e
      rw [← e]
      exact getD_mem hi
    have wk : wtK (nK t0) t3 (nK t) = 4 := if_pos ⟨b3, by rw [nS]; omega⟩
    have wo : ∀ j, j < nK t → wtK (nK t0) t3 j = wtK (nK t0) t j := fun j hj => by unfold wtK; rw [(old.s hj).1]
    have ps := pot_set (f := wtK (nK t0) t3) (n := 4 * (L + 1)) (x := 4 * L + r) (R := R) (l := []) (fl := []) (fl' := [nK t]) hx
    have es := ent_set (n := 4 * (L + 1)) (x := 4 * L + r) (R := R) (l := []) (fl := []) (fl' := [nK t]) hx
    rw [pot_cong (g := wtK (nK t0) t) (R := R) (fl := []) (fun j hj => wo j (hwb j hj).1)] at ps
    have z1 : psL (wtK (nK t0) t3) [] = 0 := rfl
    have z2 : ([] : List Nat).length = 0 := rfl
    have z3 : [nK t].length = 1 := rfl
    have z4 : psL (wtK (nK t0) t3) [nK t] = 4 := by
      show wtK (nK t0) t3 (nK t) + 0 = 4
      rw [wk]
    have pg := psL_ge (f := wtK (nK t0) t3) (l := R (4 * L + r)) (fun j _ => (wtK_ge _ _ j).1)
    have sq : sqN t3 L = sqN t L := by unfold sqN; rw [(fall.1 24 rfl).2.2.1]
    have wsub : ∀ j, WB (4 * (L + 1)) (setR R (4 * L + r) []) [nK t] j → j = nK t ∨ WB (4 * (L + 1)) R [] j := by
      intro j hj
      rcases hj with hj | ⟨x, x1, x2⟩
      · exact Or.inl (List.mem_singleton.mp hj)
      · by_cases e : x = 4 * L + r
        · subst e; rw [setR_at] at x2; exact absurd x2 List.not_mem_nil
        · rw [setR_ne e] at x2; exact Or.inr (Or.inr ⟨x, x1, x2⟩)
    refine ⟨nK t, t3, ?_, ⟨⟨(fall.1 19 rfl).1.trans a1, a2, rowsX _ (fall.1 21 rfl).2.2.1 fun x => ?_⟩, ⟨by rw [eK]; exact e7, by rw [eP]; exact e13, by omega, b4, b5, b6⟩, fun u hu => ?_, fun j hj => ?_, ⟨by rw [sq]; omega, by omega, by omega⟩, fun K k1 k2' => ?_⟩, fall⟩
    · rw [k2, bs]
      dsimp only
      rw [show lp (fun y : Int32 × St => m_ends_B40 (jn (4 * L + r)) (jn (nK t)) y.1 y.2) ((0 : Int32), t1) = some t2 from k3, bs, J75_eq (by omega), ht3]
    · subst ht3
      rw [gA_sA, ck]
      by_cases e : x = 4 * L + r
      · subst e; rw [upd_at, if_pos rfl]
      · rw [upd_ne e, if_neg e, (f3.1 20 rfl).2.2.1, (fM.1 20 rfl).2.2.1]
    · rw [eK] at hu
      by_cases e : u = nK t
      · subst e
        rw [nF, nN, eP]
        exact ⟨fun _ => Nat.le_refl _, fun _ j hj hj0 => (hwb j (Or.inr ⟨_, hx, nPt j hj⟩)).2 hj0⟩
      · obtain ⟨d4, d5⟩ := hall u (by omega)
        obtain ⟨p1, p2, p3⟩ := old.s (show u < nK t by omega)
        rw [p1, p2, p3, eP]
        exact ⟨fun z => by have := d4 z; omega, fun hu0 j hj => d5 hu0 j ((old.part (by omega) d4 j).mp hj)⟩
    · rcases wsub j hj with e | hj2
      · subst e; exact ⟨by omega, fun h => by omega⟩
      · have := hwb j hj2
        exact ⟨by omega, this.2⟩
    · rw [eK] at k2'
      by_cases e : K = nK t + 1
      · obtain ⟨D, D1, D2⟩ := wait_all (nK t0) t3 K (setR R (4 * L + r) []) [nK t] (4 * (L + 1))
        refine ⟨D, fun j j1 j2 j3 j4 => ?_, by omega⟩
        rcases j4 with ⟨u, u1, u2, -⟩ | j4
        · rw [eK] at u2; omega
        · exact D1 j j1 j3 j4
      · obtain ⟨D, D1, D2⟩ := hD K k1 (by omega)
        refine ⟨D, fun j j1 j2 j3 j4 => ?_, D2⟩
        rw [(old.s (show j < nK t by omega)).1] at j3
        refine D1 j j1 j2 j3 ?_
        rcases j4 with ⟨u, u1, u2, u3⟩ | j4
        · rw [eK] at u2
          by_cases z : u = nK t
          · subst z
            exact Or.inr (Or.inr ⟨_, hx, nPt j u3⟩)
          · exact Or.inl ⟨u, u1, by omega, (old.part (by omega) (hall u (by omega)).1 j).mp u3⟩
        · rcases wsub j j4 with z | z
          · omega
          · exact Or.inr z
