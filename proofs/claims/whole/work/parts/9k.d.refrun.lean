/-! The game's table on the reference's side: choices and the run. -/
theorem GM.sl {t u : St} {A : Nat → Nat → Int} {p w : Nat} {B : Nat → Nat} {L : List Nat} (hp : p ≤ 6) (hw : w ≤ 24) (h : GM t A p w B) (g : Sl L t u) (hL : ∀ z, z ∈ L → 701 ≤ z) : GM u A p w B := by
  obtain ⟨e50, hv, hD, h53⟩ := h
  have no : ∀ z, z ≤ 700 → z ∉ L := fun z hz e => by have := hL z e; omega
  refine ⟨(g.1.1 50 rfl).1.trans e50, fun r c hr hc => ?_, hD.sl g (no _ (Nat.le_refl _)), fun r hr => by rw [(g.1.1 53 rfl).2.2.1]; exact h53 r hr⟩
  obtain ⟨a, b⟩ := hv r c hr hc
  exact ⟨a.sl g (no _ (by omega)), by rw [(g.1.1 52 rfl).2.2.1]; exact b⟩
theorem entM_eq {t : St} {A : Nat → Nat → Int} {p w : Nat} (hp : p ≤ 6) (hw : w ≤ 24) {B : Nat → Nat} (h : GM t A p w B) : ∃ c, lp (fun x => m_plays_B176 t (jn (w + p + 1)) (jn (w + p)) x) (0 : Int32) = some (jn c) ∧ ((c = w + p ∧ ∀ x, x < w + p → 0 ≤ gT A p w B p x) ∨ Ent A p w B c) := by
  obtain ⟨e50, hv, -, -⟩ := h
  have run : ∀ n k, k + n = w + p → (∀ x, x < k → 0 ≤ gT A p w B p x) → ∃ c, lp (fun x => m_plays_B176 t (jn (w + p + 1)) (jn (w + p)) x) (jn k) = some (jn c) ∧ ((c = w + p ∧ ∀ x, x < w + p → 0 ≤ gT A p w B p x) ∨ Ent A p w B c) := by
    intro n
    induction n with
    | zero =>
      intro k hk h0
      have hk : k = w + p := by omega
      subst hk
      refine ⟨w + p, lp_r ?_, Or.inl ⟨rfl, h0⟩⟩
      (try dsimp only)
      unfold m_plays_B176
      rw [if_pos (lee (by omega))]
    | succ n ih =>
      intro k hk h0
      have sg := (hv p k (by omega) (by omega)).2
      have st : ∀ r, (if flI (gT A p w B p k) = 0 then (some (.inl (jn (k + 1))) : Option (Int32 ⊕ Int32)) else some (.inr (jn k))) = r → m_plays_B176 t (jn (w + p + 1)) (jn (w + p)) (jn k) = r := fun r hr => by
        rw [← hr]
        unfold m_plays_B176
        rw [if_neg (nle (show k < w + p by omega) (by omega)), e50, m_cell_eq, bs, gd_jn (by omega) (by omega), jn_cl (by omega), sg, nm_eq, jn_s]
      by_cases c : gT A p w B p k < 0
      · refine ⟨k, lp_r (st _ ?_), Or.inr ⟨by omega, c, h0⟩⟩
        unfold flI
        rw [if_pos c, if_neg (by decide)]
      · obtain ⟨c', k1, k2⟩ := ih (k + 1) (by omega) (fun x hx => by
          by_cases y : x = k
          · rw [y]; omega
          · exact h0 x (by omega))
        refine ⟨c', ?_, k2⟩
        rw [lp_l (st _ (by unfold flI; rw [if_neg c, if_pos rfl]))]
        exact k1
  exact run (w + p) 0 (by omega) (fun x hx => absurd hx (Nat.not_lt_zero x))
theorem levM_eq {t : St} {A : Nat → Nat → Int} {p w : Nat} (hp0 : 0 < p) (hp : p ≤ 6) (hw : w ≤ 24) (hA : ∀ c i, c < w → i < p → 0 < A c i ∧ A c i ≤ 1001) {B : Nat → Nat} (ok : OkB A p w B) (h : GM t A p w B) {col : Nat} (he : Ent A p w B col) : ∃ t' row, m_rowOf t (jn col) (jn (w + p)) = some (jn row, t') ∧ Sl [701, 702] t t' ∧ Lev A p w B col row := by
  obtain ⟨row0, l1, l2, -⟩ := lev_ex hp0 (fun c i hc hi => (hA c i hc hi).1) ok he
  have hcol := he.1
  have bp : Bp 7 = 1645504557321206042154969182557350504982735865633579863348609024 := by decide +kernel
  have e6 : (1001 : Nat) ^ 6 = 1006015020015006001 := by decide
  have bd : ∀ r c, c ≤ w + p → (gT A p w B r c).natAbs ≤ 9223372036854775808 := fun r c hc => by
    have := gT_bd hp hA ok r hc
    rw [e6] at this
    omega
  have mb : ∀ r c s d, c ≤ w + p → d ≤ w + p → (gT A p w B r c).natAbs * (gT A p w B s d).natAbs < Bp 7 := fun r c s d hc hd => by
    have := Nat.mul_le_mul (bd r c hc) (bd s d hd)
    rw [show 9223372036854775808 * 9223372036854775808 = 85070591730234615865843651857942052864 from by decide] at this
    omega
  have L := lp_cnt (b := fun x : Int32 × Int32 × St => m_rowOf_B5 (jn col) (jn (w + p)) x.1 x.2.1 x.2.2) (S := Option Nat × St) (fun i z => (onN z.1, jn i, z.2)) p
    (fun i z => Sl [701, 702] t z.2 ∧ match z.1 with
      | none => ∀ r, r < i → ¬ 0 < gT A p w B r col
      | some b => b < i ∧ 0 < gT A p w B b col ∧ ∀ r, r < i → 0 < gT A p w B r col → bet (fun r => gT A p w B r (w + p)) (fun r => gT A p w B r col) B b r)
    (fun y => ∃ o : Option Nat, y.1 = onN o ∧ Sl [701, 702] t y.2 ∧ match o with
      | none => ∀ r, r < p → ¬ 0 < gT A p w B r col
      | some b => b < p ∧ 0 < gT A p w B b col ∧ ∀ r, r < p → 0 < gT A p w B r col → bet (fun r => gT A p w B r (w + p)) (fun r => gT A p w B r col) B b r) (by
      rintro i ⟨o, s⟩ hi ⟨hs, ho⟩
      (try dsimp only at hs ho)
      have g := GM.sl hp hw h hs (by simp)
      obtain ⟨e50, hv, -, h53⟩ := g
      have sx := hv i col (by omega) (by omega)
      have nothing := isNothing_eq (t := s) (x := 402 + (31 * i + col)) (by omega) sx.1
      have start : ∀ r, (if flI (gT A p w B i col) = 0 then (if (if (gT A p w B i col).natAbs = 0 then (1 : Int32) else 0) = 0 then (if onN o = -1 then m_rowOf_J117 s (jn col) (jn (w + p)) (onN o) (jn i) (-1) else (m_cell s (jn i) (jn (w + p))).bind (fun q21 => (m_cell s (onN o) (jn col)).bind (fun q23 => (m_multiplies s (701 : Int32) ((402 : Int32) + q21) ((402 : Int32) + q23)).bind (fun q25 => (m_cell q25 (onN o) (jn (w + p))).bind (fun q27 => (m_multiplies q25 (702 : Int32) ((402 : Int32) + q27) ((402 : Int32) + jn (31 * i + col))).bind (fun q29 => (m_against q29 (701 : Int32) (702 : Int32)).bind (fun q31 => m_rowOf_J117 q29 (jn col) (jn (w + p)) (onN o) (jn i) q31))))))) else (some (.inl (onN o, jn (i + 1), s)))) else (some (.inl (onN o, jn (i + 1), s)))) = r → m_rowOf_B5 (jn col) (jn (w + p)) (onN o) (jn i) s = r := fun r hr => by
        rw [← hr]
        unfold m_rowOf_B5
        rw [e50, if_neg (nle hi (by omega)), m_cell_eq, bs, gd_jn (by omega) (by omega), jn_cl (by omega), sx.2, j402, nothing, bs, nm_eq, jn_s]
      have J143 : ∀ u : St, m_rowOf_J143 u (jn col) (jn (w + p)) (jn i) = some (.inl (jn i, jn (i + 1), u)) := fun u => by
        unfold m_rowOf_J143
        rw [nm_eq, jn_s]
      by_cases c : 0 < gT A p w B i col
      · have f0 : flI (gT A p w B i col) = 0 := if_neg (by omega)
        have n0 : ¬ (gT A p w B i col).natAbs = 0 := by omega
        cases o with
        | none =>
          refine ⟨(some i, s), start _ ?_, hs, by omega, c, fun r hr pr => ?_⟩
          · rw [if_pos f0, if_neg n0, if_pos rfl, if_pos (show onN none = -1 from rfl)]
            unfold m_rowOf_J117
            rw [if_pos (by decide), J143]
            rfl
          · by_cases z : r = i
            · rw [z]; exact Or.inr ⟨rfl, Nat.le_refl _⟩
            · exact absurd pr (ho r (by omega))
        | some b =>
          obtain ⟨b1, b2, b3⟩ := ho
          have bi := ok.2.2.2.1 i hi
          have bb := ok.2.2.2.1 b (by omega)
          have fi := ok.2.2.2.2.2 i hi
          have fb := ok.2.2.2.2.2 b (by omega)
          obtain ⟨u1, k1, k2, k3⟩ := multiplies_eq (t := s) (x := 701) (y := 402 + (31 * i + (w + p))) (z := 402 + (31 * b + col)) (by omega) (by omega) (by omega) (by omega) (by omega) (hv i (w + p) (by omega) (by omega)).1 (hv b col (by omega) (by omega)).1 (mb _ _ _ _ (Nat.le_refl _) (by omega))
          obtain ⟨u2, j1, j2, j3⟩ := multiplies_eq (t := u1) (x := 702) (y := 402 + (31 * b + (w + p))) (z := 402 + (31 * i + col)) (by omega) (by omega) (by omega) (by omega) (by omega) ((hv b (w + p) (by omega) (by omega)).1.sl1 k2 (by omega)) (sx.1.sl1 k2 (by omega)) (mb _ _ _ _ (Nat.le_refl _) (by omega))
          have ag := against_eq (t := u2) (x := 701) (y := 702) (by omega) (by omega) (k3.sl1 j2 (by omega)) j3
          have S2 : Sl [701, 702] t u2 := hs.trans ((k2.wk (by simp)).trans (j2.wk (by simp)))
          have c53 : ∀ r, r < p → gA u2 53 r = jn (B r) := fun r hr => by
            rw [(j2.1.1 53 rfl).2.2.1, (k2.1.1 53 rfl).2.2.1]; exact h53 r hr
          have X : (((gT A p w B i (w + p)).natAbs * (gT A p w B b col).natAbs : Nat) : Int) = gT A p w B i (w + p) * gT A p w B b col := (sign_eq (x := gT A p w B i (w + p)) (y := gT A p w B b col) ⟨fun z => by omega, fun z => by omega⟩).symm
          have Y : (((gT A p w B b (w + p)).natAbs * (gT A p w B i col).natAbs : Nat) : Int) = gT A p w B b (w + p) * gT A p w B i col := (sign_eq (x := gT A p w B b (w + p)) (y := gT A p w B i col) ⟨fun z => by omega, fun z => by omega⟩).symm
          have st2 : ∀ r, m_rowOf_J117 u2 (jn col) (jn (w + p)) (jn b) (jn i) (cmpV ((gT A p w B i (w + p)).natAbs * (gT A p w B b col).natAbs) ((gT A p w B b (w + p)).natAbs * (gT A p w B i col).natAbs)) = r → m_rowOf_B5 (jn col) (jn (w + p)) (onN (some b)) (jn i) s = r := fun r hr => by
            refine start r ?_
            rw [if_pos f0, if_neg n0, if_pos rfl, show onN (some b) = jn b from rfl, if_neg (jn_ne1 (by omega)), m_cell_eq, bs, m_cell_eq, bs, show (701 : Int32) = jn 701 from rfl, show (702 : Int32) = jn 702 from rfl, j402, j402, k1, bs, m_cell_eq, bs, j402, j402, j1, bs, ag, bs]
            exact hr
          have kp : bet (fun r => gT A p w B r (w + p)) (fun r => gT A p w B r col) B b i ↔ ((gT A p w B b (w + p)).natAbs * (gT A p w B i col).natAbs < (gT A p w B i (w + p)).natAbs * (gT A p w B b col).natAbs ∨ ((gT A p w B b (w + p)).natAbs * (gT A p w B i col).natAbs = (gT A p w B i (w + p)).natAbs * (gT A p w B b col).natAbs ∧ B b ≤ B i)) := by
            unfold bet
            (try dsimp only)
            rw [← X, ← Y]
            omega
          have keep : bet (fun r => gT A p w B r (w + p)) (fun r => gT A p w B r col) B b i → ∀ r, r < i + 1 → 0 < gT A p w B r col → bet (fun r => gT A p w B r (w + p)) (fun r => gT A p w B r col) B b r := fun q r hr pr => by
            by_cases z : r = i
            · rw [z]; exact q
            · exact b3 r (by omega) pr
          have new : ¬ bet (fun r => gT A p w B r (w + p)) (fun r => gT A p w B r col) B b i → ∀ r, r < i + 1 → 0 < gT A p w B r col → bet (fun r => gT A p w B r (w + p)) (fun r => gT A p w B r col) B i r := fun q r hr pr => by
            by_cases z : r = i
            · rw [z]; exact Or.inr ⟨rfl, Nat.le_refl _⟩
            · exact bet_trans c b2 pr (bet_total q) (b3 r (by omega) pr)
          generalize (gT A p w B i (w + p)).natAbs * (gT A p w B b col).natAbs = x at *
          generalize (gT A p w B b (w + p)).natAbs * (gT A p w B i col).natAbs = y at *
          rcases Nat.lt_trichotomy x y with q | q | q
          · have nb := new (fun z => by have := kp.mp z; omega)
            refine ⟨(some i, u2), st2 _ ?_, S2, by omega, c, nb⟩
            unfold m_rowOf_J117
            rw [cmp_lt q, if_pos (by decide), J143]
            rfl
          · by_cases r : B b ≤ B i
            · refine ⟨(some b, u2), st2 _ ?_, S2, by omega, b2, keep (kp.mpr (by omega))⟩
              unfold m_rowOf_J117
              rw [q, cmp_eq, if_neg (by decide), if_pos rfl, gd_jn (by omega) (by omega), gd_jn (by omega) (by omega), jn_cl (by omega), jn_cl (by omega), c53 i hi, c53 b (by omega), if_pos ((jn_le (by omega) (by omega)).mpr r), nm_eq, jn_s]
              rfl
            · have nb := new (fun z => by have := kp.mp z; omega)
              refine ⟨(some i, u2), st2 _ ?_, S2, by omega, c, nb⟩
              unfold m_rowOf_J117
              rw [q, cmp_eq, if_neg (by decide), if_pos rfl, gd_jn (by omega) (by omega), gd_jn (by omega) (by omega), jn_cl (by omega), jn_cl (by omega), c53 i hi, c53 b (by omega), if_neg (fun z => r ((jn_le (by omega) (by omega)).mp z)), J143]
              rfl
          · refine ⟨(some b, u2), st2 _ ?_, S2, by omega, b2, keep (kp.mpr (by omega))⟩
            unfold m_rowOf_J117
            rw [cmp_gt q, if_neg (by decide), if_neg (by decide), nm_eq, jn_s]
            rfl
      · refine ⟨(o, s), start _ ?_, hs, ?_⟩
        · by_cases z : gT A p w B i col < 0
          · rw [show flI (gT A p w B i col) = 1 from if_pos z, if_neg (by decide)]
          · rw [show flI (gT A p w B i col) = 0 from if_neg z, if_pos rfl, if_pos (show (gT A p w B i col).natAbs = 0 by omega), if_neg (by decide)]
        · cases o with
          | none =>
            intro r hr
            by_cases z : r = i
            · rw [z]; exact c
            · exact ho r (by omega)
          | some b =>
            obtain ⟨b1, b2, b3⟩ := ho
            refine ⟨by omega, b2, fun r hr pr => ?_⟩
            by_cases z : r = i
            · rw [z] at pr; exact absurd pr c
            · exact b3 r (by omega) pr) (by
      rintro ⟨o, s⟩ ⟨hs, ho⟩
      (try dsimp only at hs ho)
      have e50 : gI s 50 = jn p := (hs.1.1 50 rfl).1.trans h.1
      exact ⟨(onN o, s), by (try dsimp only); unfold m_rowOf_B5; rw [e50, if_pos (lee (by omega))], o, rfl, hs, ho⟩) 0 (none, t) (Nat.zero_le _) ⟨Sl.rfl, fun r hr => absurd hr (Nat.not_lt_zero r)⟩
  obtain ⟨⟨y1, y2⟩, k, o, e, k2, k3⟩ := L
  (try dsimp only at e k2)
  subst e
  cases o with
  | none => exact absurd l2 (k3 row0 l1)
  | some b =>
    obtain ⟨b1, b2, b3⟩ := k3
    refine ⟨y2, b, ?_, k2, b1, b2, b3⟩
    unfold m_rowOf
    rw [show lp (fun x : Int32 × Int32 × St => m_rowOf_B5 (jn col) (jn (w + p)) x.1 x.2.1 x.2.2) ((-1 : Int32), (0 : Int32), t) = some (onN (some b), y2) from k, bs]
    rfl
theorem runM_eq {A : Nat → Nat → Int} {p w : Nat} (hp0 : 0 < p) (hp : p ≤ 6) (hw : w ≤ 24) (hA : ∀ c i, c < w → i < p → 0 < A c i ∧ A c i ≤ 1001) {S : Nat → Nat → Nat} {cl rr : Nat → Nat} {K : Nat} (h : Run A p w S cl rr K) (fin : ∀ c, c < w + p → 0 ≤ gT A p w (S K) p c) : ∀ d k t, k + d = K → GM t A p w (S k) → ∃ t', lp (fun x : Int32 × St => m_plays_B169 (jn (w + p + 1)) (jn (w + p)) x.1 x.2) ((1 : Int32), t) = some t' ∧ fx [34, 52, 53] [] t t' ∧ GM t' A p w (S K) := by
  intro d
  induction d with
  | zero =>
    intro k t hk hg
    have hk : k = K := by omega
    subst hk
    obtain ⟨c, c1, c2⟩ := entM_eq hp hw hg
    rcases c2 with ⟨c2, -⟩ | c2
    · subst c2
      refine ⟨t, ?_, fx.rfl, hg⟩
      rw [lp_l (show (fun x : Int32 × St => m_plays_B169 (jn (w + p + 1)) (jn (w + p)) x.1 x.2) ((1 : Int32), t) = some (.inl ((0 : Int32), t)) from by
        (try dsimp only)
        unfold m_plays_B169 m_plays_J217
        rw [if_neg (by decide), c1, bs, if_pos (lee (by omega)), if_pos rfl])]
      exact lp_r (by (try dsimp only); unfold m_plays_B169; rw [if_pos rfl])
    · have := fin c c2.1
      have := c2.2.1
      omega
  | succ d ih =>
    intro k t hk hg
    obtain ⟨a, b, c⟩ := h.2 k (by omega)
    have ok := h.ok k (by omega)
    obtain ⟨col, c1, c2⟩ := entM_eq hp hw hg
    rcases c2 with ⟨-, c2⟩ | c2
    · have := c2 (cl k) a.1
      have := a.2.1
      omega
    · have ec : col = cl k := ent_one c2 a
      obtain ⟨t1, row, r1, r2, r3⟩ := levM_eq hp0 hp hw hA ok hg c2
      have er : row = rr k := by
        rw [ec] at r3
        exact lev_one ok (by rw [← ec] at r3 ⊢; exact r3) b
      have g1 := GM.sl hp hw hg r2 (by simp)
      obtain ⟨t2, u1, u2, u3⟩ := turnM_eq hp hw hA ok g1 c2 r3
      rw [ec, er, ← c] at u3
      obtain ⟨t3, v1, v2, v3⟩ := ih (k + 1) t2 (by omega) u3
      refine ⟨t3, ?_, (r2.1.wk rfl rfl : fx [34, 52, 53] [] t t1).trans (u2.trans v2), v3⟩
      have lc := c2.1
      rw [lp_l (show (fun x : Int32 × St => m_plays_B169 (jn (w + p + 1)) (jn (w + p)) x.1 x.2) ((1 : Int32), t) = some (.inl ((1 : Int32), t2)) from by
        (try dsimp only)
        unfold m_plays_B169 m_plays_J217
        rw [if_neg (by decide), c1, bs, if_neg (nle lc (by omega)), if_neg (by decide), r1, bs]
        (try dsimp only)
        rw [u1, bs])]
      exact v1
