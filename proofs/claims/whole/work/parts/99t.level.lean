/-! A row's end, and the rows of a level. -/
noncomputable def mF : Nat → St → Option St
  | 0, t => some t
  | r + 1, t => (mF r t).bind (fun u => (m_ends u (jn r) (jn (3 - r))).bind (fun q => m_toRow q.2 (jn (r + 1)) q.1))
noncomputable def mE (r : Nat) (t : St) : Option (Int32 × St) := (mF r t).bind (fun u => m_ends u (jn r) (jn (3 - r)))
theorem bd_id {α : Type} (x : Option α) : x.bind (fun q => some q) = x := by cases x <;> rfl
theorem endsBoth_F (t : St) : m_endsBoth t = mF 1 t := by
  unfold m_endsBoth mF mF
  simp only [bd_id]
  rfl
theorem endsChain_F (t : St) : m_endsChain t = mF 2 t := by
  unfold m_endsChain
  rw [endsBoth_F]
  show _ = (mF 1 t).bind _
  simp only [bd_id]
  rfl
theorem endsNet_E (t : St) : m_endsNet t = mE 2 t := by
  unfold m_endsNet
  rw [endsChain_F]
  unfold mE
  congr 1
  funext u
  show (m_ends u 2 1).bind _ = m_ends u 2 1
  cases m_ends u 2 1 <;> rfl
theorem fx_F : ∀ r t u, mF r t = some u → fx [7, 8, 9, 10, 11, 12, 13, 14, 15, 20, 21] [] t u := by
  intro r
  induction r with
  | zero =>
    intro t u h
    have : t = u := Option.some.inj h
    subst this
    exact fx.rfl
  | succ r ih =>
    intro t u h
    obtain ⟨a, h1, h2⟩ := bd_some h
    obtain ⟨b, h3, h4⟩ := bd_some h2
    exact ((ih t a h1).trans ((fr_m_ends a _ _ _ h3).wk rfl rfl)).trans ((fr_m_toRow _ _ _ _ h4).wk rfl rfl)
theorem fx_E {r : Nat} {t : St} {u : Int32 × St} (h : mE r t = some u) : fx [7, 8, 9, 10, 11, 12, 13, 14, 15, 20, 21] [] t u.2 := by
  obtain ⟨a, h1, h2⟩ := bd_some h
  exact (fx_F r t a h1).trans ((fr_m_ends a _ _ _ h2).wk rfl rfl)
/-- rows of other levels, and of this level above r, are as they were -/
def FrM (t u : St) (L r : Nat) : Prop := (∀ x, (x < 4 * L ∨ (4 * L + r < x ∧ x < 4 * L + 4)) → gA u 20 x = gA t 20 x ∧ ∀ i, i < 50 → gA u 21 (50 * x + i) = gA t 21 (50 * x + i)) ∧ ∀ l, l ≤ L → gA u 23 l = gA t 23 l ∧ gA u 24 l = gA t 24 l
theorem FrM.rfl {t : St} {L r : Nat} : FrM t t L r := ⟨fun _ _ => ⟨Eq.refl _, fun _ _ => Eq.refl _⟩, fun _ _ => ⟨Eq.refl _, Eq.refl _⟩⟩
theorem FrM.trans {a b c : St} {L r : Nat} (h : FrM a b L r) (g : FrM b c L r) : FrM a c L r :=
  ⟨fun x hx => ⟨(g.1 x hx).1.trans (h.1 x hx).1, fun i hi => ((g.1 x hx).2 i hi).trans ((h.1 x hx).2 i hi)⟩, fun l hl => ⟨(g.2 l hl).1.trans (h.2 l hl).1, (g.2 l hl).2.trans (h.2 l hl).2⟩⟩
theorem FrM.up {t u : St} {L r r' : Nat} (h : FrM t u L r) (hr : r ≤ r') : FrM t u L r' := ⟨fun x hx => h.1 x (by omega), h.2⟩
theorem FrM.of {t u : St} {L r : Nat} {S T : List Nat} (h : fx S T t u) (h1 : (S.elem 23 || S.elem 24) = false) (h2 : ∀ x, (x < 4 * L ∨ (4 * L + r < x ∧ x < 4 * L + 4)) → gA u 20 x = gA t 20 x ∧ ∀ i, i < 50 → gA u 21 (50 * x + i) = gA t 21 (50 * x + i)) : FrM t u L r := by
  simp only [Bool.or_eq_false_iff] at h1
  refine ⟨h2, fun l _ => ?_⟩
  rw [(h.1 23 h1.1).2.2.1, (h.1 24 h1.2).2.2.1]
  exact ⟨Eq.refl _, Eq.refl _⟩
def FrX (t u : St) (s : Nat) : Prop := ∀ i, i < s → gA u 701 i = gA t 701 i
/-- m things wait in row x, alike on both sides -/
def RowIs (tx tm : St) (x s m : Nat) : Prop := gA tm 20 x = jn m ∧ ∀ i, i < m → gA tx 701 (s + i) = gA tm 21 (50 * x + i) ∧ ∃ k, k < nK tm ∧ gA tm 21 (50 * x + i) = jn k
theorem J75_eq {t : St} {x : Nat} (hx : x < 36) (v : Int32) : m_ends_J75 t (jn x) v = some (v, sA t 20 (jn x) 0) := by
  unfold m_ends_J75
  rw [gd_jn hx (by omega)]
  simp only [nm]
theorem row_end (rr : RRt) {c : Nat → Nat} {n : Nat} {tx0 tm0 tx tm : St} (hn : n ≤ 80) (hK0 : nK tm0 ≤ 250) {p s m L r : Nat} (h : Rd c n tx0 tm0 tx tm p (s + m) L) (hL : L ≤ 8) (hr : r ≤ 2) (hm : 1 ≤ m) (hm2 : m ≤ 40) (hrow : RowIs tx tm (4 * L + r) s m) (hb : nK tm + (m - 1) ≤ nK tm0 + p) : ∃ k tx' tm', x7_readRowS_J69 rr tx (jn (3 - r)) (jn s) = some (jn k, tx') ∧ m_ends tm (jn r) (jn (3 - r)) = some (jn k, tm') ∧ Rd c n tx0 tm0 tx' tm' p s L ∧ k < nK tm' ∧ (nK tm ≤ nK tm' ∧ nK tm' ≤ nK tm + (m - 1)) ∧ (∀ x, gA tm' 20 x = if x = 4 * L + r then 0 else gA tm 20 x) ∧ gA tm' 21 = gA tm 21 ∧ gA tx' 701 = gA tx 701 := by
  obtain ⟨hc, hrows⟩ := hrow
  have hd := h
  obtain ⟨⟨a1, a2⟩, ⟨b1, b2, b3, b4, b5⟩, ⟨c1, c2, c3⟩, d1, d2, d3, d4, d5⟩ := h
  have g36 : ∀ {α : Type} (x : Option α), gd (jn (4 * L + r)) 36 x = x := fun x => gd_jn (by omega) (by omega)
  have ck : (jn (4 * L + r)).toNatClampNeg = 4 * L + r := jn_cl (by omega)
  have ftop : fx [701, 702, 703] [] tx (sI tx 702 (jn s)) := fx_sI rfl
  have hs := hd.x (tx' := sI tx 702 (jn s)) (s' := s) (p' := p) ftop rfl b3 (by omega) (by omega) d5
  have e704 : gI (sI tx 702 (jn s)) 704 = 0 := b4
  have e14 : jn (s + m) - jn s = jn m := by rw [jn_sub (by omega)]; congr 1; omega
  by_cases q : m = 1
  · subst q
    obtain ⟨w1, k, w2, w3⟩ := hrows 0 (by omega)
    refine ⟨k, sI tx 702 (jn s), sA tm 20 (jn (4 * L + r)) 0, ?_, ?_, ?_, w2, ⟨Nat.le_refl _, Nat.le_refl _⟩, ?_, rfl, rfl⟩
    · unfold x7_readRowS_J69
      simp only [nm]
      rw [b2, e14, if_pos e704, if_pos (show jn 1 = 1 from rfl), show gN (sI tx 702 (jn s)) 701 = 330 from b1, gd_jn (by omega) (by omega), jn_cl (by omega)]
      unfold x7_readRowS_J122
      show some (gA tx 701 s, _) = _
      rw [show gA tx 701 s = gA tx 701 (s + 0) from rfl, w1, w3]
    · unfold m_ends
      rw [b5, show (4 : Int32) = jn 4 from rfl, jn_mul, jn_add, show (50 : Int32) = jn 50 from rfl]
      simp only [nm]
      rw [jn_mul, gd_jn (by omega) (by omega), g36, ck, hc, if_pos (show jn 1 ≤ (1 : Int32) by decide), J75_eq (by omega), jn_cl (by omega), show gA tm 21 (50 * (4 * L + r)) = gA tm 21 (50 * (4 * L + r) + 0) from rfl, w3]
    · exact hs.m (L' := L) (fx_sA rfl) b5
    · intro x
      rw [gA_sA, ck]
      by_cases e : x = 4 * L + r
      · subst e; rw [upd_at, if_pos rfl]
      · rw [upd_ne e, if_neg e]
  · have fR : RKb 330 (sI tx 702 (jn s)) tm := hs.2.2.1.1
    obtain ⟨tx', t1, k1, k2, k3, k4, k5, k6⟩ := row_ok (tx := sI tx 702 (jn s)) (tm := tm) fR (sort := 3 - r) (need := 0) (n := m) (st := s) (x := 4 * L + r) (by omega) hm2 (by omega) (fun _ => ⟨by omega, rfl⟩) (by omega) b1 (by omega) (by omega) hc (fun i hi => hrows i hi)
    have fX := fr_x6_addRow_701 _ _ _ _ _ _ k1
    have h9 : ∀ j, gA t1 9 j = if j = nK tm then jn 0 else gA t1 9 j := by
      intro j
      by_cases e : j = nK tm
      · rw [if_pos e]
        obtain ⟨t1', z1, z2, z3, z4, -⟩ := newKnot_eq (t := tm) (K := nK tm) c1.2.1.1 (by omega) (jn (3 - r))
        rw [k2] at z1
        cases z1
        rw [z4, e, upd_at]
        rfl
      · rw [if_neg e]
    obtain ⟨tm', j1, j2, j3, j4, j5, j6⟩ := k6 t1 fx.rfl h9
    have c36 : gA tm' 20 = gA tm 20 := (j2.1 20 rfl).2.2.1
    refine ⟨nK tm, tx', sA tm' 20 (jn (4 * L + r)) 0, ?_, ?_, ?_, ?_, ?_, ?_, ?_, ?_⟩
    · unfold x7_readRowS_J69
      simp only [nm]
      rw [b2, e14, if_pos e704, if_neg (jnl (x := 1) 1 rfl q (by omega) (by omega)), show (0 : Int32) = jn 0 from rfl, k1, bs]
      rfl
    · unfold m_ends
      rw [b5, show (4 : Int32) = jn 4 from rfl, jn_mul, jn_add, show (50 : Int32) = jn 50 from rfl]
      simp only [nm]
      rw [jn_mul, gd_jn (by omega) (by omega), g36, ck, hc, if_neg (show ¬ jn m ≤ 1 from fun e => by have := (jn_le (b := 1) (by omega) (by omega)).mp e; omega), k2, bs]
      dsimp only
      rw [j1, bs, J75_eq (by omega)]
    · have hk := hs.k (tm' := tm') (fX.wk rfl rfl) (j2.wk rfl rfl) (j3.le (by omega)) j6 k5 (by omega) (by omega) (by omega) k3 k4
      exact hk.m (L' := L) (fx_sA rfl) ((j2.1 19 rfl).1.trans b5)
    · rw [nK_fr (fx_sA (S := [20]) (T := []) rfl), j4]
      omega
    · rw [nK_fr (fx_sA (S := [20]) (T := []) rfl), j4]
      omega
    · intro x
      rw [gA_sA, ck, c36]
      by_cases e : x = 4 * L + r
      · subst e; rw [upd_at, if_pos rfl]
      · rw [upd_ne e, if_neg e]
    · exact (j2.1 21 rfl).2.2.1
    · exact (fX.1 701 rfl).2.2.1
