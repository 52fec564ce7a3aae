/-! A row is read to its end. -/
def sepc (r : Nat) : Nat := if r = 0 then 38 else if r = 1 then 62 else 124
def NoSep (c : Nat → Nat) (n r p : Nat) : Prop := (p < n → c p ≠ 32) ∧ ∀ q, q ≤ r → p < n → c p ≠ sepc q
def After (c : Nat → Nat) (n : Nat) (tx0 tm0 : St) (L r p s : Nat) (tx tm : St) (p' : Nat) (tx' tm2 : St) : Prop := Rd c n tx0 tm0 tx' tm2 p' s L ∧ (nK tm ≤ nK tm2 ∧ nK tm2 + p ≤ nK tm + p') ∧ FrM tm tm2 L r ∧ FrX tx tx' s
def RowOk (c : Nat → Nat) (n : Nat) (tx0 tm0 : St) (L r p s : Nat) (tx tm : St) (rx : Option (Int32 × St)) : Prop := (∃ v tx', rx = some (v, tx') ∧ Bad tx0 tm0 tx' (rL 0 p tm)) ∨ ∃ (k : Nat) (tx' : St) (p' : Nat) (tm' : St), rx = some (jn k, tx') ∧ rL 0 p tm = rL 1 p' tm' ∧ (p < p' ∧ AgM (nK tm0) (nP tm0) tm0 tm') ∧ NoSep c n r p' ∧ ∀ v, ∃ tm2, mE r (sI tm' 25 v) = some (jn k, tm2) ∧ After c n tx0 tm0 L r p s tx tm p' tx' tm2 ∧ k < nK tm2 ∧ ∀ q, q ≤ r → gA tm2 20 (4 * L + q) = 0
def ItemOk (c : Nat → Nat) (n : Nat) (tx0 tm0 : St) (L r m p s : Nat) (tx tm : St) (rx : Option (Int32 × St)) : Prop := (∃ v tx', rx = some (v, tx') ∧ Bad tx0 tm0 tx' (rL 0 p tm)) ∨ ∃ (k : Nat) (tx' : St) (p' : Nat) (tm' : St), rx = some (jn k, tx') ∧ rL 0 p tm = rL 1 p' tm' ∧ (p < p' ∧ AgM (nK tm0) (nP tm0) tm0 tm') ∧ (1 ≤ r → NoSep c n (r - 1) p') ∧ ∀ v, ∃ tm2, mF r (sI tm' 25 v) = some tm2 ∧ After c n tx0 tm0 L r p s tx tm p' tx' tm2 ∧ k < nK tm2 ∧ (∀ q, q < r → gA tm2 20 (4 * L + q) = 0) ∧ gA tm2 20 (4 * L + r) = jn (m + 1) ∧ gA tm2 21 (50 * (4 * L + r) + m) = jn k ∧ ∀ i, i < m → gA tm2 21 (50 * (4 * L + r) + i) = gA tm 21 (50 * (4 * L + r) + i)
theorem sep_eq (t : St) {r : Nat} (hr : r ≤ 2) : x7_separator t (jn (3 - r)) = some (jn (sepc r)) := by
  rcases (show r = 0 ∨ r = 1 ∨ r = 2 by omega) with rfl | rfl | rfl
  · unfold x7_separator; rw [if_neg (by decide), if_neg (by decide)]; rfl
  · unfold x7_separator; rw [if_neg (by decide), if_pos (by decide)]; rfl
  · unfold x7_separator; rw [if_pos (by decide)]; rfl
theorem goes_sep {t u : St} {a : Int32} {r : Nat} (hr : r ≤ 2) (h : mF r (sI t 25 a) = some u) : m_goesOn (sI t 25 a) (jn (sepc r)) a = some (jn 0, u) := by
  unfold m_goesOn
  simp only [nm, sI_sI]
  rcases (show r = 0 ∨ r = 1 ∨ r = 2 by omega) with rfl | rfl | rfl
  · have : sI t 25 a = u := Option.some.inj h
    rw [if_pos (show jn (sepc 0) = 38 from rfl), this]
    rfl
  · rw [if_neg (show ¬ jn (sepc 1) = 38 by decide), if_pos (show jn (sepc 1) = 62 from rfl), endsBoth_F, h]
    rfl
  · rw [if_neg (show ¬ jn (sepc 2) = 38 by decide), if_neg (show ¬ jn (sepc 2) = 62 by decide), if_pos (show jn (sepc 2) = 124 from rfl), endsChain_F, h]
    rfl
theorem TMc_F {c : Nat → Nat} {n r : Nat} {t u : St} {v : Int32} (h : mF r (sI t 25 v) = some u) (hu : TMc c n u) : TMc c n t := (hu.bk (fx_F _ _ _ h)).bk (fx_sI (S := [25]) (T := []) rfl)
theorem chr_eq {c : Nat → Nat} {n p a : Nat} (hc : c p ≤ 127) (ha : a < 200) : chr c n p = jn a ↔ p < n ∧ c p = a := by
  unfold chr
  by_cases q : p < n
  · rw [if_pos q, jn_inj (by omega) (by omega)]
    exact ⟨fun e => ⟨q, e⟩, fun e => e.2⟩
  · rw [if_neg q]
    exact ⟨fun e => absurd e (jn_ne_m1 (by omega)), fun e => absurd e.1 q⟩
def LI (c : Nat → Nat) (n : Nat) (tx0 tm0 : St) (L r p0 s : Nat) (txe tme : St) (p m : Nat) (tx tm2 : St) : Prop := Rd c n tx0 tm0 tx tm2 p (s + m) L ∧ (nK tme ≤ nK tm2 ∧ nK tm2 + (m - 1) + p0 ≤ nK tme + p) ∧ FrM tme tm2 L r ∧ FrX txe tx s ∧ (∀ q, q < r → gA tm2 20 (4 * L + q) = 0) ∧ RowIs tx tm2 (4 * L + r) s m
theorem LI.x {c : Nat → Nat} {n : Nat} {tx0 tm0 : St} {L r p0 s : Nat} {txe tme : St} {p m : Nat} {tx tm2 tx' : St} {p' : Nat} (h : LI c n tx0 tm0 L r p0 s txe tme p m tx tm2) (hx : fx [703] [] tx tx') (h3 : gI tx' 703 = jn p') (hp : p ≤ p') (hp' : p' ≤ n) : LI c n tx0 tm0 L r p0 s txe tme p' m tx' tm2 := by
  obtain ⟨h1, h2, h4, h5, h6, h7, h8⟩ := h
  have e : gA tx' 701 = gA tx 701 := (hx.1 701 rfl).2.2.1
  refine ⟨h1.x (hx.wk rfl rfl) ((hx.1 702 rfl).1.trans h1.2.1.2.1) h3 (by have := h1.2.2.2.2.2.2.1; omega) hp hp', ⟨h2.1, by omega⟩, h4, fun i hi => ?_, h6, h7, fun i hi => ?_⟩
  · rw [e]; exact h5 i hi
  · rw [e]; exact h8 i hi
theorem row_loop (rr : RRt) {c : Nat → Nat} {n : Nat} {tx0 tm0 : St} (hn : n ≤ 80) (hc : ∀ i, c i ≤ 127) (hK0 : nK tm0 ≤ 250) {L r : Nat} (hL : L ≤ 8) (hr : r ≤ 2) (HI : ∀ p s m tx tm, Rd c n tx0 tm0 tx tm p s L → (∀ q, q < r → gA tm 20 (4 * L + q) = 0) → gA tm 20 (4 * L + r) = jn m → m ≤ 40 → ItemOk c n tx0 tm0 L r m p s tx tm (x7_readInRow rr tx (jn (3 - r)) (jn L))) {p0 s : Nat} {txe tme : St} (hbe : nK tme ≤ nK tm0 + p0) : ∀ d p m tx tm', d + p = n → 1 ≤ m → p0 ≤ p → 2 * m + p0 ≤ p + 1 → (1 ≤ r → NoSep c n (r - 1) p) → AgM (nK tm0) (nP tm0) tm0 tm' → (∀ v, ∃ tm2, mF r (sI tm' 25 v) = some tm2 ∧ LI c n tx0 tm0 L r p0 s txe tme p m tx tm2) → ∀ rx, rx = (lp (fun y : Int32 × St => x7_readRowS_B18 rr (jn (3 - r)) (jn L) (jn s) y.1 y.2) (jn m, tx)).bind (fun y => x7_readRowS_J69 rr y (jn (3 - r)) (jn s)) → (∃ v tx', rx = some (v, tx') ∧ Bad tx0 tm0 tx' (rL 1 p tm')) ∨ ∃ (k : Nat) (tx' : St) (p' : Nat) (tm'' : St), rx = some (jn k, tx') ∧ rL 1 p tm' = rL 1 p' tm'' ∧ (p ≤ p' ∧ AgM (nK tm0) (nP tm0) tm0 tm'') ∧ NoSep c n r p' ∧ ∀ v, ∃ tm2, mE r (sI tm'' 25 v) = some (jn k, tm2) ∧ After c n tx0 tm0 L r p0 s txe tme p' tx' tm2 ∧ k < nK tm2 ∧ ∀ q, q ≤ r → gA tm2 20 (4 * L + q) = 0 := by
  intro d
  induction d using Nat.strongRecOn with
  | _ d ih =>
    intro p m tx tm' hd hm hp0 hpm hns hag hv rx hrx
    obtain ⟨tm20, f0, l0⟩ := hv 0
    have R0 := l0.1
    obtain ⟨⟨a1, a2⟩, ⟨b1, b2, b3, b4, b5⟩, -, -, -, -, d4, d5⟩ := id R0
    have hT : TMc c n tm' := TMc_F f0 a2
    obtain ⟨p1, g1, g2, g3, g4, g5⟩ := nx_ok hn hc (n - p) p tx (by omega) a1 b3
    have run : rL 1 p tm' = rL 1 p1 tm' := rL_to hn hT 1 g1 g2 g3
    have hcp := hc p1
    have f1 : fx [703] [] tx (sI tx 703 (jn p1)) := fx_sI rfl
    have sr : sepc r < 200 := by unfold sepc; split; omega; split <;> omega
    by_cases q : p1 < n ∧ c p1 = sepc r
    · -- one more
      have f2 : fx [703] [] tx (sI tx 703 (jn (p1 + 1))) := fx_sI rfl
      obtain ⟨tm2, k2, l2⟩ := hv (jn p1)
      have l2' := l2.x (tx' := sI tx 703 (jn (p1 + 1))) (p' := p1 + 1) f2 rfl (by omega) (by omega)
      have n2b := l2.2.1.2
      obtain ⟨R2, n2, m2, x2, z2, c2, w2⟩ := l2'
      have it := HI (p1 + 1) (s + m) m (sI tx 703 (jn (p1 + 1))) tm2 R2 z2 c2 (by omega)
      have step : rL 1 p1 tm' = rL 0 (p1 + 1) tm2 := by
        rw [rL_1 hn hcp hT q.1 (g4 q.1) (f := 0) (by omega) (by rw [q.2]; exact goes_sep hr k2), if_pos rfl, if_neg (by
          rw [q.2]
          rcases (show r = 0 ∨ r = 1 ∨ r = 2 by omega) with rfl | rfl | rfl <;> decide)]
      have body : ∀ w tx3, x7_readInRow rr (sI tx 703 (jn (p1 + 1))) (jn (3 - r)) (jn L) = some (w, tx3) → ∀ t4, x7_hold tx3 w = some t4 → (fun y : Int32 × St => x7_readRowS_B18 rr (jn (3 - r)) (jn L) (jn s) y.1 y.2) (jn m, tx) = some (.inl (jn (m + 1), t4)) := by
        intro w tx3 k3 t4 k4
        dsimp only
        unfold x7_readRowS_B18
        rw [if_neg (show ¬ (80 : Int32) < jn m from fun e => by have := (jn_lt (a := 80) (by omega) (by omega)).mp e; omega), if_pos b4, g5, bs]
        dsimp only
        rw [sep_eq _ hr, bs, if_pos ((chr_eq hcp sr).mpr q)]
        simp only [nm]
        rw [show gI (sI tx 703 (jn p1)) 703 = jn p1 from rfl, jn_s, sI_sI, k3, bs]
        unfold x7_readRowS_J60
        dsimp only
        rw [k4, bs]
        simp only [nm, jn_s]
      rcases it with ⟨w, tx3, k3, bad⟩ | ⟨k, tx3, p3, tm3, k3, run3, ⟨lt3, ag3⟩, ns3, v3⟩
      · obtain ⟨t4, k4, bad4⟩ := bad_hold bad w
        obtain ⟨t5, k5, bad5⟩ := bad_J69 rr bad4 (s := s) (by omega) (jn (3 - r))
        refine Or.inl ⟨-1, t5, ?_, ?_⟩
        · rw [hrx, lp_l (body w tx3 k3 t4 k4), bad_B18 rr bad4, bs, k5]
        · rw [run, step]; exact bad5
      · obtain ⟨tm40, -, af40, -⟩ := v3 0
        obtain ⟨R40, -⟩ := af40
        obtain ⟨t4, k4, f4, h4a, h4b⟩ := hold_eq R40.2.1.1 R40.2.1.2.1 (by have := R40.2.2.2.2.2.2.1; have := R40.2.2.2.2.2.2.2; omega) (jn k)
        have hd4 := R40.2.2.2.2.2.2
        have := ih (n - p3) (by omega) p3 (m + 1) t4 tm3 (by omega) (by omega) (by omega) (by omega) ns3 ag3 (fun v => by
          obtain ⟨tm4, e1, ⟨R4, n4, m4, x4⟩, e2, e3, e4, e5, e6⟩ := v3 v
          refine ⟨tm4, e1, R4.x (f4.wk rfl rfl) (by rw [h4a, Nat.add_assoc]) ((f4.1 703 rfl).1.trans R4.2.1.2.2.1) (by omega) (Nat.le_refl _) hd4.2, ⟨by omega, by omega⟩, m2.trans m4, ?_, e3, e4, ?_⟩
          · intro i hi
            rw [h4b, if_neg (by omega), x4 i (by omega)]
            exact x2 i hi
          · intro i hi
            by_cases z : i = m
            · subst z
              rw [h4b, if_pos rfl, e5]
              exact ⟨rfl, k, e2, rfl⟩
            · obtain ⟨w3, k', w4, w5⟩ := w2 i (by omega)
              rw [h4b, if_neg (by omega), x4 _ (by omega), e6 i (by omega)]
              exact ⟨w3, k', by omega, w5⟩) rx (by rw [hrx, lp_l (body (jn k) tx3 k3 t4 k4)])
        rcases this with ⟨w, tx5, j1, j2⟩ | ⟨k', tx5, p5, tm5, j1, j2, j3, j4, j5⟩
        · exact Or.inl ⟨w, tx5, j1, by rw [run, step, run3]; exact j2⟩
        · exact Or.inr ⟨k', tx5, p5, tm5, j1, by rw [run, step, run3]; exact j2, ⟨by omega, j3.2⟩, j4, j5⟩
    · -- the end
      have cls : (lp (fun y : Int32 × St => x7_readRowS_B18 rr (jn (3 - r)) (jn L) (jn s) y.1 y.2) (jn m, tx)) = some (sI tx 703 (jn p1)) := by
        refine lp_r ?_
        dsimp only
        unfold x7_readRowS_B18
        rw [if_neg (show ¬ (80 : Int32) < jn m from fun e => by have := (jn_lt (a := 80) (by omega) (by omega)).mp e; omega), if_pos b4, g5, bs]
        dsimp only
        rw [sep_eq _ hr, bs, if_neg (fun e => q ((chr_eq hcp sr).mp e))]
      have fin : ∀ v, ∃ k tx' tm2 tm3, mF r (sI tm' 25 v) = some tm2 ∧ x7_readRowS_J69 rr (sI tx 703 (jn p1)) (jn (3 - r)) (jn s) = some (jn k, tx') ∧ m_ends tm2 (jn r) (jn (3 - r)) = some (jn k, tm3) ∧ After c n tx0 tm0 L r p0 s txe tme p1 tx' tm3 ∧ k < nK tm3 ∧ ∀ q, q ≤ r → gA tm3 20 (4 * L + q) = 0 := by
        intro v
        obtain ⟨tm2, k2, l2⟩ := hv v
        obtain ⟨R2, n2, m2, x2, z2, w2⟩ := l2.x (tx' := sI tx 703 (jn p1)) (p' := p1) f1 rfl g1 g2
        obtain ⟨k, tx', tm3, j1, j2, j3, j4, j5, j6, j7, j8⟩ := row_end rr hn hK0 R2 hL hr hm (by omega) w2 (by omega)
        have fe := fr_m_ends _ _ _ _ j2
        refine ⟨k, tx', tm2, tm3, k2, j1, j2, ⟨j3, ⟨?_, by omega⟩, m2.trans (FrM.of fe rfl (fun x hx => ?_)), fun i hi => ?_⟩, j4, fun q hq => ?_⟩
        · omega
        · rw [j6, j7, if_neg (by omega)]
          exact ⟨rfl, fun _ _ => rfl⟩
        · rw [j8]
          exact x2 i hi
        · rw [j6]
          by_cases e : q = r
          · rw [if_pos (by omega)]
          · rw [if_neg (by omega)]
            exact z2 q (by omega)
      obtain ⟨k, tx', tm20', tm30, -, j1, -, w4, w5, -⟩ := fin 0
      have ek0 : nK tm30 ≤ nK tm0 + p1 := w4.1.2.2.2.2.2.1
      refine Or.inr ⟨k, tx', p1, tm', by rw [hrx, cls, bs, j1], run, ⟨g1, hag⟩, ⟨g4, ?_⟩, ?_⟩
      · intro q' hq' hlt
        by_cases e : q' = r
        · subst e
          exact fun z => q ⟨hlt, z⟩
        · have e1 : p1 = p := by
            by_cases e2 : p1 = p
            · exact e2
            · exact absurd (g3 p (Nat.le_refl _) (by omega)) ((hns (by omega)).1 (by omega))
          subst e1
          exact (hns (by omega)).2 q' (by omega) hlt
      · intro v
        obtain ⟨kv, txv, tm2, tm3, v1, v2, v3, v4, v5, v6⟩ := fin v
        rw [j1] at v2
        have e1 := Option.some.inj v2
        have e2 : tx' = txv := congrArg Prod.snd e1
        have e3 : jn k = jn kv := congrArg Prod.fst e1
        have ek : nK tm3 ≤ nK tm0 + p1 := v4.1.2.2.2.2.2.1
        refine ⟨tm3, ?_, by rw [e2]; exact v4, ?_, v6⟩
        · unfold mE
          rw [v1, bs, e3]
          exact v3
        · have : k = kv := (jn_inj (by omega) (by omega)).mp e3
          omega
