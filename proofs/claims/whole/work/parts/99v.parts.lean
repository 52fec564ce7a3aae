/-! Rows out of items, items out of rows, parts. -/
theorem row_of_item (rr : RRt) {c : Nat → Nat} {n : Nat} {tx0 tm0 : St} (hn : n ≤ 80) (hc : ∀ i, c i ≤ 127) (hK0 : nK tm0 ≤ 250) {L r : Nat} (hL : L ≤ 8) (hr : r ≤ 2) (HI : ∀ p s m tx tm, Rd c n tx0 tm0 tx tm p s L → (∀ q, q < r → gA tm 20 (4 * L + q) = 0) → gA tm 20 (4 * L + r) = jn m → m ≤ 40 → ItemOk c n tx0 tm0 L r m p s tx tm (x7_readInRow rr tx (jn (3 - r)) (jn L))) {p s : Nat} {tx tm : St} (R : Rd c n tx0 tm0 tx tm p s L) (hz : ∀ q, q ≤ r → gA tm 20 (4 * L + q) = 0) : RowOk c n tx0 tm0 L r p s tx tm (x7_readRowS rr tx (jn (3 - r)) (jn L)) := by
  obtain ⟨⟨a1, a2⟩, ⟨b1, b2, b3, b4, b5⟩, ⟨c1, c2, c3⟩, d1, d2, d3, d4, d5⟩ := id R
  have it := HI p s 0 tx tm R (fun q hq => hz q (by omega)) (hz r (Nat.le_refl _)) (by omega)
  unfold x7_readRowS
  simp only [nm]
  rw [b2]
  rcases it with ⟨w, tx3, k3, bad⟩ | ⟨k, tx3, p3, tm3, k3, run3, ⟨lt3, ag3⟩, ns3, v3⟩
  · obtain ⟨t4, k4, bad4⟩ := bad_hold bad w
    obtain ⟨t5, k5, bad5⟩ := bad_J69 rr bad4 (s := s) (by omega) (jn (3 - r))
    refine Or.inl ⟨-1, t5, ?_, bad5⟩
    rw [k3, bs]
    unfold x7_readRowS_J12
    dsimp only
    rw [k4, bs, bad_B18 rr bad4, bs, k5]
  · obtain ⟨tm40, -, ⟨R40, -⟩, -⟩ := v3 0
    have hd4 := R40.2.2.2.2.2.2
    obtain ⟨t4, k4, f4, h4a, h4b⟩ := hold_eq R40.2.1.1 R40.2.1.2.1 (by omega) (jn k)
    rw [k3, bs]
    unfold x7_readRowS_J12
    dsimp only
    rw [k4, bs]
    have := row_loop rr hn hc hK0 hL hr HI (p0 := p) (s := s) (txe := tx) (tme := tm) d3 (n - p3) p3 1 t4 tm3 (by omega) (Nat.le_refl _) (by omega) (by omega) ns3 ag3 (fun v => by
      obtain ⟨tm4, e1, ⟨R4, n4, m4, x4⟩, e2, e3, e4, e5, e6⟩ := v3 v
      refine ⟨tm4, e1, R4.x (f4.wk rfl rfl) h4a ((f4.1 703 rfl).1.trans R4.2.1.2.2.1) (by omega) (Nat.le_refl _) hd4.2, ⟨by omega, by omega⟩, m4, ?_, e3, e4, ?_⟩
      · intro i hi
        rw [h4b, if_neg (by omega)]
        exact x4 i hi
      · intro i hi
        have : i = 0 := by omega
        subst this
        rw [h4b, if_pos (show s + 0 = s from rfl), e5]
        exact ⟨rfl, k, e2, rfl⟩) _ rfl
    rcases this with ⟨w, tx5, j1, j2⟩ | ⟨k', tx5, p5, tm5, j1, j2, j3, j4, j5⟩
    · exact Or.inl ⟨w, tx5, j1, by rw [run3]; exact j2⟩
    · exact Or.inr ⟨k', tx5, p5, tm5, j1, by rw [run3]; exact j2, ⟨by omega, j3.2⟩, j4, j5⟩
theorem mF_E (r : Nat) (t : St) : mF (r + 1) t = (mE r t).bind (fun q => m_toRow q.2 (jn (r + 1)) q.1) := by
  unfold mE
  rw [Option.bind_assoc]
  rfl
theorem item_of_row {c : Nat → Nat} {n : Nat} {tx0 tm0 : St} {L r m p s : Nat} {tx tm : St} {rx : Option (Int32 × St)} (hL : L ≤ 8) (hr : r ≤ 2) (hm : gA tm 20 (4 * L + (r + 1)) = jn m) (hm2 : m ≤ 40) (h : RowOk c n tx0 tm0 L r p s tx tm rx) : ItemOk c n tx0 tm0 L (r + 1) m p s tx tm rx := by
  rcases h with bad | ⟨k, tx', p', tm', h1, h2, h3, h4, h5⟩
  · exact Or.inl bad
  · refine Or.inr ⟨k, tx', p', tm', h1, h2, h3, fun _ => h4, fun v => ?_⟩
    obtain ⟨tm2, e1, ⟨R2, n2, m2, x2⟩, e3, e4⟩ := h5 v
    have hx := m2.1 (4 * L + (r + 1)) (by omega)
    obtain ⟨t3, j1, j2, j3, j4⟩ := toRow_eq (t := tm2) (L := L) (r := r + 1) (m := m) R2.2.1.2.2.2.2 hL (by omega) (hx.1.trans hm) (by omega) (jn k)
    refine ⟨t3, by rw [mF_E, e1, bs]; exact j1, ⟨R2.m (j2.wk rfl rfl) ((j2.1 19 rfl).1.trans R2.2.1.2.2.2.2), ?_, (m2.up (by omega)).trans (FrM.of j2 rfl fun x hx => ?_), x2⟩, ?_, ?_, ?_, ?_, ?_⟩
    · rw [nK_fr j2]; exact n2
    · rw [j3, if_neg (by omega)]
      exact ⟨rfl, fun i hi => by rw [j4, if_neg (by omega)]⟩
    · rw [nK_fr j2]; exact e3
    · intro q hq
      rw [j3, if_neg (by omega)]
      exact e4 q (by omega)
    · rw [j3, if_pos rfl]
    · rw [j4, if_pos rfl]
    · intro i hi
      rw [j4, if_neg (by omega)]
      exact hx.2 i (by omega)
theorem inRow_row (rr : RRt) (tx : St) {r : Nat} (hr : r ≤ 1) (a2 : Int32) : x7_readInRow rr tx (jn (3 - (r + 1))) a2 = rr tx (jn (3 - r)) a2 := by
  unfold x7_readInRow x7_readInRow_J21
  rcases (show r = 0 ∨ r = 1 by omega) with rfl | rfl
  · rw [if_neg (by decide), show jn (3 - (0 + 1)) + 1 = jn (3 - 0) from rfl]
    cases rr tx (jn (3 - 0)) a2 <;> rfl
  · rw [if_neg (by decide), show jn (3 - (1 + 1)) + 1 = jn (3 - 1) from rfl]
    cases rr tx (jn (3 - 1)) a2 <;> rfl
theorem inRow_part (rr : RRt) (tx : St) (a2 : Int32) : x7_readInRow rr tx (jn (3 - 0)) a2 = x7_readPart rr tx a2 := by
  unfold x7_readInRow x7_readInRow_J10 x7_readInRow_J21
  rw [if_pos (by decide)]
  cases x7_readPart rr tx a2 <;> rfl
theorem item0 {c : Nat → Nat} {n : Nat} {tx0 tm0 : St} {L m p s : Nat} {tx tm : St} {rx : Option (Int32 × St)} {k p' : Nat} {tx' tm' : St} (h1 : rx = some (jn k, tx')) (run : rL 0 p tm = rL 1 p' tm') (hp : p < p') (R : Rd c n tx0 tm0 tx' tm' p' s L) (hn : nK tm ≤ nK tm' ∧ nK tm' + p ≤ nK tm + p') (hF : FrM tm tm' L 0) (hX : FrX tx tx' s) (hk : k < nK tm') (h20 : gA tm' 20 (4 * L) = jn (m + 1)) (h21 : gA tm' 21 (50 * (4 * L) + m) = jn k) (hel : ∀ i, i < m → gA tm' 21 (50 * (4 * L) + i) = gA tm 21 (50 * (4 * L) + i)) : ItemOk c n tx0 tm0 L 0 m p s tx tm rx := by
  refine Or.inr ⟨k, tx', p', tm', h1, run, ⟨hp, R.2.2.1.2.2.1⟩, fun h => absurd h (by omega), fun v => ⟨sI tm' 25 v, rfl, ⟨R.m (fx_sI rfl) R.2.1.2.2.2.2, hn, hF, hX⟩, hk, fun q hq => absurd hq (by omega), h20, h21, hel⟩⟩
theorem in_T {t : St} {k lo hi : Nat} (h : lo ≤ k ∧ k ≤ hi) (hk : k < 2147483648) (hh : hi < 2147483648) : m_in t (jn k) (jn lo) (jn hi) = some 1 := iT h.1 h.2 hh t
theorem in_F {t : St} {k lo hi : Nat} (h : ¬ (lo ≤ k ∧ k ≤ hi)) (hk : k < 2147483648) (hl : lo < 2147483648) (hh : hi < 2147483648) : m_in t (jn k) (jn lo) (jn hi) = some 0 := iF (fun e => h ⟨(jn_le hl hk).mp e.1, (jn_le hk hh).mp e.2⟩) t
/-- a new level -/
theorem opens_eq {t : St} {L : Nat} (hL : gI t 19 + 1 = jn L) (hL8 : L ≤ 8) (b : Bool) : ∃ t', m_opens t (if b then 1 else 0) = some t' ∧ fx [19, 20, 24] [] t t' ∧ gI t' 19 = jn L ∧ (∀ l, gA t' 24 l = if l = L then (if b then 1 else 0) else gA t 24 l) ∧ ∀ x, gA t' 20 x = if 4 * L ≤ x ∧ x < 4 * L + 4 then 0 else gA t 20 x := by
  generalize ht1 : sA (sI t 19 (jn L)) 24 (jn L) (vp_nar .boolean (if b then 1 else 0)) = t1
  have f1 : fx [19, 20, 24] [] t t1 := by subst ht1; exact (fx_sI rfl).trans (fx_sA rfl)
  have i19 : gI t1 19 = jn L := by subst ht1; rfl
  have a24 : ∀ l, gA t1 24 l = if l = L then (if b then 1 else 0) else gA t 24 l := by
    subst ht1
    intro l
    rw [gA_sA, jn_cl (by omega)]
    by_cases q : l = L
    · subst q; rw [upd_at, if_pos rfl]; cases b <;> rfl
    · rw [upd_ne q, if_neg q]; rfl
  have k := lp_cnt (b := fun y : Int32 × St => m_opens_B22 y.1 y.2) (fun i s => (jn i, s)) 4
    (fun i s => fx [20] [] t1 s ∧ ∀ x, gA s 20 x = if 4 * L ≤ x ∧ x < 4 * L + i then 0 else gA t 20 x)
    (fun s => fx [20] [] t1 s ∧ ∀ x, gA s 20 x = if 4 * L ≤ x ∧ x < 4 * L + 4 then 0 else gA t 20 x) (by
      rintro i s hi ⟨hf, h1⟩
      dsimp only
      unfold m_opens_B22
      rw [if_neg (show ¬ (4 : Int32) ≤ jn i from fun e => by have := (jn_le (a := 4) (by omega) (by omega)).mp e; omega), (hf.1 19 rfl).1, i19, show (4 : Int32) = jn 4 from rfl, jn_mul, jn_add, gd_jn (by omega) (by omega)]
      simp only [nm, jn_s]
      refine ⟨_, rfl, hf.trans (fx_sA rfl), ?_⟩
      intro x
      rw [gA_sA, jn_cl (by omega)]
      by_cases q : x = 4 * L + i
      · subst q; rw [upd_at, if_pos (by omega)]
      · rw [upd_ne q, h1]
        by_cases z : 4 * L ≤ x ∧ x < 4 * L + i
        · rw [if_pos z, if_pos (by omega)]
        · rw [if_neg z, if_neg (by omega)]) (by
      rintro s hs
      refine ⟨s, ?_, hs⟩
      dsimp only
      unfold m_opens_B22
      rw [if_pos (by decide)]) 0 t1 (by omega) ⟨fx.rfl, fun x => by
        rw [if_neg (by omega), (show gA t1 20 = gA t 20 by subst ht1; rfl)]⟩
  obtain ⟨t', k1, f2, v2⟩ := k
  refine ⟨t', ?_, f1.trans (f2.wk rfl rfl), (f2.1 19 rfl).1.trans i19, fun l => by rw [(f2.1 24 rfl).2.2.1]; exact a24 l, v2⟩
  unfold m_opens
  simp only [nm]
  rw [hL, show gI (sI t 19 (jn L)) 19 = jn L from rfl, gd_jn (by omega) (by omega), ht1, show (0 : Int32) = jn 0 from rfl, k1, bs]
theorem closes_eq {t : St} {L m : Nat} (hL : gI t 19 = jn (L + 1)) (hL8 : L ≤ 8) (hm : gA t 20 (4 * L) = jn m) (hm2 : m < 50) (k : Nat) : ∃ t', m_closes t (jn k) = some t' ∧ fx [19, 20, 21] [] t t' ∧ gI t' 19 = jn L ∧ (∀ j, gA t' 20 j = if j = 4 * L then jn (m + 1) else gA t 20 j) ∧ ∀ j, gA t' 21 j = if j = 50 * (4 * L) + m then jn k else gA t 21 j := by
  unfold m_closes
  simp only [nm]
  have e : jn (L + 1) - 1 = jn L := jn_sub (a := L + 1) (b := 1) (by omega)
  rw [hL, e]
  obtain ⟨t', k1, f1, v1, v2⟩ := toRow_eq (t := sI t 19 (jn L)) (L := L) (r := 0) (m := m) rfl hL8 (by omega) hm hm2 (jn k)
  refine ⟨t', ?_, (fx_sI (S := [19, 20, 21]) (T := []) (k := 19) (v := jn L) rfl).trans (f1.wk rfl rfl), (f1.1 19 rfl).1, v1, v2⟩
  rw [show (0 : Int32) = jn 0 from rfl, k1, bs]
