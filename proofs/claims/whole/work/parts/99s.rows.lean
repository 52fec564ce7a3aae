/-! Rows that wait, in the class and in the reference. -/
theorem toRow_eq {t : St} {L r m : Nat} (hL : gI t 19 = jn L) (hL8 : L ≤ 8) (hr : r ≤ 3) (hm : gA t 20 (4 * L + r) = jn m) (hm2 : m < 50) (v : Int32) : ∃ t', m_toRow t (jn r) v = some t' ∧ fx [20, 21] [] t t' ∧ (∀ j, gA t' 20 j = if j = 4 * L + r then jn (m + 1) else gA t 20 j) ∧ ∀ j, gA t' 21 j = if j = 50 * (4 * L + r) + m then v else gA t 21 j := by
  have g : ∀ {α : Type} (x : Option α), gd (jn (4 * L + r)) 36 x = x := fun x => gd_jn (by omega) (by omega)
  have ck : (jn (4 * L + r)).toNatClampNeg = 4 * L + r := jn_cl (by omega)
  unfold m_toRow
  rw [hL, show (4 : Int32) = jn 4 from rfl, jn_mul, jn_add]
  simp only [nm, g, ck]
  rw [hm, show (50 : Int32) = jn 50 from rfl, jn_mul, jn_add, gd_jn (by omega) (by omega)]
  refine ⟨_, rfl, (fx_sA rfl).trans (fx_sA rfl), ?_, ?_⟩
  · intro j
    show upd (gA t 20) (jn (4 * L + r)).toNatClampNeg (gA t 20 (4 * L + r) + 1) j = _
    rw [ck, hm, jn_s]
    by_cases q : j = 4 * L + r
    · subst q; rw [upd_at, if_pos rfl]
    · rw [upd_ne q, if_neg q]
  · intro j
    show upd (gA t 21) (jn (50 * (4 * L + r) + m)).toNatClampNeg v j = _
    rw [jn_cl (by omega)]
    by_cases q : j = 50 * (4 * L + r) + m
    · subst q; rw [upd_at, if_pos rfl]
    · rw [upd_ne q, if_neg q]
theorem hold_eq {t : St} {s : Nat} (h1 : gN t 701 = 330) (h2 : gI t 702 = jn s) (hs : s < 330) (v : Int32) : ∃ t', x7_hold t v = some t' ∧ fx [701, 702] [] t t' ∧ gI t' 702 = jn (s + 1) ∧ ∀ j, gA t' 701 j = if j = s then v else gA t 701 j := by
  unfold x7_hold
  rw [h1, h2, if_pos ((jn_lt (by omega) (by omega)).mpr hs), gd_jn hs (by omega)]
  simp only [nm]
  refine ⟨_, rfl, (fx_sA rfl).trans (fx_sI rfl), ?_, ?_⟩
  · show gI t 702 + 1 = _
    rw [h2, jn_s]
  · intro j
    show upd (gA t 701) (jn s).toNatClampNeg v j = _
    rw [jn_cl (by omega)]
    by_cases q : j = s
    · subst q; rw [upd_at, if_pos rfl]
    · rw [upd_ne q, if_neg q]
/-- what lay there before the reading is there still -/
def Low (tx0 tm0 tx tm : St) : Prop := AgM (nK tm0) (nP tm0) tm0 tm ∧ AgX (nK tm0) (nP tm0) tx0 tx ∧ nP tm0 ≤ gN tx 608 ∧ 512 ≤ gN tx 608 ∧ gN tx 608 ≤ 40000 ∧ gN tx 9001 + 2 * gN tx0 608 ≤ gN tx0 9001 + 2 * gN tx 608 ∧ gN tx 9000 + gN tx0 608 ≤ gN tx0 9000 + gN tx 608
theorem Low.fr {tx0 tm0 tx tm tx' tm' : St} {S T S' T' : List Nat} (h : Low tx0 tm0 tx tm) (hx : fx S T tx tx') (hm : fx S' T' tm tm') (h1 : (S.elem 603 || S.elem 604 || S.elem 605 || S.elem 606 || S.elem 607 || S.elem 608) = false := by rfl) (h2 : (T.elem 608 || T.elem 9000 || T.elem 9001) = false := by rfl) (h3 : (S'.elem 8 || S'.elem 9 || S'.elem 10 || S'.elem 11 || S'.elem 12 || S'.elem 14 || S'.elem 15) = false := by rfl) : Low tx0 tm0 tx' tm' := by
  simp only [Bool.or_eq_false_iff] at h2
  refine ⟨h.1.trans (AgM.of hm h3) (Nat.le_refl _) (Nat.le_refl _), h.2.1.trans (AgX.of hx h1) (Nat.le_refl _) (Nat.le_refl _), ?_⟩
  rw [hx.2 608 h2.1.1, hx.2 9000 h2.1.2, hx.2 9001 h2.2]
  exact h.2.2
theorem RN.up {S T S' T' : List Nat} {tx tm tx' tm' : St} (h : RN tx tm) (hx : fx S T tx tx') (hm : fx S' T' tm tm') (hk : nK tm ≤ nK tm') (h1 : S.elem 602 = false := by rfl) (h2 : T.elem 602 = false := by rfl) (h3 : S'.elem 16 = false := by rfl) : RN tx' tm' := by
  unfold RN at *
  rw [hx.2 602 h2, (hx.1 602 h1).2.2.1, (hm.1 16 h3).2.2.1]
  refine ⟨h.1, fun n hn => ⟨(h.2 n hn).1, ?_⟩⟩
  rcases (h.2 n hn).2 with e | ⟨k, e1, e2⟩
  · exact Or.inl e
  · exact Or.inr ⟨k, by omega, e2⟩
/-- both sides, in the midst of the text: place p, s that wait, level L -/
def Rd (c : Nat → Nat) (n : Nat) (tx0 tm0 tx tm : St) (p s L : Nat) : Prop := (TXc c n tx ∧ TMc c n tm) ∧ (gN tx 701 = 330 ∧ gI tx 702 = jn s ∧ gI tx 703 = jn p ∧ gI tx 704 = 0 ∧ gI tm 19 = jn L) ∧ (RKb 330 tx tm ∧ RN tx tm ∧ Low tx0 tm0 tx tm) ∧ nK tm0 ≤ nK tm ∧ nP tm0 ≤ nP tm ∧ nK tm ≤ nK tm0 + p ∧ s ≤ p ∧ p ≤ n
theorem Rd.x {c : Nat → Nat} {n : Nat} {tx0 tm0 tx tm tx' : St} {p s L p' s' : Nat} (h : Rd c n tx0 tm0 tx tm p s L) (hx : fx [701, 702, 703] [] tx tx') (h2 : gI tx' 702 = jn s') (h3 : gI tx' 703 = jn p') (hs : s' ≤ p') (hp : p ≤ p') (hp' : p' ≤ n) : Rd c n tx0 tm0 tx' tm p' s' L := by
  obtain ⟨⟨a1, a2⟩, ⟨b1, b2, b3, b4, b5⟩, ⟨c1, c2, c3⟩, d1, d2, d3, d4, d5⟩ := h
  refine ⟨⟨a1.fr hx, a2⟩, ⟨(hx.2 701 rfl).trans b1, h2, h3, (hx.1 704 rfl).1.trans b4, b5⟩, ⟨c1.fr hx (fx.rfl (S := []) (T := [])), c2.fr hx (fx.rfl (S := []) (T := [])), c3.fr hx (fx.rfl (S := []) (T := []))⟩, d1, d2, by omega, hs, hp'⟩
theorem nK_fr {S T : List Nat} {t t' : St} (h : fx S T t t') (h1 : S.elem 7 = false := by rfl) : nK t' = nK t := by unfold nK; rw [(h.1 7 h1).1]
theorem nP_fr {S T : List Nat} {t t' : St} (h : fx S T t t') (h1 : S.elem 13 = false := by rfl) : nP t' = nP t := by unfold nP; rw [(h.1 13 h1).1]
theorem Rd.m {c : Nat → Nat} {n : Nat} {tx0 tm0 tx tm tm' : St} {p s L L' : Nat} (h : Rd c n tx0 tm0 tx tm p s L) (hm : fx [19, 20, 21, 22, 23, 24, 25, 26] [] tm tm') (h19 : gI tm' 19 = jn L') : Rd c n tx0 tm0 tx tm' p s L' := by
  obtain ⟨⟨a1, a2⟩, ⟨b1, b2, b3, b4, b5⟩, ⟨c1, c2, c3⟩, d1, d2, d3, d4, d5⟩ := h
  refine ⟨⟨a1, a2.fr hm⟩, ⟨b1, b2, b3, b4, h19⟩, ⟨c1.fr (fx.rfl (S := []) (T := [])) hm, c2.fr (fx.rfl (S := []) (T := [])) hm, c3.fr (fx.rfl (S := []) (T := [])) hm⟩, ?_, ?_, ?_, d4, d5⟩
  · rw [nK_fr hm]; exact d1
  · rw [nP_fr hm]; exact d2
  · rw [nK_fr hm]; exact d3
theorem Rd.k {c : Nat → Nat} {n : Nat} {tx0 tm0 tx tm tx' tm' : St} {p s L : Nat} (h : Rd c n tx0 tm0 tx tm p s L) (hx : fx [603, 604, 605, 606, 607, 608, 609, 610] [608, 9000, 9001] tx tx') (hm : fx [7, 8, 9, 10, 11, 12, 13, 14, 15, 20, 21] [] tm tm') (hK : RKb 330 tx' tm') (aM : AgM (nK tm) (nP tm) tm tm') (aX : AgX (nK tm) (nP tm) tx tx') (k1 : nK tm ≤ nK tm') (k2 : nP tm ≤ nP tm') (k3 : nK tm' ≤ nK tm0 + p) (m1 : gN tx' 9001 + 2 * gN tx 608 ≤ gN tx 9001 + 2 * gN tx' 608) (m2 : gN tx' 9000 + gN tx 608 ≤ gN tx 9000 + gN tx' 608) : Rd c n tx0 tm0 tx' tm' p s L := by
  obtain ⟨⟨a1, a2⟩, ⟨b1, b2, b3, b4, b5⟩, ⟨c1, c2, l1, l2, l3, l4, l5, l6, l7⟩, d1, d2, d3, d4, d5⟩ := h
  obtain ⟨-, -, ⟨-, -, -, q4, q5, q6⟩, -⟩ := id hK
  exact ⟨⟨a1.fr hx, a2.fr hm⟩, ⟨(hx.2 701 rfl).trans b1, (hx.1 702 rfl).1.trans b2, (hx.1 703 rfl).1.trans b3, (hx.1 704 rfl).1.trans b4, (hm.1 19 rfl).1.trans b5⟩, ⟨hK, c2.up hx hm k1, l1.trans aM d1 d2, l2.trans aX d1 d2, by omega, q5, q6, by omega, by omega⟩, by omega, by omega, k3, d4, d5⟩
/-- a fault that both sides tell -/
def Bad (tx0 tm0 tx' : St) (run : Option (Int32 × St)) : Prop := ∃ (q at_ s' : Nat) (tm' : St), 1 ≤ q ∧ q ≤ 7 ∧ at_ ≤ 80 ∧ gI tx' 704 = jn (10 * at_ + q) ∧ run = some (jn q, tm') ∧ gI tm' 25 = jn at_ ∧ s' ≤ 330 ∧ gI tx' 702 = jn s' ∧ gN tx' 701 = 330 ∧ Low tx0 tm0 tx' tm'
theorem Bad.ne {tx0 tm0 tx' : St} {run : Option (Int32 × St)} (h : Bad tx0 tm0 tx' run) : ¬ gI tx' 704 = 0 := by
  obtain ⟨q, at_, s', tm', h1, h2, h3, h4, -⟩ := h
  rw [h4]
  exact jn_nz (by omega) (by omega)
theorem bad_hold {tx0 tm0 tx' : St} {run : Option (Int32 × St)} (h : Bad tx0 tm0 tx' run) (v : Int32) : ∃ t, x7_hold tx' v = some t ∧ Bad tx0 tm0 t run := by
  obtain ⟨q, at_, s', tm', h1, h2, h3, h4, h5, h6, h7, h8, h9, h10⟩ := h
  by_cases e : s' < 330
  · obtain ⟨t, k, f, v1, v2⟩ := hold_eq h9 h8 e v
    exact ⟨t, k, q, at_, s' + 1, tm', h1, h2, h3, (f.1 704 rfl).1.trans h4, h5, h6, e, v1, (f.2 701 rfl).trans h9, h10.fr f (fx.rfl (S := []) (T := []))⟩
  · refine ⟨tx', ?_, q, at_, s', tm', h1, h2, h3, h4, h5, h6, h7, h8, h9, h10⟩
    unfold x7_hold
    rw [h9, h8, if_neg (fun e2 => e ((jn_lt (by omega) (by omega)).mp e2))]
theorem bad_top {tx0 tm0 tx' : St} {run : Option (Int32 × St)} (h : Bad tx0 tm0 tx' run) {s : Nat} (hs : s ≤ 330) : Bad tx0 tm0 (sI tx' 702 (jn s)) run := by
  obtain ⟨q, at_, s', tm', h1, h2, h3, h4, h5, h6, h7, h8, h9, h10⟩ := h
  exact ⟨q, at_, s, tm', h1, h2, h3, h4, h5, h6, hs, rfl, h9, h10.fr (fx_sI (S := [702]) (T := []) rfl) (fx.rfl (S := []) (T := []))⟩
theorem bad_J69 (rr : RRt) {tx0 tm0 tx' : St} {run : Option (Int32 × St)} (h : Bad tx0 tm0 tx' run) {s : Nat} (hs : s ≤ 330) (v1 : Int32) : ∃ t, x7_readRowS_J69 rr tx' v1 (jn s) = some (-1, t) ∧ Bad tx0 tm0 t run := by
  refine ⟨sI tx' 702 (jn s), ?_, bad_top h hs⟩
  unfold x7_readRowS_J69
  simp only [nm]
  rw [if_neg (show ¬ gI (sI tx' 702 (jn s)) 704 = 0 from h.ne)]
theorem bad_B18 (rr : RRt) {tx0 tm0 tx' : St} {run : Option (Int32 × St)} (h : Bad tx0 tm0 tx' run) (v1 v2 v3 x : Int32) : lp (fun y : Int32 × St => x7_readRowS_B18 rr v1 v2 v3 y.1 y.2) (x, tx') = some tx' := by
  refine lp_r ?_
  dsimp only
  unfold x7_readRowS_B18
  rw [if_neg h.ne]
  split <;> rfl
theorem bad_B56 (rr : RRt) {tx0 tm0 tx' : St} {run : Option (Int32 × St)} (h : Bad tx0 tm0 tx' run) (v1 v2 v3 v4 x : Int32) : lp (fun y : Int32 × St => x7_readSome_B56 rr v1 v2 v3 v4 y.1 y.2) (x, tx') = some tx' := by
  refine lp_r ?_
  dsimp only
  unfold x7_readSome_B56
  rw [if_neg h.ne]
  split <;> rfl
theorem bad_J126 (rr : RRt) {tx0 tm0 tx' : St} {run : Option (Int32 × St)} (h : Bad tx0 tm0 tx' run) {s : Nat} (hs : s ≤ 330) (v2 v3 : Int32) : ∃ t, x7_readSome_J126 rr tx' v2 v3 (jn s) = some (-1, t) ∧ Bad tx0 tm0 t run := by
  refine ⟨sI tx' 702 (jn s), ?_, bad_top h hs⟩
  unfold x7_readSome_J126
  simp only [nm]
  rw [if_neg (show ¬ gI (sI tx' 702 (jn s)) 704 = 0 from h.ne)]
/-- a fault told here -/
theorem Rd.bad {c : Nat → Nat} {n : Nat} {tx0 tm0 tx tm tm' : St} {p s L q at_ : Nat} (h : Rd c n tx0 tm0 tx tm p s L) (hn : n ≤ 80) (hq : 1 ≤ q ∧ q ≤ 7) (ha : at_ ≤ 80) {run : Option (Int32 × St)} (hr : run = some (jn q, tm')) (h25 : gI tm' 25 = jn at_) (hl : AgM (nK tm) (nP tm) tm tm') : Bad tx0 tm0 (sI tx 704 (jn (10 * at_ + q))) run := by
  obtain ⟨⟨a1, a2⟩, ⟨b1, b2, b3, b4, b5⟩, ⟨c1, c2, c3⟩, d1, d2, d3, d4, d5⟩ := h
  have l := c3.fr (fx_sI (S := [704]) (T := []) (k := 704) (v := jn (10 * at_ + q)) rfl) (fx.rfl (S := []) (T := []))
  exact ⟨q, at_, s, tm', hq.1, hq.2, ha, rfl, hr, h25, by omega, b2, b1, l.1.trans hl d1 d2, l.2⟩
theorem refuse_eq (t : St) (a q : Nat) : x7_refuse t (jn a) (jn q) = some (-1, sI t 704 (jn (10 * a + q))) := by
  unfold x7_refuse
  simp only [nm]
  rw [show (10 : Int32) = jn 10 from rfl, jn_mul, jn_add]
theorem nx_again {c : Nat → Nat} {n : Nat} (hn : n ≤ 80) (hc : ∀ i, c i ≤ 127) {p : Nat} {t : St} (hp : p ≤ n) (ht : TXc c n t) (h3 : gI t 703 = jn p) (h : p < n → c p ≠ 32) : x7_next t = some (chr c n p, t) := by
  obtain ⟨p', g1, g2, g3, g4, g5⟩ := nx_ok hn hc (n - p) p t (by omega) ht h3
  have : p' = p := by
    by_cases e : p' = p
    · exact e
    · exact absurd (g3 p (Nat.le_refl _) (by omega)) (h (by omega))
  subst this
  rw [g5, sI_id h3]
theorem refuseHere_eq {c : Nat → Nat} {n : Nat} (hn : n ≤ 80) (hc : ∀ i, c i ≤ 127) {p : Nat} {t : St} (hp : p ≤ n) (ht : TXc c n t) (h3 : gI t 703 = jn p) (h : p < n → c p ≠ 32) : x7_refuseHere t = some (-1, sI t 704 (jn (10 * p + if p < n then 1 else 2))) := by
  unfold x7_refuseHere
  rw [nx_again hn hc hp ht h3 h, bs]
  unfold x7_refuseHere_J17 chr
  have := hc p
  by_cases e : p < n
  · simp only [if_pos e]
    rw [if_pos (jn_nn (by omega)), h3, show x7_refuse t (jn p) 1 = _ from refuse_eq t p 1, bs]
  · simp only [if_neg e]
    rw [if_neg (by decide), h3, show x7_refuse t (jn p) 2 = _ from refuse_eq t p 2, bs]
