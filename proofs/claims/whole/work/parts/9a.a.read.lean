/-! The whole text. -/
theorem part_all (rr : RRt) {c : Nat → Nat} {n : Nat} {tx0 tm0 : St} (hn : n ≤ 80) (hc : ∀ i, c i ≤ 127) (hK0 : nK tm0 ≤ 250) {L : Nat} (hL : L ≤ 8) (IH : L < 8 → ∀ p s tx tm, Rd c n tx0 tm0 tx tm p s (L + 1) → (∀ q, q ≤ 2 → gA tm 20 (4 * (L + 1) + q) = 0) → RowOk c n tx0 tm0 (L + 1) 2 p s tx tm (rr tx (jn (3 - 2)) (jn (L + 1)))) {p s m : Nat} {tx tm : St} (R : Rd c n tx0 tm0 tx tm p s L) (hm : gA tm 20 (4 * L) = jn m) (hm2 : m ≤ 40) : ItemOk c n tx0 tm0 L 0 m p s tx tm (x7_readPart rr tx (jn L)) := by
  obtain ⟨⟨a1, a2⟩, ⟨b1, b2, b3, b4, b5⟩, -, -, -, -, d4, d5⟩ := id R
  obtain ⟨p1, g1, g2, g3, g4, g5⟩ := nx_ok hn hc (n - p) p tx (by omega) a1 b3
  have run : rL 0 p tm = rL 0 p1 tm := rL_to hn a2 0 g1 g2 g3
  have R1 := R.x (tx' := sI tx 703 (jn p1)) (s' := s) (p' := p1) (fx_sI rfl) b2 rfl (by omega) g1 g2
  by_cases q1 : p1 < n ∧ 97 ≤ c p1 ∧ c p1 ≤ 112
  · exact part_letter rr hn hc hK0 hL R1 g1 run hm hm2 q1.1 q1.2.1 q1.2.2 g5
  by_cases q2 : p1 < n ∧ 48 ≤ c p1 ∧ c p1 ≤ 57
  · exact part_digit rr hn hc hK0 hL R1 g1 run hm hm2 q2.1 q2.2.1 q2.2.2 g5
  by_cases q3 : p1 < n ∧ (c p1 = 40 ∨ c p1 = 91)
  · by_cases q4 : L < 8
    · rcases q3.2 with e | e
      · exact part_inside rr hn hc hK0 q4 R1 g1 run hm hm2 q3.1 e g5 (IH q4)
      · exact part_some rr hn hc hK0 q4 R1 g1 run hm hm2 q3.1 e g5 (IH q4)
    · have : L = 8 := by omega
      subst this
      exact part_deep rr hn hc R1 run q3.1 q3.2 g5
  · exact part_wrong rr hn hc R1 run g4 (fun h e => q1 ⟨h, e⟩) (fun h e => q2 ⟨h, e⟩) (fun h => ⟨fun e => q3 ⟨h, Or.inl e⟩, fun e => q3 ⟨h, Or.inr e⟩⟩) g5
theorem row_all {c : Nat → Nat} {n : Nat} {tx0 tm0 : St} (hn : n ≤ 80) (hc : ∀ i, c i ≤ 127) (hK0 : nK tm0 ≤ 250) : ∀ N L r, L ≤ 8 → r ≤ 2 → 3 * (8 - L) + 1 + r ≤ N → ∀ p s tx tm, Rd c n tx0 tm0 tx tm p s L → (∀ q, q ≤ r → gA tm 20 (4 * L + q) = 0) → RowOk c n tx0 tm0 L r p s tx tm (x7_readRow N tx (jn (3 - r)) (jn L)) := by
  intro N
  induction N with
  | zero => intro L r _ _ h; omega
  | succ N ih =>
    intro L r hL hr hN p s tx tm R hz
    show RowOk c n tx0 tm0 L r p s tx tm (x7_readRowS (x7_readRow N) tx (jn (3 - r)) (jn L))
    refine row_of_item (x7_readRow N) hn hc hK0 hL hr ?_ R hz
    intro p s m tx tm R hz hm hm2
    cases r with
    | zero =>
      rw [inRow_part]
      exact part_all (x7_readRow N) hn hc hK0 hL (fun q p s tx tm => ih (L + 1) 2 (by omega) (by omega) (by omega) p s tx tm) R hm hm2
    | succ r =>
      rw [inRow_row (x7_readRow N) tx (by omega)]
      exact item_of_row hL (by omega) hm hm2 (ih L r hL (by omega) (by omega) p s tx tm R (fun q hq => hz q (by omega)))
/-- the fault of a text, told by both -/
def TextBad (tx tm : St) (rx rm : Option (Int32 × St)) : Prop := ∃ (v : Int32) (q at_ : Nat) (tx' tm' : St), rx = some (v, tx') ∧ rm = some (jn q, tm') ∧ 1 ≤ q ∧ q ≤ 7 ∧ at_ ≤ 80 ∧ gI tx' 704 = jn (10 * at_ + q) ∧ gI tm' 25 = jn at_ ∧ gI tx' 609 = gI tx 609 ∧ gI tx' 610 = gI tx 610 ∧ Low tx tm tx' tm'
def TextOk (tx tm : St) (rx rm : Option (Int32 × St)) : Prop := ∃ (k : Nat) (tx' tm' : St), rx = some (jn k, tx') ∧ rm = some (0, tm') ∧ gI tx' 704 = 0 ∧ gI tm' 26 = jn k ∧ k < nK tm' ∧ RK tx' tm' ∧ RN tx' tm' ∧ nK tm ≤ nK tm' ∧ nP tm ≤ nP tm' ∧ Low tx tm tx' tm'
theorem text_bad {tx tm t : St} {run : Option (Int32 × St)} (h : Bad tx tm t run) (v : Int32) : TextBad tx tm (x7_readText_J37 t (gI tx 609) (gI tx 610) v) run := by
  have hne := h.ne
  obtain ⟨q, at_, s', tm', h1, h2, h3, h4, h5, h6, h7, h8, h9, h10⟩ := h
  refine ⟨v, q, at_, sI (sI t 609 (gI tx 609)) 610 (gI tx 610), tm', ?_, h5, h1, h2, h3, h4, h6, rfl, rfl, h10.fr (S := [609, 610]) (T := []) ((fx_sI rfl).trans (fx_sI rfl)) (fx.rfl (S := []) (T := []))⟩
  unfold x7_readText_J37 x7_readText_J62 x7_readText_J96
  rw [if_neg hne, if_neg hne, if_neg hne]
  rfl
theorem text_bad2 {tx tm t : St} {run : Option (Int32 × St)} (h : Bad tx tm t run) (v : Int32) : TextBad tx tm (x7_readText_J62 t (gI tx 609) (gI tx 610) v) run := by
  have := text_bad h v
  unfold x7_readText_J37 at this
  rw [if_neg h.ne] at this
  exact this
theorem text_bad3 {tx tm t : St} {run : Option (Int32 × St)} (h : Bad tx tm t run) (v : Int32) : TextBad tx tm (x7_readText_J96 t (gI tx 609) (gI tx 610) v) run := by
  have := text_bad2 h v
  unfold x7_readText_J62 at this
  rw [if_neg h.ne] at this
  exact this
theorem text_ok {c : Nat → Nat} {n : Nat} {tx tm : St} (hn : n ≤ 80) (hc : ∀ i, c i ≤ 127) (hK : RK tx tm) (hN : RN tx tm) (h701 : gN tx 701 = 330) (a1 : TXc c n tx) (a2 : TMc c n tm) : TextBad tx tm (x7_readText tx) (m_reads tm) ∨ TextOk tx tm (x7_readText tx) (m_reads tm) := by
  have hK0 := nK_lt hK
  obtain ⟨tmo, k1, f1, v19, v24, v20⟩ := opens_eq (t := sI tm 19 (-1)) (L := 0) (by show (-1 : Int32) + 1 = jn 0; decide) (by omega) false
  have fm : fx [19, 20, 24] [] tm tmo := (fx_sI rfl).trans (f1.wk rfl rfl)
  generalize ht : sI (sI (sI tx 702 0) 703 0) 704 0 = t
  have ft : fx [702, 703, 704] [] tx t := by subst ht; exact ((fx_sI rfl).trans (fx_sI rfl)).trans (fx_sI rfl)
  have i2 : gI t 702 = jn 0 := by subst ht; rfl
  have i3 : gI t 703 = jn 0 := by subst ht; rfl
  have i4 : gI t 704 = 0 := by subst ht; rfl
  have low : Low tx tm tx tm := ⟨AgM.rfl, AgX.rfl, hK.2.2.1.2.2.2.1, hK.2.2.1.2.2.2.2.1, hK.2.2.1.2.2.2.2.2, Nat.le_refl _, Nat.le_refl _⟩
  have R : Rd c n tx tm t tmo 0 0 0 := ⟨⟨a1.fr ft, a2.fr fm⟩, ⟨(ft.2 701 rfl).trans h701, i2, i3, i4, v19⟩, ⟨((RK_RKb hK).fr ft fm).le (by rw [nK_fr fm]; omega), hN.fr ft fm, low.fr ft fm⟩, by rw [nK_fr fm]; omega, by rw [nP_fr fm]; omega, by rw [nK_fr fm]; omega, Nat.le_refl _, Nat.zero_le _⟩
  have row := row_all hn hc hK0 30 0 2 (by omega) (by omega) (by omega) 0 0 t tmo R (fun q hq => by rw [v20, if_pos (by omega)])
  have em : m_reads tm = rL 0 0 tmo := by rw [m_reads_rL, show (0 : Int32) = (if false then 1 else 0 : Int32) from rfl, k1, bs]
  have ex : x7_readText tx = (x7_readRow 30 t (jn (3 - 2)) (jn 0)).bind (fun q => x7_readText_J37 q.2 (gI tx 609) (gI tx 610) q.1) := by
    unfold x7_readText
    simp only [nm]
    rw [ht]
    rfl
  rw [em, ex]
  rcases row with ⟨v, tx', e, bad⟩ | ⟨k, tx', p', tm', e, run, ⟨-, ag⟩, ns, hv⟩
  · rw [e, bs]
    exact Or.inl (text_bad bad v)
  · rw [e, bs, run]
    obtain ⟨tm2, e2, ⟨R2, n2, m2, x2⟩, hk, -⟩ := hv (jn p')
    obtain ⟨⟨b1, b2⟩, ⟨c1, c2, c3, c4, c5⟩, ⟨d1, d2, d3⟩, w1, w2, w3, w4, w5⟩ := id R2
    have fE := fx_E e2
    have hT : TMc c n tm' := (b2.bk fE).bk (fx_sI (S := [25]) (T := []) rfl)
    have e19 : gI (sI tm' 25 (jn p')) 19 = jn 0 := (fE.1 19 rfl).1.symm.trans c5
    have nx := nx_again hn hc w5 b1 c3 ns.1
    have hcp := hc p'
    have j37 : ∀ v, x7_readText_J37 tx' (gI tx 609) (gI tx 610) v = if chr c n p' < 0 then x7_readText_J62 tx' (gI tx 609) (gI tx 610) v else x7_readText_J62 (sI tx' 704 (jn (10 * p' + 1))) (gI tx 609) (gI tx 610) v := by
      intro v
      unfold x7_readText_J37
      rw [if_pos c4, nx, bs]
      dsimp only
      rw [c3, show (1 : Int32) = jn 1 from rfl, refuse_eq, bs]
    rw [j37]
    by_cases z : p' < n
    · left
      have z1 : ¬ chr c n p' < 0 := by
        rw [(chr_eq (a := c p') hcp (by omega)).mpr ⟨z, rfl⟩]
        exact jnlt (x := 0) 0 rfl (by omega) (by omega)
      rw [if_neg z1]
      refine text_bad2 (R2.bad2 (tm' := sI tm' 25 (jn p')) (q := 1) (at_ := p') hn (by omega) (by omega) ?_ rfl (ag.trans (AgM.of (fx_sI (S := [25]) (T := []) rfl)) (Nat.le_refl _) (Nat.le_refl _))) _
      have s0 := ns.2 0 (by omega) z
      have s1 := ns.2 1 (by omega) z
      have s2 := ns.2 2 (by omega) z
      rw [show sepc 0 = 38 from rfl] at s0
      rw [show sepc 1 = 62 from rfl] at s1
      rw [show sepc 2 = 124 from rfl] at s2
      rw [rL_1 (f := 1) hn hcp hT z (ns.1 z) (by omega) (t' := sI tm' 25 (jn p')), if_neg (by omega)]
      unfold m_goesOn
      simp only [nm, sI_sI]
      have j84 : m_goesOn_J84 (sI tm' 25 (jn p')) (jn (c p')) = some (1, sI tm' 25 (jn p')) := by
        unfold m_goesOn_J84
        rw [e19, if_pos (by decide)]
      have j72 : m_goesOn_J72 (sI tm' 25 (jn p')) (jn (c p')) = some (1, sI tm' 25 (jn p')) := by
        unfold m_goesOn_J72
        rw [j84]
        split
        · rfl
        · split <;> rfl
      rw [if_neg (jnl (x := 38) 38 rfl s0 (by omega) (by omega)), if_neg (jnl (x := 62) 62 rfl s1 (by omega) (by omega)), if_neg (jnl (x := 124) 124 rfl s2 (by omega) (by omega)), e19, if_pos (show jn 0 ≤ (0 : Int32) by decide), j72]
      split <;> rfl
    · have en : p' = n := by omega
      subst en
      have z1 : chr c p' p' < 0 := by
        unfold chr
        rw [if_neg z]
        decide
      rw [if_pos z1]
      have hm7 : gI tm2 7 = jn (nK tm2) := d1.2.1.1
      have h9 : gI tx' 609 = jn (nK tm2) := d1.2.1.2.2.trans hm7
      have k330 : nK tm2 ≤ 330 := d1.2.1.2.1
      have rr : rL 1 p' tm' = (if nK tm2 ≤ 250 then some (0, sI tm2 26 (jn k)) else some (6, sI tm2 26 (jn k))) := by
        rw [rL_end hn hT]
        unfold rK
        simp only [Sum.elim, nm]
        rw [hT.1, if_pos (show jn 1 = 1 from rfl), e19, if_pos (show jn 0 ≤ (0 : Int32) by decide), endsNet_E, e2, bs]
        dsimp only
        rw [show gI (sI tm2 26 (jn k)) 7 = jn (nK tm2) from hm7]
        by_cases y : nK tm2 ≤ 250
        · rw [if_pos y, if_pos (jle (x := 250) 250 rfl y (by omega))]
        · rw [if_neg y, if_neg (jnle (x := 250) 250 rfl (by omega) (by omega))]
      rw [rr]
      unfold x7_readText_J62
      rw [if_pos c4, h9]
      by_cases y : nK tm2 ≤ 250
      · right
        rw [if_pos y, if_pos (jle (x := 250) 250 rfl y (by omega))]
        unfold x7_readText_J96
        rw [if_pos c4]
        have f26 : fx [26] [] tm2 (sI tm2 26 (jn k)) := fx_sI rfl
        exact ⟨k, tx', sI tm2 26 (jn k), rfl, rfl, c4, rfl, hk, (RKb_RK (d1.le y)).fr (fx.rfl (S := []) (T := [])) f26, d2.fr (fx.rfl (S := []) (T := [])) f26, w1, w2, d3.fr (fx.rfl (S := []) (T := [])) f26⟩
      · left
        rw [if_neg y, if_neg (jnle (x := 250) 250 rfl (by omega) (by omega)), b1.2.1, show (6 : Int32) = jn 6 from rfl, refuse_eq, bs]
        dsimp only
        refine text_bad3 (R2.bad2 (tm' := sI tm2 26 (jn k)) (q := 6) (at_ := p') hn (by omega) (by omega) rfl ?_ ?_) _
        · show gI tm2 25 = jn p'
          rw [(fE.1 25 rfl).1]
          rfl
        · exact d3.1.trans (AgM.of (fx_sI (S := [26]) (T := []) rfl)) (Nat.le_refl _) (Nat.le_refl _)
