/-! Parts: a letter, a digit, a row in brackets. -/
theorem jlt {a : Nat} (m : Nat) {x : Int32} (hx : x = jn m) (h : a < m) (hm : m < 2147483648) : jn a < x := by
  rw [hx]
  exact (jn_lt (by omega) hm).mpr h
theorem jnlt {a : Nat} (m : Nat) {x : Int32} (hx : x = jn m) (h : m ≤ a) (ha : a < 2147483648) : ¬ jn a < x := by
  rw [hx]
  exact fun e => by have := (jn_lt ha (by omega)).mp e; omega
theorem jgt {a : Nat} (m : Nat) {x : Int32} (hx : x = jn m) (h : m < a) (ha : a < 2147483648) : x < jn a := by
  rw [hx]
  exact (jn_lt (by omega) ha).mpr h
theorem jngt {a : Nat} (m : Nat) {x : Int32} (hx : x = jn m) (h : a ≤ m) (hm : m < 2147483648) : ¬ x < jn a := by
  rw [hx]
  exact fun e => by have := (jn_lt hm (by omega)).mp e; omega
theorem jle {a : Nat} (m : Nat) {x : Int32} (hx : x = jn m) (h : a ≤ m) (hm : m < 2147483648) : jn a ≤ x := by
  rw [hx]
  exact (jn_le (by omega) hm).mpr h
theorem jnle {a : Nat} (m : Nat) {x : Int32} (hx : x = jn m) (h : m < a) (ha : a < 2147483648) : ¬ jn a ≤ x := by
  rw [hx]
  exact fun e => by have := (jn_le ha (by omega)).mp e; omega
theorem part_letter (rr : RRt) {c : Nat → Nat} {n : Nat} {tx0 tm0 : St} (hn : n ≤ 80) (hc : ∀ i, c i ≤ 127) (hK0 : nK tm0 ≤ 250) {L m p p1 s : Nat} {tx tm : St} (hL : L ≤ 8) (R : Rd c n tx0 tm0 (sI tx 703 (jn p1)) tm p1 s L) (hp : p ≤ p1) (run : rL 0 p tm = rL 0 p1 tm) (hm : gA tm 20 (4 * L) = jn m) (hm2 : m ≤ 40) (h1 : p1 < n) (h2 : 97 ≤ c p1) (h3 : c p1 ≤ 112) (hnx : x7_next tx = some (chr c n p1, sI tx 703 (jn p1))) : ItemOk c n tx0 tm0 L 0 m p s tx tm (x7_readPart rr tx (jn L)) := by
  have hcp := hc p1
  obtain ⟨⟨a1, a2⟩, ⟨b1, b2, b3, b4, b5⟩, ⟨c1, c2, c3⟩, d1, d2, d3, d4, d5⟩ := id R
  have Rx := R.x (tx' := sI tx 703 (jn (p1 + 1))) (s' := s) (p' := p1 + 1) (by
    rw [show sI tx 703 (jn (p1 + 1)) = sI (sI tx 703 (jn p1)) 703 (jn (p1 + 1)) from sI_sI.symm]
    exact fx_sI rfl) b2 rfl (by omega) (by omega) (by omega)
  have R2 := Rx.m (tm' := sI tm 25 (jn p1)) (L' := L) (fx_sI rfl) b5
  have nk : nK (sI tm 25 (jn p1)) = nK tm := nK_fr (fx_sI (S := [25]) (T := []) rfl)
  obtain ⟨tx', t1, k1, k2, k3⟩ := letter_ok R2.2.2.1.1 (Nat.le_refl _) (q := c p1 - 97) (by omega) (by rw [nk]; omega)
  obtain ⟨k4, k5, k6, k7, k8⟩ := k3 _ rfl
  have fX : fx [603, 604, 605, 606, 607, 608, 609, 610] [608, 9000, 9001] (sI tx 703 (jn (p1 + 1))) tx' := (fr_x6_addLetter _ _ _ k1).wk rfl rfl
  have fM := fr_m_newKnot _ _ _ k2
  rw [nk] at k1 k2 k3 k4 k5 k7 k8
  rw [nk] at k6
  generalize ht2 : sA (sA t1 10 (jn (nK tm)) (jn (c p1 - 97))) 15 (jn (nK tm)) ((1 : Int32) <<< (jn (c p1 - 97) &&& 31)) = t2 at k4 k5 k6 k7
  have f3 : fx [7, 8, 9, 10, 11, 12, 13, 14, 15] [] (sI tm 25 (jn p1)) t2 := by
    subst ht2
    exact ((fM.wk rfl rfl).trans (fx_sA rfl)).trans (fx_sA rfl)
  have f2 : fx [7, 8, 9, 10, 11, 12, 13, 14, 15, 20, 21] [] (sI tm 25 (jn p1)) t2 := f3.wk rfl rfl
  have R3 := R2.k (tm' := t2) fX f2 (k4.le (by omega)) (by rw [nk]; exact k7) (by rw [nk]; exact k8) (by rw [nk]; omega) (by omega) (by omega) (by
    rw [(fr_x6_addLetter _ _ _ k1).2 608 rfl, (fr_x6_addLetter _ _ _ k1).2 9001 rfl]; exact Nat.le_refl _) (by
    rw [(fr_x6_addLetter _ _ _ k1).2 608 rfl, (fr_x6_addLetter _ _ _ k1).2 9000 rfl]; exact Nat.le_refl _)
  have g20 : gA t2 20 = gA tm 20 := (f3.1 20 rfl).2.2.1
  have g21 : gA t2 21 = gA tm 21 := (f3.1 21 rfl).2.2.1
  obtain ⟨t3, j1, j2, j3, j4⟩ := toRow_eq (t := t2) (L := L) (r := 0) (m := m) R3.2.1.2.2.2.2 hL (by omega) (by rw [g20]; exact hm) (by omega) (jn (nK tm))
  have e97 : jn (c p1) - 97 = jn (c p1 - 97) := jn_sub (b := 97) h2
  refine item0 (k := nK tm) (p' := p1 + 1) (tx' := tx') (tm' := t3) ?_ ?_ (by omega) (R3.m (L' := L) (j2.wk rfl rfl) ((j2.1 19 rfl).1.trans R3.2.1.2.2.2.2)) (by rw [nK_fr j2, k5]; omega) ?_ ?_ (by rw [nK_fr j2, k5]; omega) (by rw [j3, if_pos (by omega)]) (by rw [j4, if_pos (by omega)]) (fun i hi => by rw [j4, if_neg (by omega), g21])
  · unfold x7_readPart
    rw [hnx, bs]
    dsimp only
    rw [(chr_eq (a := c p1) hcp (by omega)).mpr ⟨h1, rfl⟩, if_neg (jnlt (x := 97) 97 rfl (by omega) (by omega)), if_neg (jngt (x := 112) 112 rfl (by omega) (by omega))]
    simp only [nm]
    rw [show gI (sI tx 703 (jn p1)) 703 = jn p1 from rfl, jn_s, sI_sI, e97, k1, bs]
  · rw [run, rL_0 (f := 0) hn hcp a2 h1 (by omega) (by omega) (t' := t3), if_pos rfl, if_neg (by omega), if_neg (by omega)]
    unfold m_opensPart
    rw [show m_in (sI tm 25 (jn p1)) (jn (c p1)) 97 112 = some 1 from in_T (lo := 97) (hi := 112) ⟨h2, h3⟩ (by omega) (by omega), bs, if_neg (by decide), k2, bs]
    simp only [nm]
    rw [e97, gd_jn (by omega) (by omega), gd_jn (by omega) (by omega), ht2, show m_toRow t2 0 (jn (nK tm)) = _ from j1, bs]
    rfl
  · refine FrM.of (S := [7, 8, 9, 10, 11, 12, 13, 14, 15, 20, 21, 25]) (T := []) (((fx_sI (t := tm) (k := 25) (v := jn p1) rfl).trans (f2.wk rfl rfl)).trans (j2.wk rfl rfl)) rfl (fun x hx => ?_)
    rw [j3, if_neg (by omega), g20]
    exact ⟨rfl, fun i hi => by rw [j4, if_neg (by omega), g21]⟩
  · intro i hi
    rw [(fX.1 701 rfl).2.2.1]
    rfl
theorem part_digit (rr : RRt) {c : Nat → Nat} {n : Nat} {tx0 tm0 : St} (hn : n ≤ 80) (hc : ∀ i, c i ≤ 127) (hK0 : nK tm0 ≤ 250) {L m p p1 s : Nat} {tx tm : St} (hL : L ≤ 8) (R : Rd c n tx0 tm0 (sI tx 703 (jn p1)) tm p1 s L) (hp : p ≤ p1) (run : rL 0 p tm = rL 0 p1 tm) (hm : gA tm 20 (4 * L) = jn m) (hm2 : m ≤ 40) (h1 : p1 < n) (h2 : 48 ≤ c p1) (h3 : c p1 ≤ 57) (hnx : x7_next tx = some (chr c n p1, sI tx 703 (jn p1))) : ItemOk c n tx0 tm0 L 0 m p s tx tm (x7_readPart rr tx (jn L)) := by
  have hcp := hc p1
  obtain ⟨⟨a1, a2⟩, ⟨b1, b2, b3, b4, b5⟩, ⟨c1, c2, c3⟩, d1, d2, d3, d4, d5⟩ := id R
  have e48 : jn (c p1) - 48 = jn (c p1 - 48) := jn_sub (b := 48) h2
  have cw : (jn (c p1 - 48)).toNatClampNeg = c p1 - 48 := jn_cl (by omega)
  have g10 : ∀ {α : Type} (x : Option α), gd (jn (c p1 - 48)) 10 x = x := fun x => gd_jn (by omega) (by omega)
  have n602 : gN (sI tx 703 (jn p1)) 602 = 10 := c2.1
  obtain ⟨v1, v2⟩ := c2.2 (c p1 - 48) (by omega)
  have cls : x7_readPart rr tx (jn L) = (x7_readDigit (sI tx 703 (jn p1)) (jn (c p1 - 48))).bind (fun q16 => some (q16.1, q16.2)) := by
    unfold x7_readPart
    rw [hnx, bs]
    dsimp only
    rw [(chr_eq (a := c p1) hcp (by omega)).mpr ⟨h1, rfl⟩, if_pos (jlt (x := 97) 97 rfl (by omega) (by omega))]
    unfold x7_readPart_J39
    rw [if_neg (jnlt (x := 48) 48 rfl (by omega) (by omega)), if_neg (jngt (x := 57) 57 rfl (by omega) (by omega)), e48]
  have i97 : m_in (sI tm 25 (jn p1)) (jn (c p1)) 97 112 = some 0 := in_F (lo := 97) (hi := 112) (by omega) (by omega) (by omega) (by omega)
  have i48 : m_in (sI tm 25 (jn p1)) (jn (c p1)) 48 57 = some 1 := in_T (lo := 48) (hi := 57) ⟨h2, h3⟩ (by omega) (by omega)
  have g16 : gA (sI tm 25 (jn p1)) 16 = gA tm 16 := rfl
  rw [cls]
  unfold x7_readDigit
  rw [n602]
  simp only [g10, cw]
  rcases v2 with e | ⟨k, hk, e⟩
  · -- no such net
    refine Or.inl ⟨-1, sI (sI tx 703 (jn p1)) 704 (jn (10 * p1 + 3)), ?_, R.bad (tm' := sI tm 25 (jn p1)) (q := 3) (at_ := p1) hn (by omega) (by omega) ?_ rfl (AgM.of (fx_sI (S := [25]) (T := []) rfl))⟩
    · rw [v1, e, if_neg (by decide), show gI (sI tx 703 (jn p1)) 703 = jn p1 from rfl, show x7_refuse (sI tx 703 (jn p1)) (jn p1) 3 = _ from refuse_eq _ p1 3]
      rfl
    · rw [run, rL_0 (f := 3) hn hcp a2 h1 (by omega) (by omega) (t' := sI tm 25 (jn p1)), if_neg (by omega)]
      unfold m_opensPart
      rw [i97, bs, if_pos rfl, i48, bs, if_neg (by decide), e48, g10, cw, g16, e, if_pos rfl]
      rfl
  · have Rx := R.x (tx' := sI tx 703 (jn (p1 + 1))) (s' := s) (p' := p1 + 1) (by
      rw [show sI tx 703 (jn (p1 + 1)) = sI (sI tx 703 (jn p1)) 703 (jn (p1 + 1)) from sI_sI.symm]
      exact fx_sI rfl) b2 rfl (by omega) (by omega) (by omega)
    have nk : nK (sI tm 25 (jn p1)) = nK tm := nK_fr (fx_sI (S := [25]) (T := []) rfl)
    have R2 := Rx.m (tm' := sI tm 25 (jn p1)) (L' := L) (fx_sI rfl) b5
    obtain ⟨t3, j1, j2, j3, j4⟩ := toRow_eq (t := sI tm 25 (jn p1)) (L := L) (r := 0) (m := m) b5 hL (by omega) hm (by omega) (jn k)
    refine item0 (k := k) (p' := p1 + 1) (tx' := sI tx 703 (jn (p1 + 1))) (tm' := t3) ?_ ?_ (by omega) (R2.m (L' := L) (j2.wk rfl rfl) ((j2.1 19 rfl).1.trans b5)) (by rw [nK_fr j2, nk]; omega) ?_ ?_ (by rw [nK_fr j2, nk]; omega) (by rw [j3, if_pos (by omega)]) (by rw [j4, if_pos (by omega)]) (fun i hi => by rw [j4, if_neg (by omega)]; rfl)
    · rw [v1, e, if_pos (jn_nn (by omega))]
      simp only [nm]
      rw [show gI (sI tx 703 (jn p1)) 703 = jn p1 from rfl, jn_s, sI_sI, show gN (sI tx 703 (jn (p1 + 1))) 602 = 10 from c2.1, g10, show gA (sI tx 703 (jn (p1 + 1))) 602 (c p1 - 48) = jn k from v1.trans e, bs]
    · rw [run, rL_0 (f := 0) hn hcp a2 h1 (by omega) (by omega) (t' := t3), if_pos rfl, if_neg (by omega), if_neg (by omega)]
      unfold m_opensPart
      rw [i97, bs, if_pos rfl, i48, bs, if_neg (by decide), e48, g10, cw, g16, e, if_neg (jn_ne1 (by omega)), g10, show m_toRow (sI tm 25 (jn p1)) 0 (jn k) = _ from j1, bs]
      rfl
    · refine FrM.of (S := [20, 21, 25]) (T := []) ((fx_sI (t := tm) (k := 25) (v := jn p1) rfl).trans (j2.wk rfl rfl)) rfl (fun x hx => ?_)
      rw [j3, if_neg (by omega)]
      exact ⟨rfl, fun i hi => by rw [j4, if_neg (by omega)]; rfl⟩
    · intro i hi
      rfl
/-- neither letter nor digit nor bracket -/
theorem part_wrong (rr : RRt) {c : Nat → Nat} {n : Nat} {tx0 tm0 : St} (hn : n ≤ 80) (hc : ∀ i, c i ≤ 127) {L m p p1 s : Nat} {tx tm : St} (R : Rd c n tx0 tm0 (sI tx 703 (jn p1)) tm p1 s L) (run : rL 0 p tm = rL 0 p1 tm) (h0 : p1 < n → c p1 ≠ 32) (h1 : p1 < n → ¬ (97 ≤ c p1 ∧ c p1 ≤ 112)) (h2 : p1 < n → ¬ (48 ≤ c p1 ∧ c p1 ≤ 57)) (h3 : p1 < n → c p1 ≠ 40 ∧ c p1 ≠ 91) (hnx : x7_next tx = some (chr c n p1, sI tx 703 (jn p1))) : ItemOk c n tx0 tm0 L 0 m p s tx tm (x7_readPart rr tx (jn L)) := by
  have hcp := hc p1
  obtain ⟨⟨a1, a2⟩, ⟨b1, b2, b3, b4, b5⟩, ⟨c1, c2, c3⟩, d1, d2, d3, d4, d5⟩ := id R
  have rh := refuseHere_eq hn hc d5 a1 b3 h0
  have cls : x7_readPart rr tx (jn L) = some (-1, sI (sI tx 703 (jn p1)) 704 (jn (10 * p1 + if p1 < n then 1 else 2))) := by
    unfold x7_readPart
    rw [hnx, bs]
    dsimp only
    have j60 : x7_readPart_J60 rr (sI tx 703 (jn p1)) (jn L) (chr c n p1) = some (-1, sI (sI tx 703 (jn p1)) 704 (jn (10 * p1 + if p1 < n then 1 else 2))) := by
      unfold x7_readPart_J60
      rw [if_neg (fun e => by have := (chr_eq (a := 40) hcp (by omega)).mp e; exact (h3 this.1).1 this.2), if_neg (fun e => by have := (chr_eq (a := 91) hcp (by omega)).mp e; exact (h3 this.1).2 this.2), rh, bs]
    have j39 : x7_readPart_J39 rr (sI tx 703 (jn p1)) (jn L) (chr c n p1) = some (-1, sI (sI tx 703 (jn p1)) 704 (jn (10 * p1 + if p1 < n then 1 else 2))) := by
      unfold x7_readPart_J39
      rw [j60]
      by_cases q : p1 < n
      · rw [(chr_eq (a := c p1) hcp (by omega)).mpr ⟨q, rfl⟩]
        have := h2 q
        by_cases z : c p1 < 48
        · rw [if_pos (jlt (x := 48) 48 rfl z (by omega))]
        · rw [if_neg (jnlt (x := 48) 48 rfl (by omega) (by omega)), if_pos (jgt (x := 57) 57 rfl (by omega) (by omega))]
      · have : chr c n p1 = -1 := by unfold chr; rw [if_neg q]
        rw [this, if_pos (by decide)]
    by_cases q : p1 < n
    · have e1 := (chr_eq (a := c p1) hcp (by omega)).mpr ⟨q, rfl⟩
      have := h1 q
      by_cases z : c p1 < 97
      · rw [j39, e1, if_pos (jlt (x := 97) 97 rfl z (by omega))]
      · rw [j39, e1, if_neg (jnlt (x := 97) 97 rfl (by omega) (by omega)), if_pos (jgt (x := 112) 112 rfl (by omega) (by omega))]
    · have : chr c n p1 = -1 := by unfold chr; rw [if_neg q]
      rw [j39, this, if_pos (by decide)]
  rw [cls]
  refine Or.inl ⟨-1, _, rfl, R.bad (tm' := sI tm 25 (jn p1)) (q := if p1 < n then 1 else 2) (at_ := p1) hn (by split <;> omega) (by omega) ?_ rfl (AgM.of (fx_sI (S := [25]) (T := []) rfl))⟩
  rw [run]
  by_cases q : p1 < n
  · have := h1 q
    have := h2 q
    have := h3 q
    rw [rL_0 (f := 1) hn hcp a2 q (h0 q) (by omega) (t' := sI tm 25 (jn p1)), if_neg (by omega), if_pos q]
    unfold m_opensPart
    rw [show m_in (sI tm 25 (jn p1)) (jn (c p1)) 97 112 = some 0 from in_F (lo := 97) (hi := 112) (by omega) (by omega) (by omega) (by omega), bs, if_pos rfl, show m_in (sI tm 25 (jn p1)) (jn (c p1)) 48 57 = some 0 from in_F (lo := 48) (hi := 57) (by omega) (by omega) (by omega) (by omega), bs, if_pos rfl, if_neg (jnl (x := 40) 40 rfl (by omega) (by omega) (by omega)), if_neg (jnl (x := 91) 91 rfl (by omega) (by omega) (by omega))]
    rfl
  · have : p1 = n := by omega
    subst this
    rw [rL_end hn a2, if_neg q]
    unfold rK
    simp only [Sum.elim, nm]
    rw [if_neg (show ¬ jn 0 = 1 by decide), a2.1]
    rfl
/-- too deep -/
theorem part_deep (rr : RRt) {c : Nat → Nat} {n : Nat} {tx0 tm0 : St} (hn : n ≤ 80) (hc : ∀ i, c i ≤ 127) {m p p1 s : Nat} {tx tm : St} (R : Rd c n tx0 tm0 (sI tx 703 (jn p1)) tm p1 s 8) (run : rL 0 p tm = rL 0 p1 tm) (h1 : p1 < n) (h3 : c p1 = 40 ∨ c p1 = 91) (hnx : x7_next tx = some (chr c n p1, sI tx 703 (jn p1))) : ItemOk c n tx0 tm0 8 0 m p s tx tm (x7_readPart rr tx (jn 8)) := by
  have hcp := hc p1
  obtain ⟨⟨a1, a2⟩, ⟨b1, b2, b3, b4, b5⟩, ⟨c1, c2, c3⟩, d1, d2, d3, d4, d5⟩ := id R
  refine Or.inl ⟨-1, sI (sI tx 703 (jn p1)) 704 (jn (10 * p1 + 5)), ?_, R.bad (tm' := sI tm 25 (jn p1)) (q := 5) (at_ := p1) hn (by omega) (by omega) ?_ rfl (AgM.of (fx_sI (S := [25]) (T := []) rfl))⟩
  · have j77 : ∀ v, x7_readPart_J77 rr (sI tx 703 (jn p1)) (jn 8) v = some (-1, sI (sI tx 703 (jn p1)) 704 (jn (10 * p1 + 5))) := by
      intro v
      unfold x7_readPart_J77
      rw [if_neg (by decide), show gI (sI tx 703 (jn p1)) 703 = jn p1 from rfl, show x7_refuse (sI tx 703 (jn p1)) (jn p1) 5 = _ from refuse_eq _ p1 5, bs]
    unfold x7_readPart
    rw [hnx, bs]
    dsimp only
    rw [(chr_eq (a := c p1) hcp (by omega)).mpr ⟨h1, rfl⟩, if_pos (jlt (x := 97) 97 rfl (by omega) (by omega))]
    unfold x7_readPart_J39 x7_readPart_J60
    simp only [j77]
    rcases h3 with e | e
    · rw [e, if_pos (by decide), if_pos (by rfl)]
    · rw [e, if_neg (by decide), if_pos (by decide), if_neg (by decide), if_pos (by rfl)]
  · rw [run, rL_0 (f := 5) hn hcp a2 h1 (by omega) (by omega) (t' := sI tm 25 (jn p1)), if_neg (by omega)]
    unfold m_opensPart m_opensPart_J103
    rw [show m_in (sI tm 25 (jn p1)) (jn (c p1)) 97 112 = some 0 from in_F (lo := 97) (hi := 112) (by omega) (by omega) (by omega) (by omega), bs, if_pos rfl, show m_in (sI tm 25 (jn p1)) (jn (c p1)) 48 57 = some 0 from in_F (lo := 48) (hi := 57) (by omega) (by omega) (by omega) (by omega), bs, if_pos rfl, show gI (sI tm 25 (jn p1)) 19 = jn 8 from b5]
    rcases h3 with e | e
    · rw [e, if_pos (by rfl), if_pos (by rfl)]; rfl
    · rw [e, if_neg (by decide), if_pos (by rfl), if_pos (by rfl)]; rfl
