/-! Parts in brackets. -/
theorem chrL {c : Nat → Nat} {n p : Nat} (m : Nat) {x : Int32} (hx : x = jn m) (hc : c p ≤ 127) (hm : m < 200) : chr c n p = x ↔ p < n ∧ c p = m := by
  rw [hx]
  exact chr_eq hc hm
theorem Rd.bad2 {c : Nat → Nat} {n : Nat} {tx0 tm0 tx tm tm' : St} {p s L q at_ : Nat} (h : Rd c n tx0 tm0 tx tm p s L) (hn : n ≤ 80) (hq : 1 ≤ q ∧ q ≤ 7) (ha : at_ ≤ 80) {run : Option (Int32 × St)} (hr : run = some (jn q, tm')) (h25 : gI tm' 25 = jn at_) (hl : AgM (nK tm0) (nP tm0) tm0 tm') : Bad tx0 tm0 (sI tx 704 (jn (10 * at_ + q))) run := by
  obtain ⟨⟨a1, a2⟩, ⟨b1, b2, b3, b4, b5⟩, ⟨c1, c2, c3⟩, d1, d2, d3, d4, d5⟩ := h
  have l := c3.fr (fx_sI (S := [704]) (T := []) (k := 704) (v := jn (10 * at_ + q)) rfl) (fx.rfl (S := []) (T := []))
  exact ⟨q, at_, s, tm', hq.1, hq.2, ha, rfl, hr, h25, by omega, b2, b1, hl, l.2⟩
theorem part_open {c : Nat → Nat} {n : Nat} {tx0 tm0 : St} (hn : n ≤ 80) (hc : ∀ i, c i ≤ 127) {L p1 s : Nat} {tx tm : St} (hL : L < 8) (R : Rd c n tx0 tm0 (sI tx 703 (jn p1)) tm p1 s L) (h1 : p1 < n) (h3 : c p1 = 40 ∨ c p1 = 91) : ∃ tmo, rL 0 p1 tm = rL (if c p1 = 91 then 2 else 0) (p1 + 1) tmo ∧ Rd c n tx0 tm0 (sI tx 703 (jn (p1 + 1))) tmo (p1 + 1) s (L + 1) ∧ (∀ q, q ≤ 3 → gA tmo 20 (4 * (L + 1) + q) = 0) ∧ (∀ x, x < 4 * (L + 1) → gA tmo 20 x = gA tm 20 x) ∧ gA tmo 21 = gA tm 21 ∧ gA tmo 23 = gA tm 23 ∧ (∀ l, l ≤ L → gA tmo 24 l = gA tm 24 l) ∧ gA tmo 24 (L + 1) = (if c p1 = 91 then 1 else 0) ∧ nK tmo = nK tm ∧ nP tmo = nP tm := by
  have hcp := hc p1
  obtain ⟨⟨a1, a2⟩, ⟨b1, b2, b3, b4, b5⟩, ⟨c1, c2, c3⟩, d1, d2, d3, d4, d5⟩ := id R
  obtain ⟨q1, k1, f1, v19, v24, v20⟩ := opens_eq (t := sI tm 25 (jn p1)) (L := L + 1) (by rw [show gI (sI tm 25 (jn p1)) 19 = jn L from b5, jn_s]) (by omega) (decide (c p1 = 91))
  have f0 : fx [19, 20, 24, 25] [] tm q1 := (fx_sI rfl).trans (f1.wk rfl rfl)
  have ft : fx [19, 20, 22, 24, 25] [] tm (sA q1 22 (jn (L + 1)) (jn p1)) := (f0.wk rfl rfl).trans (fx_sA rfl)
  have Rx := R.x (tx' := sI tx 703 (jn (p1 + 1))) (s' := s) (p' := p1 + 1) (by
    rw [show sI tx 703 (jn (p1 + 1)) = sI (sI tx 703 (jn p1)) 703 (jn (p1 + 1)) from sI_sI.symm]
    exact fx_sI rfl) b2 rfl (by omega) (by omega) (by omega)
  refine ⟨sA q1 22 (jn (L + 1)) (jn p1), ?_, Rx.m (L' := L + 1) (ft.wk rfl rfl) v19, ?_, ?_, (ft.1 21 rfl).2.2.1, (ft.1 23 rfl).2.2.1, ?_, ?_, nK_fr ft, nP_fr ft⟩
  · rw [rL_0 (f := 0) hn hcp a2 h1 (by omega) (by omega) (t' := sA q1 22 (jn (L + 1)) (jn p1)), if_pos rfl]
    · rcases h3 with e | e
      · rw [e]; rfl
      · rw [e]; rfl
    · have j126 : m_opensPart_J126 (sI tm 25 (jn p1)) (jn p1) (if decide (c p1 = 91) then 1 else 0) = some (0, sA q1 22 (jn (L + 1)) (jn p1)) := by
        unfold m_opensPart_J126
        rw [k1, bs, v19, gd_jn (by omega) (by omega)]
        simp only [nm]
      unfold m_opensPart m_opensPart_J103
      rw [show m_in (sI tm 25 (jn p1)) (jn (c p1)) 97 112 = some 0 from in_F (lo := 97) (hi := 112) (by omega) (by omega) (by omega) (by omega), bs, if_pos rfl, show m_in (sI tm 25 (jn p1)) (jn (c p1)) 48 57 = some 0 from in_F (lo := 48) (hi := 57) (by omega) (by omega) (by omega) (by omega), bs, if_pos rfl, show gI (sI tm 25 (jn p1)) 19 = jn L from b5, if_neg (jnl (a := L) (x := 8) 8 rfl (by omega) (by omega) (by omega))]
      rcases h3 with e | e
      · rw [e] at j126 ⊢
        rw [if_pos (by rfl), if_neg (by decide)]
        exact j126
      · rw [e] at j126 ⊢
        rw [if_neg (by decide), if_pos (by rfl), if_pos (by rfl)]
        exact j126
  · intro q hq
    show gA q1 20 _ = 0
    rw [v20, if_pos (by omega)]
  · intro x hx
    show gA q1 20 _ = _
    rw [v20, if_neg (by omega)]
    rfl
  · intro l hl
    show gA q1 24 _ = _
    rw [v24, if_neg (by omega)]
    rfl
  · show gA q1 24 _ = _
    rw [v24, if_pos rfl]
    by_cases e : c p1 = 91
    · rw [if_pos e, decide_eq_true e]; rfl
    · rw [if_neg e, decide_eq_false e]; rfl
theorem J77_cls (rr : RRt) {c : Nat → Nat} {n : Nat} (hn : n ≤ 80) (hc : ∀ i, c i ≤ 127) {L p1 : Nat} {tx : St} (hL : L < 8) (h1 : p1 < n) (h3 : c p1 = 40 ∨ c p1 = 91) (hnx : x7_next tx = some (chr c n p1, sI tx 703 (jn p1))) : x7_readPart rr tx (jn L) = if c p1 = 40 then x7_readInside rr (sI tx 703 (jn (p1 + 1))) (jn (L + 1)) else x7_readSome rr (sI tx 703 (jn (p1 + 1))) (jn (L + 1)) := by
  have hcp := hc p1
  have j77 : x7_readPart_J77 rr (sI tx 703 (jn p1)) (jn L) (jn (c p1)) = if c p1 = 40 then x7_readInside rr (sI tx 703 (jn (p1 + 1))) (jn (L + 1)) else x7_readSome rr (sI tx 703 (jn (p1 + 1))) (jn (L + 1)) := by
    unfold x7_readPart_J77 x7_readPart_J116 x7_readPart_J126
    rw [if_pos (jlt (a := L) (x := 8) 8 rfl hL (by omega))]
    simp only [nm]
    rw [show gI (sI tx 703 (jn p1)) 703 = jn p1 from rfl, jn_s, sI_sI, jn_s]
    rcases h3 with e | e
    · rw [e, if_pos (by rfl), if_pos rfl]
      cases x7_readInside rr (sI tx 703 (jn (p1 + 1))) (jn (L + 1)) <;> rfl
    · rw [e, if_neg (by decide), if_neg (by omega)]
      cases x7_readSome rr (sI tx 703 (jn (p1 + 1))) (jn (L + 1)) <;> rfl
  unfold x7_readPart
  rw [hnx, bs]
  dsimp only
  rw [(chr_eq (a := c p1) hcp (by omega)).mpr ⟨h1, rfl⟩, if_pos (jlt (x := 97) 97 rfl (by omega) (by omega))]
  unfold x7_readPart_J39 x7_readPart_J60
  rw [j77]
  rcases h3 with e | e
  · rw [e, if_pos (by decide), if_pos (by rfl)]
  · rw [e, if_neg (by decide), if_pos (by decide), if_neg (by decide), if_pos (by rfl)]
theorem part_inside (rr : RRt) {c : Nat → Nat} {n : Nat} {tx0 tm0 : St} (hn : n ≤ 80) (hc : ∀ i, c i ≤ 127) (hK0 : nK tm0 ≤ 250) {L m p p1 s : Nat} {tx tm : St} (hL : L < 8) (R : Rd c n tx0 tm0 (sI tx 703 (jn p1)) tm p1 s L) (hp : p ≤ p1) (run : rL 0 p tm = rL 0 p1 tm) (hm : gA tm 20 (4 * L) = jn m) (hm2 : m ≤ 40) (h1 : p1 < n) (h3 : c p1 = 40) (hnx : x7_next tx = some (chr c n p1, sI tx 703 (jn p1))) (IH : ∀ p s tx tm, Rd c n tx0 tm0 tx tm p s (L + 1) → (∀ q, q ≤ 2 → gA tm 20 (4 * (L + 1) + q) = 0) → RowOk c n tx0 tm0 (L + 1) 2 p s tx tm (rr tx (jn (3 - 2)) (jn (L + 1)))) : ItemOk c n tx0 tm0 L 0 m p s tx tm (x7_readPart rr tx (jn L)) := by
  obtain ⟨tmo, o1, o2, o3, o4, o5, o6, o7, o8, o9, -⟩ := part_open hn hc hL R h1 (Or.inl h3)
  rw [h3, if_neg (by omega)] at o1 o8
  have d3 := R.2.2.2.2.2
  have H := IH _ _ _ _ o2 (fun q hq => o3 q (by omega))
  rw [J77_cls rr hn hc hL h1 (Or.inl h3) hnx, if_pos h3]
  unfold x7_readInside
  rcases H with ⟨w, tx3, k3, bad⟩ | ⟨k, tx3, p3, tm3, k3, run3, ⟨lt3, ag3⟩, ns3, v3⟩
  · refine Or.inl ⟨-1, tx3, ?_, by rw [run, o1]; exact bad⟩
    rw [show rr (sI tx 703 (jn (p1 + 1))) 1 (jn (L + 1)) = _ from k3, bs]
    unfold x7_readInside_J6
    rw [if_neg bad.ne]
  · rw [show rr (sI tx 703 (jn (p1 + 1))) 1 (jn (L + 1)) = _ from k3, bs]
    unfold x7_readInside_J6
    obtain ⟨tm4, e1, ⟨R4, n4, m4, x4⟩, e3, e4⟩ := v3 (jn p3)
    have hd := R4.2.2.2
    have cp3 := hc p3
    obtain ⟨⟨a1, a2⟩, ⟨b1, b2, b3, b4, b5⟩, -⟩ := id R4
    have fe := fx_E e1
    have t3c : TMc c n tm3 := (a2.bk fe).bk (fx_sI (S := [25]) (T := []) rfl)
    have t19 : gI (sI tm3 25 (jn p3)) 19 = jn (L + 1) := (fe.1 19 rfl).1.symm.trans b5
    have t24 : gA (sI tm3 25 (jn p3)) 24 (L + 1) = 0 := by
      rw [← (fe.1 24 rfl).2.2.1, (m4.2 (L + 1) (Nat.le_refl _)).2]
      exact o8
    have nx := nx_again hn hc (show p3 ≤ n by omega) a1 b3 ns3.1
    rw [if_pos b4]
    unfold x7_closes
    rw [nx, bs]
    dsimp only
    by_cases q : p3 < n ∧ c p3 = 41
    · rw [if_pos ((chrL (x := 41) 41 rfl cp3 (by omega)).mpr q)]
      simp only [nm]
      rw [b3, jn_s, bs]
      dsimp only
      rw [if_neg (show ¬ (1 : Int32) = 0 by decide)]
      have h20 : gA tm4 20 (4 * L) = jn m := ((m4.1 (4 * L) (by omega)).1).trans ((o4 _ (by omega)).trans hm)
      obtain ⟨t5, j1, j2, j3, j4, j5⟩ := closes_eq (t := tm4) (L := L) (m := m) b5 (by omega) h20 (by omega) k
      have R5 := (R4.x (tx' := sI tx3 703 (jn (p3 + 1))) (s' := s) (p' := p3 + 1) (fx_sI rfl) b2 rfl (by omega) (by omega) (by omega)).m (tm' := t5) (L' := L) (j2.wk rfl rfl) j3
      refine item0 (k := k) (p' := p3 + 1) (tx' := sI tx3 703 (jn (p3 + 1))) (tm' := t5) rfl ?_ (by omega) R5 (by rw [nK_fr j2]; omega) ?_ ?_ (by rw [nK_fr j2]; exact e3) (by rw [j4, if_pos rfl]) (by rw [j5, if_pos rfl]) (fun i hi => by rw [j5, if_neg (by omega), (m4.1 (4 * L) (by omega)).2 i (by omega), o5])
      · rw [run, o1, run3, rL_1 (f := 0) hn cp3 t3c q.1 (by omega) (by omega) (t' := t5), if_pos rfl, if_pos (Or.inl q.2)]
        unfold m_goesOn
        simp only [nm, sI_sI]
        rw [q.2, if_neg (by decide), if_neg (by decide), if_neg (by decide), if_pos (by rfl), t19, if_neg (jnle (x := 0) 0 rfl (by omega) (by omega)), gd_jn (by omega) (by omega), jn_cl (by omega), t24, if_pos rfl, endsNet_E, e1, bs]
        dsimp only
        rw [j1, bs]
        rfl
      · refine ⟨fun x hx => ?_, fun l hl => ?_⟩
        · rw [j4, if_neg (by omega), (m4.1 x (by omega)).1, o4 x (by omega)]
          exact ⟨rfl, fun i hi => by rw [j5, if_neg (by omega), (m4.1 x (by omega)).2 i hi, o5]⟩
        · rw [(j2.1 23 rfl).2.2.1, (j2.1 24 rfl).2.2.1, (m4.2 l (by omega)).1, (m4.2 l (by omega)).2, o6, o7 l hl]
          exact ⟨rfl, rfl⟩
      · intro i hi
        exact x4 i hi
    · rw [if_neg (fun e => q ((chrL (x := 41) 41 rfl cp3 (by omega)).mp e)), refuseHere_eq hn hc (by omega) a1 b3 ns3.1, bs, bs]
      dsimp only
      rw [if_pos rfl]
      refine Or.inl ⟨-1, _, rfl, R4.bad2 (tm' := sI tm3 25 (jn p3)) (q := if p3 < n then 1 else 2) (at_ := p3) hn (by split <;> omega) (by omega) ?_ rfl (ag3.trans (AgM.of (fx_sI (S := [25]) (T := []) rfl)) (Nat.le_refl _) (Nat.le_refl _))⟩
      rw [run, o1, run3]
      by_cases z : p3 < n
      · have s0 := ns3.2 0 (by omega) z
        have s1 := ns3.2 1 (by omega) z
        have s2 := ns3.2 2 (by omega) z
        rw [show sepc 0 = 38 from rfl] at s0
        rw [show sepc 1 = 62 from rfl] at s1
        rw [show sepc 2 = 124 from rfl] at s2
        rw [rL_1 (f := 1) hn cp3 t3c z (ns3.1 z) (by omega) (t' := sI tm3 25 (jn p3)), if_neg (by omega), if_pos z]
        unfold m_goesOn
        simp only [nm, sI_sI]
        rw [if_neg (jnl (x := 38) 38 rfl s0 (by omega) (by omega)), if_neg (jnl (x := 62) 62 rfl s1 (by omega) (by omega)), if_neg (jnl (x := 124) 124 rfl s2 (by omega) (by omega)), if_neg (jnl (x := 41) 41 rfl (fun e => q ⟨z, e⟩) (by omega) (by omega))]
        have j84 : m_goesOn_J84 (sI tm3 25 (jn p3)) (jn (c p3)) = some (1, sI tm3 25 (jn p3)) := by
          unfold m_goesOn_J84
          rw [t19, if_neg (jnle (x := 0) 0 rfl (by omega) (by omega)), gd_jn (by omega) (by omega), jn_cl (by omega), t24, if_pos rfl]
        unfold m_goesOn_J72
        rw [j84]
        split
        · rfl
        · split <;> rfl
      · have : p3 = n := by omega
        subst this
        rw [rL_end hn t3c, if_neg z]
        unfold rK
        simp only [Sum.elim, nm]
        rw [t3c.1, if_pos (show jn 1 = 1 from rfl), t19, if_neg (jnle (x := 0) 0 rfl (by omega) (by omega))]
        rfl
