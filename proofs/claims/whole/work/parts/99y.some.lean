/-! Parts in square brackets. -/
theorem goes_net {t u : St} {L : Nat} (v : Int32) (h : mF 3 t = some u) (h19 : gI t 19 = jn (L + 1)) (hL : L < 8) (h24 : gA t 24 (L + 1) = 1) : m_goesOn_J84 t v = if v = (44 : Int32) then (gd (((4 : Int32) * (gI u 19)) + (3 : Int32)) 36 (if (gA u 20 ((((4 : Int32) * (gI u 19)) + (3 : Int32))).toNatClampNeg) = (8 : Int32) then (some ((7 : Int32), u)) else (some ((0 : Int32), u)))) else ((m_squares u).bind (fun q9 => some (q9.1, q9.2))) := by
  rw [mF_E] at h
  obtain ⟨q, h1, h2⟩ := bd_some h
  have h3 : m_toRow q.2 3 q.1 = some u := h2
  unfold m_goesOn_J84
  rw [h19, if_neg (jnle (x := 0) 0 rfl (by omega) (by omega)), gd_jn (by omega) (by omega), jn_cl (by omega), h24, if_neg (show ¬ (1 : Int32) = 0 by decide), endsNet_E, h1, bs, h3, bs]
def SomeOk (c : Nat → Nat) (n : Nat) (tx0 tm0 : St) (L m0 p0 s : Nat) (txe tme : St) (p' k : Nat) (tx' tm'' : St) : Prop := Rd c n tx0 tm0 tx' tm'' p' s L ∧ (nK tme ≤ nK tm'' ∧ nK tm'' + p0 ≤ nK tme + p') ∧ k < nK tm'' ∧ FrM tme tm'' L 0 ∧ gA tm'' 20 (4 * L) = jn (m0 + 1) ∧ gA tm'' 21 (50 * (4 * L) + m0) = jn k ∧ (∀ i, i < m0 → gA tm'' 21 (50 * (4 * L) + i) = gA tme 21 (50 * (4 * L) + i)) ∧ FrX txe tx' s
theorem some_end (rr : RRt) {c : Nat → Nat} {n : Nat} {tx0 tm0 : St} (hn : n ≤ 80) (hc : ∀ i, c i ≤ 127) (hK0 : nK tm0 ≤ 250) {L m0 m p0 p2 s p : Nat} {txe tme tx tm' : St} (hL : L < 8) (hbe : nK tme ≤ nK tm0 + p0) (hm1 : 1 ≤ m) (hm8 : m ≤ 8) (h23 : gA tme 23 (L + 1) = jn p2) (h24 : gA tme 24 (L + 1) = 1) (hp2 : p2 < n) (h48 : 48 ≤ c p2 ∧ c p2 ≤ 57) (hm0 : gA tme 20 (4 * L) = jn m0) (hm02 : m0 ≤ 40) (hns : NoSep c n 2 p) (hq : p < n → c p ≠ 44) (hag : AgM (nK tm0) (nP tm0) tm0 tm') (hv : ∀ v, ∃ tm2, mF 3 (sI tm' 25 v) = some tm2 ∧ LI c n tx0 tm0 (L + 1) 3 p0 s txe tme p m tx tm2) : (∃ v tx', x7_readSome_J126 rr tx (jn (c p2)) (jn p2) (jn s) = some (v, tx') ∧ Bad tx0 tm0 tx' (rL 1 p tm')) ∨ ∃ (k : Nat) (tx' : St) (p' : Nat) (tm'' : St), x7_readSome_J126 rr tx (jn (c p2)) (jn p2) (jn s) = some (jn k, tx') ∧ rL 1 p tm' = rL 1 p' tm'' ∧ p < p' ∧ SomeOk c n tx0 tm0 L m0 p0 s txe tme p' k tx' tm'' := by
  obtain ⟨tm2, k2, R2, ⟨n2, n2b⟩, m2, x2, z2, w2⟩ := hv (jn p)
  have hcp := hc p
  obtain ⟨⟨a1, a2⟩, ⟨b1, b2, b3, b4, b5⟩, ⟨c1, c2, c3⟩, d1, d2, d3, d4, d5⟩ := id R2
  have fF := fx_F _ _ _ k2
  have hT : TMc c n tm' := TMc_F k2 a2
  have e23 : gA tm2 23 (L + 1) = jn p2 := (m2.2 (L + 1) (Nat.le_refl _)).1.trans h23
  have e24 : gA (sI tm' 25 (jn p)) 24 (L + 1) = 1 := by
    rw [← (fF.1 24 rfl).2.2.1, (m2.2 (L + 1) (Nat.le_refl _)).2]
    exact h24
  have e19 : gI (sI tm' 25 (jn p)) 19 = jn (L + 1) := (fF.1 19 rfl).1.symm.trans b5
  have Rs := R2.x (tx' := sI tx 702 (jn s)) (s' := s) (p' := p) (fx_sI rfl) rfl b3 (by omega) (Nat.le_refl _) d5
  obtain ⟨⟨s1, -⟩, ⟨t1, t2, t3, t4, -⟩, -⟩ := id Rs
  have nx := nx_again hn hc d5 s1 t3 hns.1
  have e14 : jn (s + m) - jn s = jn m := by rw [jn_sub (by omega)]; congr 1; omega
  unfold x7_readSome_J126
  simp only [nm]
  rw [b2, e14, if_pos t4]
  unfold x7_closes
  rw [nx, bs]
  dsimp only
  by_cases q : p < n ∧ c p = 93
  · rw [if_pos ((chrL (x := 93) 93 rfl hcp (by omega)).mpr q)]
    simp only [nm]
    rw [t3, jn_s, bs]
    dsimp only
    rw [if_neg (show ¬ (1 : Int32) = 0 by decide), show jn (c p2) - (48 : Int32) = jn (c p2 - 48) from jn_sub (a := c p2) (b := 48) h48.1]
    have go : m_goesOn (sI tm' 25 (jn p)) (jn (c p)) (jn p) = (m_squares tm2).bind (fun q9 => some (q9.1, q9.2)) := by
      unfold m_goesOn m_goesOn_J72
      simp only [nm, sI_sI]
      rw [q.2, if_neg (by decide), if_neg (by decide), if_neg (by decide), if_neg (by decide), if_neg (by decide), if_pos (by rfl), goes_net _ k2 e19 hL e24, if_neg (by decide)]
    have sq : m_squares tm2 = if c p2 - 48 = 0 then m_squares_J41 tm2 else if c p2 - 48 ≤ m then ((m_newKnot tm2 (4 : Int32)).bind (fun q16 => gd q16.1 400 (nm (sA q16.2 9 q16.1 (jn (c p2 - 48))) (fun t19 : St => (lp (fun x : Int32 × St => m_ends_B40 (jn (4 * (L + 1) + 3)) q16.1 x.1 x.2) ((0 : Int32), t19)).bind (fun y20 => (m_closes y20 q16.1).bind (fun q23 => some ((0 : Int32), q23))))))) else m_squares_J41 tm2 := by
      unfold m_squares
      simp only [nm]
      rw [b5, show (4 : Int32) = jn 4 from rfl, jn_mul, show (3 : Int32) = jn 3 from rfl, jn_add, gd_jn (show L + 1 < 9 by omega) (by omega), show (jn (L + 1)).toNatClampNeg = L + 1 from jn_cl (by omega), e23, gd_jn (by omega) (by omega), jn_cl (by omega), a2.2 p2 hp2, show jn (c p2) - (48 : Int32) = jn (c p2 - 48) from jn_sub (a := c p2) (b := 48) h48.1]
      by_cases z : c p2 - 48 = 0
      · rw [z, if_pos rfl, if_pos (show jn 0 = 0 from rfl)]
      · rw [if_neg z, if_neg (jn_nz z (by omega)), gd_jn (show 4 * (L + 1) + 3 < 36 by omega) (by omega), jn_cl (by omega), w2.1]
        by_cases z2 : c p2 - 48 ≤ m
        · rw [if_pos z2, if_pos ((jn_le (by omega) (by omega)).mpr z2)]
          rfl
        · rw [if_neg z2, if_neg (fun e => z2 ((jn_le (by omega) (by omega)).mp e))]
    have R3 := Rs.x (tx' := sI (sI tx 702 (jn s)) 703 (jn (p + 1))) (s' := s) (p' := p + 1) (fx_sI rfl) rfl rfl (by omega) (by omega) (by omega)
    by_cases nd : 1 ≤ c p2 - 48 ∧ c p2 - 48 ≤ m
    · rw [if_neg (jn_nz (by omega) (by omega)), if_pos ((jn_le (by omega) (by omega)).mpr nd.2)]
      obtain ⟨tx', t1', j1, j2, j3, j4, j5, j6⟩ := row_ok (tx := sI (sI tx 702 (jn s)) 703 (jn (p + 1))) (tm := tm2) R3.2.2.1.1 (sort := 4) (need := c p2 - 48) (n := m) (st := s) (x := 4 * (L + 1) + 3) (by omega) (by omega) (fun _ => ⟨nd.1, nd.2, hm8⟩) (by omega) (by omega) b1 (by omega) (by omega) w2.1 (fun i hi => w2.2 i hi)
      have fX := fr_x6_addRow_701 _ _ _ _ _ _ j1
      obtain ⟨tmk, y1, y2, y3, y4, y5, y6⟩ := j6 (sA t1' 9 (jn (nK tm2)) (jn (c p2 - 48))) (fx_sA rfl) (fun j => by
        rw [gA_sA, jn_cl (by omega)]
        by_cases e : j = nK tm2
        · rw [e, upd_at, if_pos rfl]
        · rw [upd_ne e, if_neg e])
      have rowL := m2.1 (4 * L) (by omega)
      obtain ⟨t5, u1, u2, u3, u4, u5⟩ := closes_eq (t := tmk) (L := L) (m := m0) ((y2.1 19 rfl).1.trans b5) (by omega) (by rw [(y2.1 20 rfl).2.2.1, rowL.1]; exact hm0) (by omega) (nK tm2)
      have hk := R3.k (tm' := tmk) (fX.wk rfl rfl) (y2.wk rfl rfl) (y3.le (by omega)) y6 j5 (by omega) (by omega) (by omega) j3 j4
      have R5 := hk.m (tm' := t5) (L' := L) (u2.wk rfl rfl) u3
      have ek : nK t5 = nK tm2 + 1 := by rw [nK_fr u2]; exact y4
      refine Or.inr ⟨nK tm2, tx', p + 1, t5, ?_, ?_, by omega, R5, ⟨by omega, by omega⟩, by omega, ⟨fun x hx => ?_, fun l hl => ?_⟩, by rw [u4, if_pos rfl], by rw [u5, if_pos rfl], ?_, ?_⟩
      · rw [show (4 : Int32) = jn 4 from rfl, j1, bs]
        rfl
      · rw [rL_1 (f := 0) hn hcp hT q.1 (by omega) (by omega) (t' := t5), if_pos rfl, if_pos (Or.inr q.2)]
        rw [go, sq, if_neg (by omega), if_pos nd.2, show (4 : Int32) = jn 4 from rfl, j2, bs, gd_jn (show nK tm2 < 400 by omega) (by omega)]
        simp only [nm]
        rw [y1, bs, u1, bs, bs]
        rfl
      · have r := m2.1 x (by omega)
        refine ⟨?_, fun i hi => ?_⟩
        · rw [u4, if_neg (by omega), (y2.1 20 rfl).2.2.1]
          exact r.1
        · rw [u5, if_neg (by omega), (y2.1 21 rfl).2.2.1]
          exact r.2 i hi
      · have r := m2.2 l (by omega)
        rw [(u2.1 23 rfl).2.2.1, (u2.1 24 rfl).2.2.1, (y2.1 23 rfl).2.2.1, (y2.1 24 rfl).2.2.1]
        exact r
      · intro i hi
        rw [u5, if_neg (by omega), (y2.1 21 rfl).2.2.1]
        exact rowL.2 i (by omega)
      · intro i hi
        rw [(fX.1 701 rfl).2.2.1]
        exact x2 i hi
    · have c4 : (if jn (c p2 - 48) = 0 then x7_readSome_J177 rr (sI (sI tx 702 (jn s)) 703 (jn (p + 1))) (jn p2) else if jn (c p2 - 48) ≤ jn m then (x6_addRow_701 (sI (sI tx 702 (jn s)) 703 (jn (p + 1))) 4 (jn (c p2 - 48)) (jn s) (jn m)).bind (fun q30 => x7_readSome_J202 rr q30.2 q30.1) else x7_readSome_J177 rr (sI (sI tx 702 (jn s)) 703 (jn (p + 1))) (jn p2)) = some (-1, sI (sI (sI tx 702 (jn s)) 703 (jn (p + 1))) 704 (jn (10 * p2 + 4))) := by
        have r : x7_readSome_J177 rr (sI (sI tx 702 (jn s)) 703 (jn (p + 1))) (jn p2) = some (-1, sI (sI (sI tx 702 (jn s)) 703 (jn (p + 1))) 704 (jn (10 * p2 + 4))) := by
          unfold x7_readSome_J177
          rw [show (4 : Int32) = jn 4 from rfl, refuse_eq, bs]
        by_cases z : c p2 - 48 = 0
        · rw [z, if_pos (show jn 0 = 0 from rfl), r]
        · rw [if_neg (jn_nz z (by omega)), if_neg (fun e => by have := (jn_le (by omega) (by omega)).mp e; omega), r]
      rw [c4]
      refine Or.inl ⟨-1, _, rfl, R3.bad2 (tm' := sI tm2 25 (jn p2)) (q := 4) (at_ := p2) hn (by omega) (by omega) ?_ rfl (c3.1.trans (AgM.of (fx_sI (S := [25]) (T := []) rfl)) (Nat.le_refl _) (Nat.le_refl _))⟩
      have j41 : m_squares_J41 tm2 = some (4, sI tm2 25 (jn p2)) := by
        unfold m_squares_J41
        rw [b5, gd_jn (by omega) (by omega), jn_cl (by omega), e23]
        simp only [nm]
      rw [rL_1 (f := 4) hn hcp hT q.1 (by omega) (by omega) (t' := sI tm2 25 (jn p2)), if_neg (by omega)]
      rw [go, sq]
      by_cases z : c p2 - 48 = 0
      · rw [if_pos z, j41]; rfl
      · rw [if_neg z, if_neg (by omega), j41]; rfl
  · rw [if_neg (fun e => q ((chrL (x := 93) 93 rfl hcp (by omega)).mp e)), refuseHere_eq hn hc d5 s1 t3 hns.1, bs, bs]
    dsimp only
    rw [if_pos rfl]
    refine Or.inl ⟨-1, _, rfl, Rs.bad2 (tm' := sI tm' 25 (jn p)) (q := if p < n then 1 else 2) (at_ := p) hn (by split <;> omega) (by omega) ?_ rfl (hag.trans (AgM.of (fx_sI (S := [25]) (T := []) rfl)) (Nat.le_refl _) (Nat.le_refl _))⟩
    by_cases z : p < n
    · have g0 := hns.2 0 (by omega) z
      have g1 := hns.2 1 (by omega) z
      have g2 := hns.2 2 (by omega) z
      rw [show sepc 0 = 38 from rfl] at g0
      rw [show sepc 1 = 62 from rfl] at g1
      rw [show sepc 2 = 124 from rfl] at g2
      have g3 := hq z
      rw [rL_1 (f := 1) hn hcp hT z (hns.1 z) (by omega) (t' := sI tm' 25 (jn p)), if_neg (by omega), if_pos z]
      unfold m_goesOn
      simp only [nm, sI_sI]
      have j72 : m_goesOn_J72 (sI tm' 25 (jn p)) (jn (c p)) = some (1, sI tm' 25 (jn p)) := by
        unfold m_goesOn_J72
        rw [if_neg (jnl (x := 44) 44 rfl g3 (by omega) (by omega)), if_neg (jnl (x := 93) 93 rfl (fun e => q ⟨z, e⟩) (by omega) (by omega))]
      rw [if_neg (jnl (x := 38) 38 rfl g0 (by omega) (by omega)), if_neg (jnl (x := 62) 62 rfl g1 (by omega) (by omega)), if_neg (jnl (x := 124) 124 rfl g2 (by omega) (by omega)), e19, if_neg (jnle (x := 0) 0 rfl (by omega) (by omega)), gd_jn (by omega) (by omega), jn_cl (by omega), e24, if_neg (show ¬ (1 : Int32) = 0 by decide), j72]
      split <;> rfl
    · have : p = n := by omega
      subst this
      rw [rL_end hn hT, if_neg z]
      unfold rK
      simp only [Sum.elim, nm]
      rw [hT.1, if_pos (show jn 1 = 1 from rfl), show gI (sI tm' 25 (jn p)) 19 = jn (L + 1) from e19, if_neg (jnle (x := 0) 0 rfl (by omega) (by omega))]
      rfl
