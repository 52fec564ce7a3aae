/-! Nets in square brackets, one behind the other. -/
theorem some_loop (rr : RRt) {c : Nat → Nat} {n : Nat} {tx0 tm0 : St} (hn : n ≤ 80) (hc : ∀ i, c i ≤ 127) (hK0 : nK tm0 ≤ 250) {L m0 p0 p2 s : Nat} {txe tme : St} (hL : L < 8) (IH : ∀ p s tx tm, Rd c n tx0 tm0 tx tm p s (L + 1) → (∀ q, q ≤ 2 → gA tm 20 (4 * (L + 1) + q) = 0) → RowOk c n tx0 tm0 (L + 1) 2 p s tx tm (rr tx (jn (3 - 2)) (jn (L + 1)))) (hbe : nK tme ≤ nK tm0 + p0) (h23 : gA tme 23 (L + 1) = jn p2) (h24 : gA tme 24 (L + 1) = 1) (hp2 : p2 < n) (h48 : 48 ≤ c p2 ∧ c p2 ≤ 57) (hm0 : gA tme 20 (4 * L) = jn m0) (hm02 : m0 ≤ 40) : ∀ d p m tx tm', d + p = n → 1 ≤ m → m ≤ 8 → p0 ≤ p → NoSep c n 2 p → AgM (nK tm0) (nP tm0) tm0 tm' → (∀ v, ∃ tm2, mF 3 (sI tm' 25 v) = some tm2 ∧ LI c n tx0 tm0 (L + 1) 3 p0 s txe tme p m tx tm2) → ∀ rx, rx = (lp (fun y : Int32 × St => x7_readSome_B56 rr (jn (L + 1)) (jn (c p2)) (jn p2) (jn s) y.1 y.2) (jn m, tx)).bind (fun y => x7_readSome_J126 rr y (jn (c p2)) (jn p2) (jn s)) → (∃ v tx', rx = some (v, tx') ∧ Bad tx0 tm0 tx' (rL 1 p tm')) ∨ ∃ (k : Nat) (tx' : St) (p' : Nat) (tm'' : St), rx = some (jn k, tx') ∧ rL 1 p tm' = rL 1 p' tm'' ∧ p < p' ∧ SomeOk c n tx0 tm0 L m0 p0 s txe tme p' k tx' tm'' := by
  intro d
  induction d using Nat.strongRecOn with
  | _ d ih =>
    intro p m tx tm' hd hm hm8 hp0 hns hag hv rx hrx
    obtain ⟨tm20, f0, l0⟩ := hv 0
    have R0 := l0.1
    obtain ⟨⟨a1, a2⟩, ⟨b1, b2, b3, b4, b5⟩, -, -, -, -, d4, d5⟩ := id R0
    have hT : TMc c n tm' := TMc_F f0 a2
    obtain ⟨p1, g1, g2, g3, g4, g5⟩ := nx_ok hn hc (n - p) p tx (by omega) a1 b3
    have run : rL 1 p tm' = rL 1 p1 tm' := rL_to hn hT 1 g1 g2 g3
    have hcp := hc p1
    have f1 : fx [703] [] tx (sI tx 703 (jn p1)) := fx_sI rfl
    have m8 : ¬ (8 : Int32) < jn m := fun e => by have := (jn_lt (a := 8) (by omega) (by omega)).mp e; omega
    by_cases q : p1 < n ∧ c p1 = 44
    · obtain ⟨tm2, k2, l2⟩ := hv (jn p1)
      have fF := fx_F _ _ _ k2
      have e24 : gA (sI tm' 25 (jn p1)) 24 (L + 1) = 1 := by
        rw [← (fF.1 24 rfl).2.2.1, (l2.2.2.1.2 (L + 1) (Nat.le_refl _)).2]
        exact h24
      have b52 : gI tm2 19 = jn (L + 1) := l2.1.2.1.2.2.2.2
      have e19 : gI (sI tm' 25 (jn p1)) 19 = jn (L + 1) := (fF.1 19 rfl).1.symm.trans b52
      have e20 : gA tm2 20 (4 * (L + 1) + 3) = jn m := l2.2.2.2.2.2.1
      have go : m_goesOn (sI tm' 25 (jn p1)) (jn (c p1)) (jn p1) = some (jn (if m = 8 then 7 else 0), tm2) := by
        unfold m_goesOn m_goesOn_J72
        simp only [nm, sI_sI]
        rw [q.2, if_neg (by decide), if_neg (by decide), if_neg (by decide), if_neg (by decide), if_pos (by rfl), goes_net _ k2 e19 hL e24, if_pos (by rfl), b52, show (4 : Int32) = jn 4 from rfl, jn_mul, show (3 : Int32) = jn 3 from rfl, jn_add, gd_jn (by omega) (by omega), jn_cl (by omega), e20]
        by_cases z : m = 8
        · subst z
          rw [if_pos (by rfl), if_pos rfl]; rfl
        · rw [if_neg (jnl (x := 8) 8 rfl z (by omega) (by omega)), if_neg z]; rfl
      by_cases z : m = 8
      · -- too many
        rw [if_pos z] at go
        have l3 := l2.x (tx' := sI tx 703 (jn p1)) (p' := p1) f1 rfl g1 g2
        have bad : Bad tx0 tm0 (sI (sI tx 703 (jn p1)) 704 (jn (10 * p1 + 7))) (rL 1 p1 tm') := by
          refine l3.1.bad (tm' := tm2) (q := 7) (at_ := p1) hn (by omega) (by omega) ?_ ?_ AgM.rfl
          · rw [rL_1 (f := 7) hn hcp hT q.1 (by omega) (by omega) go, if_neg (by omega)]
          · rw [(fF.1 25 rfl).1]; rfl
        have body : (fun y : Int32 × St => x7_readSome_B56 rr (jn (L + 1)) (jn (c p2)) (jn p2) (jn s) y.1 y.2) (jn m, tx) = some (.inl (jn (m + 1), sI (sI tx 703 (jn p1)) 704 (jn (10 * p1 + 7)))) := by
          dsimp only
          unfold x7_readSome_B56
          rw [if_neg m8, if_pos b4, g5, bs]
          dsimp only
          rw [if_pos ((chrL (x := 44) 44 rfl hcp (by omega)).mpr q), if_pos (show jn m = (8 : Int32) by rw [z]; rfl), show gI (sI tx 703 (jn p1)) 703 = jn p1 from rfl, show (7 : Int32) = jn 7 from rfl, refuse_eq, bs]
          simp only [nm, jn_s]
        obtain ⟨t5, k5, bad5⟩ := bad_J126 rr bad (s := s) (by omega) (jn (c p2)) (jn p2)
        refine Or.inl ⟨-1, t5, ?_, ?_⟩
        · rw [hrx, lp_l body, bad_B56 rr bad, bs, k5]
        · rw [run]; exact bad5
      · -- one more
        rw [if_neg z] at go
        have f2 : fx [703] [] tx (sI tx 703 (jn (p1 + 1))) := fx_sI rfl
        have l2' := l2.x (tx' := sI tx 703 (jn (p1 + 1))) (p' := p1 + 1) f2 rfl (by omega) (by omega)
        have n2b := l2.2.1.2
        obtain ⟨R2, n2, m2, x2, z2, c2, w2⟩ := l2'
        have it := item_of_row (r := 2) (m := m) (by omega) (by omega) c2 (by omega) (IH (p1 + 1) (s + m) (sI tx 703 (jn (p1 + 1))) tm2 R2 (fun q hq => z2 q (by omega)))
        have step : rL 1 p1 tm' = rL 0 (p1 + 1) tm2 := by
          rw [rL_1 hn hcp hT q.1 (by omega) (f := 0) (by omega) go, if_pos rfl, if_neg (by omega)]
        have body : ∀ w tx3, rr (sI tx 703 (jn (p1 + 1))) (jn (3 - 2)) (jn (L + 1)) = some (w, tx3) → ∀ t4, x7_hold tx3 w = some t4 → (fun y : Int32 × St => x7_readSome_B56 rr (jn (L + 1)) (jn (c p2)) (jn p2) (jn s) y.1 y.2) (jn m, tx) = some (.inl (jn (m + 1), t4)) := by
          intro w tx3 k3 t4 k4
          dsimp only
          unfold x7_readSome_B56
          rw [if_neg m8, if_pos b4, g5, bs]
          dsimp only
          rw [if_pos ((chrL (x := 44) 44 rfl hcp (by omega)).mpr q), if_neg (jnl (x := 8) 8 rfl z (by omega) (by omega))]
          simp only [nm]
          rw [show gI (sI tx 703 (jn p1)) 703 = jn p1 from rfl, jn_s, sI_sI, show rr (sI tx 703 (jn (p1 + 1))) 1 (jn (L + 1)) = _ from k3, bs]
          unfold x7_readSome_J117
          dsimp only
          rw [k4, bs]
          simp only [nm]
          rw [jn_s]
        rcases it with ⟨w, tx3, k3, bad⟩ | ⟨k, tx3, p3, tm3, k3, run3, ⟨lt3, ag3⟩, ns3, v3⟩
        · obtain ⟨t4, k4, bad4⟩ := bad_hold bad w
          obtain ⟨t5, k5, bad5⟩ := bad_J126 rr bad4 (s := s) (by omega) (jn (c p2)) (jn p2)
          refine Or.inl ⟨-1, t5, ?_, ?_⟩
          · rw [hrx, lp_l (body w tx3 k3 t4 k4), bad_B56 rr bad4, bs, k5]
          · rw [run, step]; exact bad5
        · obtain ⟨tm40, -, af40, -⟩ := v3 0
          obtain ⟨R40, -⟩ := af40
          obtain ⟨t4, k4, f4, h4a, h4b⟩ := hold_eq R40.2.1.1 R40.2.1.2.1 (by have := R40.2.2.2.2.2.2.1; have := R40.2.2.2.2.2.2.2; omega) (jn k)
          have hd4 := R40.2.2.2.2.2.2
          have := ih (n - p3) (by omega) p3 (m + 1) t4 tm3 (by omega) (by omega) (by omega) (by omega) (ns3 (by omega)) ag3 (fun v => by
            obtain ⟨tm4, e1, ⟨R4, n4, m4, x4⟩, e2, e3, e4, e5, e6⟩ := v3 v
            refine ⟨tm4, e1, R4.x (f4.wk rfl rfl) (by rw [h4a, Nat.add_assoc]) ((f4.1 703 rfl).1.trans R4.2.1.2.2.1) (by omega) (Nat.le_refl _) hd4.2, ⟨by omega, by omega⟩, m2.trans m4, ?_, e3, e4, ?_⟩
            · intro i hi
              rw [h4b, if_neg (by omega), x4 i (by omega)]
              exact x2 i hi
            · intro i hi
              by_cases z : i = m
              · subst z
                rw [h4b, if_pos rfl, e5]
                exact ⟨rfl, k, e2, rfl⟩
              · obtain ⟨w3, k', w4, w5⟩ := w2 i (by omega)
                rw [h4b, if_neg (by omega), x4 _ (by omega), e6 i (by omega)]
                exact ⟨w3, k', by omega, w5⟩) rx (by rw [hrx, lp_l (body (jn k) tx3 k3 t4 k4)])
          rcases this with ⟨w, tx5, j1, j2⟩ | ⟨k', tx5, p5, tm5, j1, j2, j3, j4⟩
          · exact Or.inl ⟨w, tx5, j1, by rw [run, step, run3]; exact j2⟩
          · exact Or.inr ⟨k', tx5, p5, tm5, j1, by rw [run, step, run3]; exact j2, by omega, j4⟩
    · have cls : (lp (fun y : Int32 × St => x7_readSome_B56 rr (jn (L + 1)) (jn (c p2)) (jn p2) (jn s) y.1 y.2) (jn m, tx)) = some (sI tx 703 (jn p1)) := by
        refine lp_r ?_
        dsimp only
        unfold x7_readSome_B56
        rw [if_neg m8, if_pos b4, g5, bs]
        dsimp only
        rw [if_neg (fun e => q ((chrL (x := 44) 44 rfl hcp (by omega)).mp e))]
      have ns1 : NoSep c n 2 p1 := by
        refine ⟨g4, fun q' hq' hlt => ?_⟩
        have e1 : p1 = p := by
          by_cases e2 : p1 = p
          · exact e2
          · exact absurd (g3 p (Nat.le_refl _) (by omega)) (hns.1 (by omega))
        subst e1
        exact hns.2 q' hq' hlt
      have := some_end rr hn hc hK0 (tx := sI tx 703 (jn p1)) hL hbe hm hm8 h23 h24 hp2 h48 hm0 hm02 ns1 (fun h e => q ⟨h, e⟩) hag (fun v => by
        obtain ⟨tm2, k2, l2⟩ := hv v
        exact ⟨tm2, k2, l2.x f1 rfl g1 g2⟩)
      rw [hrx, cls, bs, run]
      rcases this with h | ⟨k, tx', p', tm'', h1, h2, h3, h4⟩
      · exact Or.inl h
      · exact Or.inr ⟨k, tx', p', tm'', h1, h2, by omega, h4⟩
theorem part_some (rr : RRt) {c : Nat → Nat} {n : Nat} {tx0 tm0 : St} (hn : n ≤ 80) (hc : ∀ i, c i ≤ 127) (hK0 : nK tm0 ≤ 250) {L m p p1 s : Nat} {tx tm : St} (hL : L < 8) (R : Rd c n tx0 tm0 (sI tx 703 (jn p1)) tm p1 s L) (hp : p ≤ p1) (run : rL 0 p tm = rL 0 p1 tm) (hm : gA tm 20 (4 * L) = jn m) (hm2 : m ≤ 40) (h1 : p1 < n) (h3 : c p1 = 91) (hnx : x7_next tx = some (chr c n p1, sI tx 703 (jn p1))) (IH : ∀ p s tx tm, Rd c n tx0 tm0 tx tm p s (L + 1) → (∀ q, q ≤ 2 → gA tm 20 (4 * (L + 1) + q) = 0) → RowOk c n tx0 tm0 (L + 1) 2 p s tx tm (rr tx (jn (3 - 2)) (jn (L + 1)))) : ItemOk c n tx0 tm0 L 0 m p s tx tm (x7_readPart rr tx (jn L)) := by
  obtain ⟨tmo, o1, o2, o3, o4, o5, o6, o7, o8, o9, -⟩ := part_open hn hc hL R h1 (Or.inr h3)
  rw [h3, if_pos rfl] at o1 o8
  have d3 := R.2.2.2.2.2
  rw [J77_cls rr hn hc hL h1 (Or.inr h3) hnx, if_neg (by omega)]
  obtain ⟨⟨a1, a2⟩, ⟨b1, b2, b3, b4, b5⟩, ⟨c1, c2, c3⟩, d1, d2, d3', d4, d5⟩ := id o2
  obtain ⟨p2, g1, g2, g3, g4, g5⟩ := nx_ok hn hc (n - (p1 + 1)) (p1 + 1) (sI tx 703 (jn (p1 + 1))) (by omega) a1 b3
  have run2 : rL 2 (p1 + 1) tmo = rL 2 p2 tmo := rL_to hn a2 2 g1 g2 g3
  have hcp := hc p2
  rw [sI_sI] at g5
  have Rp := o2.x (tx' := sI tx 703 (jn p2)) (s' := s) (p' := p2) (by
    rw [show sI tx 703 (jn p2) = sI (sI tx 703 (jn (p1 + 1))) 703 (jn p2) from sI_sI.symm]
    exact fx_sI rfl) b2 rfl (by omega) g1 g2
  unfold x7_readSome
  rw [g5, bs]
  dsimp only
  by_cases q : p2 < n ∧ 48 ≤ c p2 ∧ c p2 ≤ 57
  · rw [(chr_eq (a := c p2) hcp (by omega)).mpr ⟨q.1, rfl⟩, if_neg (jnlt (x := 48) 48 rfl (by omega) (by omega)), if_pos (jle (x := 57) 57 rfl q.2.2 (by omega))]
    simp only [nm]
    rw [show gI (sI tx 703 (jn p2)) 703 = jn p2 from rfl, jn_s, sI_sI, show gI (sI tx 703 (jn (p2 + 1))) 702 = jn s from b2]
    generalize htd : sA (sI tmo 25 (jn p2)) 23 (jn (L + 1)) (jn p2) = tmd
    have fd : fx [23, 25] [] tmo tmd := by subst htd; exact (fx_sI rfl).trans (fx_sA rfl)
    have step : rL 2 p2 tmo = rL 0 (p2 + 1) tmd := by
      rw [rL_2 hn hcp a2 q.1 (by omega) b5 (by omega), if_pos q.2, htd]
    have d23 : ∀ l, gA tmd 23 l = if l = L + 1 then jn p2 else gA tmo 23 l := by
      intro l
      subst htd
      rw [gA_sA, jn_cl (by omega)]
      by_cases e : l = L + 1
      · subst e; rw [upd_at, if_pos rfl]
      · rw [upd_ne e, if_neg e]; rfl
    have d24 : gA tmd 24 = gA tmo 24 := (fd.1 24 rfl).2.2.1
    have d20 : gA tmd 20 = gA tmo 20 := (fd.1 20 rfl).2.2.1
    have d21 : gA tmd 21 = gA tmo 21 := (fd.1 21 rfl).2.2.1
    have ed : nK tmd = nK tmo := nK_fr fd
    have Rd1 := (Rp.x (tx' := sI tx 703 (jn (p2 + 1))) (s' := s) (p' := p2 + 1) (by
      rw [show sI tx 703 (jn (p2 + 1)) = sI (sI tx 703 (jn p2)) 703 (jn (p2 + 1)) from sI_sI.symm]
      exact fx_sI rfl) b2 rfl (by omega) (by omega) (by omega)).m (tm' := tmd) (L' := L + 1) (fd.wk rfl rfl) ((fd.1 19 rfl).1.trans b5)
    have it := item_of_row (r := 2) (m := 0) (by omega) (by omega) (show gA tmd 20 (4 * (L + 1) + 3) = jn 0 by rw [d20]; exact o3 3 (by omega)) (by omega) (IH (p2 + 1) s (sI tx 703 (jn (p2 + 1))) tmd Rd1 (fun q hq => by rw [d20]; exact o3 q (by omega)))
    have hm0 : gA tmd 20 (4 * L) = jn m := by rw [d20, o4 _ (by omega)]; exact hm
    rcases it with ⟨w, tx3, k3, bad⟩ | ⟨k, tx3, p3, tm3, k3, run3, ⟨lt3, ag3⟩, ns3, v3⟩
    · obtain ⟨t4, k4, bad4⟩ := bad_hold bad w
      obtain ⟨t5, k5, bad5⟩ := bad_J126 rr bad4 (s := s) (by omega) (jn (c p2)) (jn p2)
      refine Or.inl ⟨-1, t5, ?_, ?_⟩
      · rw [show rr (sI tx 703 (jn (p2 + 1))) 1 (jn (L + 1)) = _ from k3, bs]
        unfold x7_readSome_J50
        dsimp only
        rw [k4, bs, bad_B56 rr bad4, bs, k5]
      · rw [run, o1, run2, step]; exact bad5
    · obtain ⟨tm40, -, ⟨R40, -⟩, -⟩ := v3 0
      have hd4 := R40.2.2.2.2.2.2
      obtain ⟨t4, k4, f4, h4a, h4b⟩ := hold_eq R40.2.1.1 R40.2.1.2.1 (by omega) (jn k)
      have := some_loop rr hn hc hK0 (L := L) (m0 := m) (p0 := p2 + 1) (p2 := p2) (s := s) (txe := sI tx 703 (jn (p2 + 1))) (tme := tmd) hL IH Rd1.2.2.2.2.2.1 (by rw [d23, if_pos rfl]) (by rw [d24]; exact o8) q.1 q.2 hm0 hm2 (n - p3) p3 1 t4 tm3 (by omega) (by omega) (by omega) (by omega) (ns3 (by omega)) ag3 (fun v => by
        obtain ⟨tm4, e1, ⟨R4, n4, m4, x4⟩, e2, e3, e4, e5, e6⟩ := v3 v
        refine ⟨tm4, e1, R4.x (f4.wk rfl rfl) h4a ((f4.1 703 rfl).1.trans R4.2.1.2.2.1) (by omega) (Nat.le_refl _) hd4.2, ⟨by omega, by omega⟩, m4, ?_, e3, e4, ?_⟩
        · intro i hi
          rw [h4b, if_neg (by omega)]
          exact x4 i hi
        · intro i hi
          have : i = 0 := by omega
          subst this
          rw [h4b, if_pos (show s + 0 = s from rfl), e5]
          exact ⟨rfl, k, e2, rfl⟩) _ rfl
      rw [show rr (sI tx 703 (jn (p2 + 1))) 1 (jn (L + 1)) = _ from k3, bs]
      unfold x7_readSome_J50
      dsimp only
      rw [k4, bs]
      rcases this with ⟨w, tx5, j1, j2⟩ | ⟨k', tx5, p5, tm5, j1, j2, j3, R5, n5, k5, F5, v20, v21, v21b, X5⟩
      · exact Or.inl ⟨w, tx5, j1, by rw [run, o1, run2, step, run3]; exact j2⟩
      · refine item0 j1 (by rw [run, o1, run2, step, run3]; exact j2) (by omega) R5 ⟨by omega, by omega⟩ ?_ (fun i hi => X5 i hi) k5 v20 v21 (fun i hi => ?_)
        · refine ⟨fun x hx => ?_, fun l hl => ?_⟩
          · rw [(F5.1 x hx).1, d20, o4 x (by omega)]
            exact ⟨rfl, fun i hi => by rw [(F5.1 x hx).2 i hi, d21, o5]⟩
          · rw [(F5.2 l hl).1, (F5.2 l hl).2, d23, if_neg (by omega), d24, o6, o7 l hl]
            exact ⟨rfl, rfl⟩
        · rw [v21b i hi, d21, o5]
  · have cl : (if chr c n p2 < (48 : Int32) then x7_readSome_J17 rr (sI tx 703 (jn p2)) else if chr c n p2 ≤ (57 : Int32) then nm (gI (sI tx 703 (jn p2)) 703) (fun x41 : Int32 => nm (sI (sI tx 703 (jn p2)) 703 ((gI (sI tx 703 (jn p2)) 703) + (1 : Int32))) (fun t42 : St => nm (gI t42 702) (fun x43 : Int32 => (rr t42 (1 : Int32) (jn (L + 1))).bind (fun q44 => x7_readSome_J50 rr q44.2 (jn (L + 1)) (chr c n p2) x41 x43 q44.1)))) else x7_readSome_J17 rr (sI tx 703 (jn p2))) = x7_readSome_J17 rr (sI tx 703 (jn p2)) := by
      by_cases z : p2 < n
      · rw [(chr_eq (a := c p2) hcp (by omega)).mpr ⟨z, rfl⟩]
        by_cases z2 : c p2 < 48
        · rw [if_pos (jlt (x := 48) 48 rfl z2 (by omega))]
        · rw [if_neg (jnlt (x := 48) 48 rfl (by omega) (by omega)), if_neg (jnle (x := 57) 57 rfl (by omega) (by omega))]
      · have : chr c n p2 = -1 := by unfold chr; rw [if_neg z]
        rw [this, if_pos (by decide)]
    rw [cl]
    unfold x7_readSome_J17
    rw [refuseHere_eq hn hc g2 Rp.1.1 Rp.2.1.2.2.1 g4, bs]
    dsimp only
    by_cases z : p2 < n
    · have st : rL 2 p2 tmo = some (jn 1, sA (sI tmo 25 (jn p2)) 23 (jn (L + 1)) (jn p2)) := by
        rw [rL_2 hn hcp a2 z (g4 z) b5 (by omega), if_neg (fun e => q ⟨z, e⟩)]
      rw [if_pos z]
      exact Or.inl ⟨-1, _, rfl, by rw [run, o1, run2]; exact Rp.bad2 (q := 1) (at_ := p2) hn (by omega) (by omega) st rfl ((Rp.2.2.1.2.2.1).trans (AgM.of (fx_sI (S := [23, 25]) (T := []) rfl |>.trans (fx_sA rfl))  (h3 := rfl)) (Nat.le_refl _) (Nat.le_refl _))⟩
    · have : p2 = n := by omega
      subst this
      rw [if_neg z]
      have st : rL 2 p2 tmo = some (jn 2, sI tmo 25 (jn p2)) := by
        rw [rL_end hn a2]
        unfold rK
        simp only [Sum.elim, nm]
        rw [if_neg (show ¬ jn 2 = 1 by decide), a2.1]
        rfl
      exact Or.inl ⟨-1, _, rfl, by rw [run, o1, run2]; exact Rp.bad2 (q := 2) (at_ := p2) hn (by omega) (by omega) st rfl ((Rp.2.2.1.2.2.1).trans (AgM.of (fx_sI (S := [25]) (T := []) rfl)) (Nat.le_refl _) (Nat.le_refl _))⟩
