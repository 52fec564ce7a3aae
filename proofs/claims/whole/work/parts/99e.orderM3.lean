/-! The reference's search, over all orders. -/
theorem m_copy_best {u : St} {l : List Nat} {n : Nat} {st : Nat → Nat} (v2 : Int32) (h : rowIs u l n) (ho : okL l n) (h7 : n ≤ 7) (h44 : ∀ c, c < n → gA u 44 c = jn (st c)) : ∃ u', lp (fun x : Int32 × St => m_findOrder_B159 v2 (jn n) x.1 x.2) (jn 0, u) = some u' ∧ fx [64] [] u u' ∧ ∀ i, i < n → gA u' 64 i = jn (st (l.getD i 0)) := by
  have k := lp_cnt (b := fun x : Int32 × St => m_findOrder_B159 v2 (jn n) x.1 x.2) (fun i u => (jn i, u)) n
    (fun m s => fx [64] [] u s ∧ ∀ i, i < m → gA s 64 i = jn (st (l.getD i 0)))
    (fun s => fx [64] [] u s ∧ ∀ i, i < n → gA s 64 i = jn (st (l.getD i 0))) (by
      rintro i s hi ⟨hf, h1⟩
      dsimp only
      unfold m_findOrder_B159
      have a1 := ho.get (j := i) (by omega)
      have g7 : ∀ {α : Type} (x : Option α), gd (jn i) 7 x = x := fun x => gd_jn (by omega) (by omega)
      rw [if_neg (nle hi (by omega)), g7, g7, jn_cl (by omega), (hf.1 63 rfl).2.2.1, (hf.1 44 rfl).2.2.1, h i hi, gd_jn (by omega) (by omega), jn_cl (by omega), h44 _ a1]
      simp only [nm, jn_s]
      refine ⟨_, rfl, hf.trans (fx_sA rfl), ?_⟩
      intro i1 hi1
      rw [gA_sA, jn_cl (by omega)]
      by_cases e : i1 = i
      · subst e; rw [upd_at]
      · rw [upd_ne e]; exact h1 i1 (by omega)) (by
      rintro s hs
      exact ⟨s, by dsimp only; unfold m_findOrder_B159; rw [if_pos (lee (by omega))], hs⟩) 0 u (by omega) ⟨fx.rfl, fun i hi => absurd hi (by omega)⟩
  exact k
theorem enc_m1 {b : Nat} (hb : b ≤ 601) : (enc b = -1) ↔ b = 601 := by
  constructor
  · intro e
    by_cases q : b = 601
    · exact q
    · rw [enc_ne (by omega)] at e
      exact absurd e (jn_ne1 (by omega))
  · rintro rfl
    exact enc_no (Nat.le_refl _)
theorem m_search {E : Nat → Nat → Nat} (hE : EM E) {n minute : Nat} {st : Nat → Nat} (h7 : n ≤ 7) (hmin : minute ≤ 600) (t0 : St) (ht : ∀ c, c < n → ∀ a, minute ≤ a → a ≤ 600 → gA t0 62 (601 * c + a) = enc (E c a)) (h44 : ∀ c, c < n → gA t0 44 c = jn (st c)) : ∀ (f : Nat) (l : List Nat) (u : St) (b : Nat) (B : List Nat), (genL n f l).length < f → fx [63, 64, 65] [] t0 u → rowIs u l n → okL l n → b ≤ 601 → gI u 65 = enc b → (b < 601 → ∀ i, i < n → gA u 64 i = jn (st (B.getD i 0))) → ∃ u', lp (fun x : Int32 × St => m_findOrder_B114 (jn minute) (jn n) x.1 x.2) (1, u) = some u' ∧ fx [63, 64, 65] [] t0 u' ∧ ∀ b' B', (genL n f l).foldl (stp (fun p => endL E p minute)) (b, B) = (b', B') → gI u' 65 = enc b' ∧ (b' < 601 → ∀ i, i < n → gA u' 64 i = jn (st (B'.getD i 0))) := by
  intro f
  induction f with
  | zero =>
    intro l u b B h
    exact absurd h (by omega)
  | succ f ih =>
    intro l u b B hlen hf hr ho hb h65 h64
    have hv := endL_le hE l minute (by omega)
    have e62 : gA u 62 = gA t0 62 := (hf.1 62 rfl).2.2.1
    have e44 : gA u 44 = gA t0 44 := (hf.1 44 rfl).2.2.1
    have ke : m_endOf u (jn n) (jn minute) = some (enc (endL E l minute)) := by
      unfold m_endOf
      have k := m_endOf_eq hE hr ho h7 (fun c hc a h1 h2 => by rw [e62]; exact ht c hc a h1 h2) n 0 minute (by omega) (Nat.le_refl _) (by omega)
      rw [enc_ne (by omega)] at k
      rw [show (jn minute, (0 : Int32)) = (jn minute, jn 0) from rfl, k, bs]
      rfl
    -- after the comparison: a state with the row as it was
    have cont : ∀ (u1 : St) (b1 : Nat) (B1 : List Nat), stp (fun p => endL E p minute) (b, B) l = (b1, B1) → fx [64, 65] [] u u1 → b1 ≤ 601 → gI u1 65 = enc b1 → (b1 < 601 → ∀ i, i < n → gA u1 64 i = jn (st (B1.getD i 0))) → (fun x : Int32 × St => m_findOrder_B114 (jn minute) (jn n) x.1 x.2) (1, u) = m_findOrder_J190 u1 (jn minute) (jn n) → ∃ u', lp (fun x : Int32 × St => m_findOrder_B114 (jn minute) (jn n) x.1 x.2) (1, u) = some u' ∧ fx [63, 64, 65] [] t0 u' ∧ ∀ b' B', (genL n (f + 1) l).foldl (stp (fun p => endL E p minute)) (b, B) = (b', B') → gI u' 65 = enc b' ∧ (b' < 601 → ∀ i, i < n → gA u' 64 i = jn (st (B'.getD i 0))) := by
      intro u1 b1 B1 hst hf1 hb1 h651 h641 hb114
      have r1 : rowIs u1 l n := fun j hj => by rw [(hf1.1 63 rfl).2.2.1]; exact hr j hj
      have nx := m_next_eq r1 ho h7
      have g0 : genL n (f + 1) l = l :: (match nextL n l with | none => [] | some l' => genL n f l') := rfl
      unfold m_findOrder_J190 at hb114
      cases hn : nextL n l with
      | none =>
        rw [hn] at nx g0
        dsimp only at nx g0
        rw [nx, bs] at hb114
        refine ⟨u1, ?_, hf.trans (hf1.wk rfl rfl), ?_⟩
        · rw [lp_l (b := fun x : Int32 × St => m_findOrder_B114 (jn minute) (jn n) x.1 x.2) hb114]
          exact lp_r (by dsimp only; unfold m_findOrder_B114; rw [if_pos rfl])
        · intro b' B' e
          rw [g0] at e
          have e : stp (fun p => endL E p minute) (b, B) l = (b', B') := e
          rw [hst] at e
          cases e
          exact ⟨h651, h641⟩
      | some l' =>
        rw [hn] at nx g0
        dsimp only at nx g0
        obtain ⟨u2, k, k1, k2, k3⟩ := nx
        rw [k, bs] at hb114
        rw [g0] at hlen
        have hlen' : (genL n f l').length < f := by
          rw [List.length_cons] at hlen
          omega
        obtain ⟨u', j1, j2, j3⟩ := ih l' u2 b1 B1 hlen' ((hf.trans (hf1.wk rfl rfl)).trans (k3.wk rfl rfl)) k1 k2 hb1 (by rw [(k3.1 65 rfl).1]; exact h651) (fun q i hi => by rw [(k3.1 64 rfl).2.2.1]; exact h641 q i hi)
        refine ⟨u', ?_, j2, ?_⟩
        · rw [lp_l (b := fun x : Int32 × St => m_findOrder_B114 (jn minute) (jn n) x.1 x.2) hb114]
          exact j1
        · intro b' B' e
          rw [g0, List.foldl_cons, hst] at e
          exact j3 b' B' e
    have b0 : (fun x : Int32 × St => m_findOrder_B114 (jn minute) (jn n) x.1 x.2) (1, u) = if enc (endL E l minute) = -1 then m_findOrder_J190 u (jn minute) (jn n) else if enc b = -1 then m_findOrder_J150 u (jn minute) (jn n) (enc (endL E l minute)) else if enc b ≤ enc (endL E l minute) then m_findOrder_J190 u (jn minute) (jn n) else m_findOrder_J150 u (jn minute) (jn n) (enc (endL E l minute)) := by
      dsimp only
      unfold m_findOrder_B114
      rw [if_neg (show ¬ (1 : Int32) = 0 by decide), ke, bs, h65]
    by_cases q : endL E l minute < b
    · -- better: it is kept
      have x1 : ¬ enc (endL E l minute) = -1 := fun e => by have := (enc_m1 hv).mp e; omega
      have x2 : ¬ (¬ enc b = -1 ∧ enc b ≤ enc (endL E l minute)) := by
        rintro ⟨y1, y2⟩
        have : ¬ b = 601 := fun e => y1 ((enc_m1 hb).mpr e)
        rw [enc_ne (by omega), enc_ne (by omega)] at y2
        have := (jn_le (by omega) (by omega)).mp y2
        omega
      have b1 : (fun x : Int32 × St => m_findOrder_B114 (jn minute) (jn n) x.1 x.2) (1, u) = m_findOrder_J150 u (jn minute) (jn n) (enc (endL E l minute)) := by
        rw [b0, if_neg x1]
        by_cases y : enc b = -1
        · rw [if_pos y]
        · rw [if_neg y, if_neg (fun e => x2 ⟨y, e⟩)]
      obtain ⟨u2, k, k1, k2⟩ := m_copy_best (u := sI u 65 (enc (endL E l minute))) (st := st) (jn minute) (l := l) (n := n) hr ho h7 (fun c hc => by show gA u 44 c = _; rw [e44]; exact h44 c hc)
      refine cont u2 (endL E l minute) l (if_pos q) ((fx_sI rfl).trans (k1.wk rfl rfl)) hv ?_ (fun _ => k2) ?_
      · rw [(k1.1 65 rfl).1]
        rfl
      · rw [b1]
        unfold m_findOrder_J150
        simp only [nm]
        rw [show (0 : Int32) = jn 0 from rfl, k, bs]
    · refine cont u b B (if_neg q) fx.rfl hb h65 h64 ?_
      rw [b0]
      by_cases y1 : enc (endL E l minute) = -1
      · rw [if_pos y1]
      · have z1 : ¬ endL E l minute = 601 := fun e => y1 ((enc_m1 hv).mpr e)
        have z2 : ¬ enc b = -1 := fun e => by have := (enc_m1 hb).mp e; omega
        have z3 : ¬ b = 601 := fun e => z2 ((enc_m1 hb).mpr e)
        rw [if_neg y1, if_neg z2, if_pos]
        rw [enc_ne (by omega), enc_ne (by omega)]
        exact (jn_le (by omega) (by omega)).mpr (by omega)
theorem gen_all {n : Nat} (h : n ≤ 7) : ∃ f, genL n f (List.range n) = lexP n (List.range n) ∧ (genL n f (List.range n)).length < f := by
  rcases (show n = 0 ∨ n = 1 ∨ n = 2 ∨ n = 3 ∨ n = 4 ∨ n = 5 ∨ n = 6 ∨ n = 7 by omega) with rfl | rfl | rfl | rfl | rfl | rfl | rfl | rfl
  · exact ⟨_, gen_0, by rw [gen_0]; exact genlen_0⟩
  · exact ⟨_, gen_1, by rw [gen_1]; exact genlen_1⟩
  · exact ⟨_, gen_2, by rw [gen_2]; exact genlen_2⟩
  · exact ⟨_, gen_3, by rw [gen_3]; exact genlen_3⟩
  · exact ⟨_, gen_4, by rw [gen_4]; exact genlen_4⟩
  · exact ⟨_, gen_5, by rw [gen_5]; exact genlen_5⟩
  · exact ⟨_, gen_6, by rw [gen_6]; exact genlen_6⟩
  · exact ⟨_, gen_7, by rw [gen_7]; exact genlen_7⟩
theorem okL_range (n : Nat) : okL (List.range n) n := ⟨List.length_range, fun x hx => List.mem_range.mp hx⟩
theorem range_get {n j : Nat} (h : j < n) : (List.range n).getD j 0 = j := by
  rw [List.getD_eq_getElem?_getD, List.getElem?_range h]
  rfl
/-- what the reference's search finds -/
theorem m_findOrder_eq {tx t : St} (hH : RH tx t) (hB : RB tx t) {minute set : Nat} (hm : minute ≤ 600) (hset : set < 65536) (h7 : (csL set 16).length ≤ 7) : ∃ t', m_findOrder t (jn set) (jn minute) = some t' ∧ gI t' 65 = enc (mfe (fun c a => Eb t ((csL set 16).getD c 0) a) (csL set 16).length (List.range (csL set 16).length) minute) ∧ (mfe (fun c a => Eb t ((csL set 16).getD c 0) a) (csL set 16).length (List.range (csL set 16).length) minute < 601 → ∀ i, i < (csL set 16).length → gA t' 64 i = jn ((csL set 16).getD ((grd (fun c a => Eb t ((csL set 16).getD c 0) a) (csL set 16).length (List.range (csL set 16).length) minute (mfe (fun c a => Eb t ((csL set 16).getD c 0) a) (csL set 16).length (List.range (csL set 16).length) minute)).getD i 0) 0)) := by
  have hE := Eb_EM hH hB (fun c => (csL set 16).getD c 0) (fun c => csL_getlt set c)
  obtain ⟨t1, k, kf, kt⟩ := m_tables hH hB hm hset h7
  obtain ⟨f, g1, g2⟩ := gen_all h7
  have o := okL_range (csL set 16).length
  have r : rowIs (sI t1 65 (-1)) (List.range (csL set 16).length) (csL set 16).length := fun j hj => by
    rw [range_get hj]
    exact (kt j hj).2.1
  obtain ⟨t2, s1, s2, s3⟩ := m_search hE (st := fun c => (csL set 16).getD c 0) h7 hm (sI t1 65 (-1)) (fun c hc a h1 h2 => (kt c hc).2.2 a h1 h2) (fun c hc => (kt c hc).1) f (List.range (csL set 16).length) (sI t1 65 (-1)) 601 [] g2 fx.rfl r o (Nat.le_refl _) rfl (fun q => absurd q (by omega))
  have fo := fold_grd hE (fun p => endL (fun c a => Eb t ((csL set 16).getD c 0) a) p minute) (csL set 16).length (List.range (csL set 16).length) minute [] 601 [] (by omega) (Nat.le_refl _) (fun p => rfl)
  have fo2 : (lexP (csL set 16).length (List.range (csL set 16).length)).map (([] : List Nat) ++ ·) = lexP (csL set 16).length (List.range (csL set 16).length) := by
    rw [show (fun x : List Nat => ([] : List Nat) ++ x) = id from rfl, List.map_id]
  rw [fo2, ← g1] at fo
  refine ⟨t2, ?_, ?_⟩
  · unfold m_findOrder
    rw [k, bs]
    simp only [nm]
    rw [s1, bs]
  · have cap := mfe_cap (E := fun c a => Eb t ((csL set 16).getD c 0) a) (csL set 16).length (List.range (csL set 16).length) minute (by omega)
    by_cases q : mfe (fun c a => Eb t ((csL set 16).getD c 0) a) (csL set 16).length (List.range (csL set 16).length) minute < 601
    · rw [if_pos q] at fo
      obtain ⟨e1, e2⟩ := s3 _ _ fo
      exact ⟨e1, fun _ i hi => e2 q i hi⟩
    · rw [if_neg q] at fo
      obtain ⟨e1, e2⟩ := s3 _ _ fo
      refine ⟨?_, fun q2 => absurd q2 q⟩
      rw [e1, enc_no (Nat.le_refl _), enc_no (by omega)]
