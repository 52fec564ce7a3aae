/-! The calls may and ask. -/
/-- the best mark so far, and what it leaves -/
def akF (tm : St) (l : List Nat) (s m : Nat) : Nat → Int32 × Nat
  | 0 => (-1, cntB (okI tm l s m) l.length)
  | b + 1 =>
    let p := akF tm l s m b
    if (s ||| m).testBit b then p
    else
      let w := cntB (fun i => okI tm l s m i && (mkN tm (l.getD i 0)).testBit b) l.length
      let g := if w < cntB (okI tm l s m) l.length - w then cntB (okI tm l s m) l.length - w else w
      if g < p.2 then (jn b, g) else p
theorem akF_s (tm : St) (l : List Nat) (s m b : Nat) : akF tm l s m (b + 1) = if (s ||| m).testBit b then akF tm l s m b else if (if cntB (fun i => okI tm l s m i && (mkN tm (l.getD i 0)).testBit b) l.length < cntB (okI tm l s m) l.length - cntB (fun i => okI tm l s m i && (mkN tm (l.getD i 0)).testBit b) l.length then cntB (okI tm l s m) l.length - cntB (fun i => okI tm l s m i && (mkN tm (l.getD i 0)).testBit b) l.length else cntB (fun i => okI tm l s m i && (mkN tm (l.getD i 0)).testBit b) l.length) < (akF tm l s m b).2 then (jn b, (if cntB (fun i => okI tm l s m i && (mkN tm (l.getD i 0)).testBit b) l.length < cntB (okI tm l s m) l.length - cntB (fun i => okI tm l s m i && (mkN tm (l.getD i 0)).testBit b) l.length then cntB (okI tm l s m) l.length - cntB (fun i => okI tm l s m i && (mkN tm (l.getD i 0)).testBit b) l.length else cntB (fun i => okI tm l s m i && (mkN tm (l.getD i 0)).testBit b) l.length)) else akF tm l s m b := rfl
theorem and_le (f g : Nat → Bool) (n : Nat) : cntB (fun i => f i && g i) n ≤ cntB f n := cntB_mono fun i _ h => by
  rw [Bool.and_eq_true] at h
  exact h.1
theorem akF_le (tm : St) (l : List Nat) (s m : Nat) : ∀ b, (akF tm l s m b).2 ≤ cntB (okI tm l s m) l.length := by
  intro b
  induction b with
  | zero => exact Nat.le_refl _
  | succ b ih =>
    rw [akF_s]
    by_cases c : (s ||| m).testBit b = true
    · rw [if_pos c]; exact ih
    · rw [if_neg c]
      generalize (if cntB (fun i => okI tm l s m i && (mkN tm (l.getD i 0)).testBit b) l.length < cntB (okI tm l s m) l.length - cntB (fun i => okI tm l s m i && (mkN tm (l.getD i 0)).testBit b) l.length then cntB (okI tm l s m) l.length - cntB (fun i => okI tm l s m i && (mkN tm (l.getD i 0)).testBit b) l.length else cntB (fun i => okI tm l s m i && (mkN tm (l.getD i 0)).testBit b) l.length) = g
      by_cases c2 : g < (akF tm l s m b).2
      · rw [if_pos c2]
        show g ≤ _
        omega
      · rw [if_neg c2]; exact ih
theorem akF_few {tm : St} {l : List Nat} {s m : Nat} (h : cntB (okI tm l s m) l.length < 2) : ∀ b, akF tm l s m b = (-1, cntB (okI tm l s m) l.length) := by
  intro b
  induction b with
  | zero => rfl
  | succ b ih =>
    have w := and_le (okI tm l s m) (fun i => (mkN tm (l.getD i 0)).testBit b) l.length
    rw [akF_s, ih]
    split
    · rfl
    · rw [if_neg]
      dsimp only
      split <;> omega
theorem okI_bit {tm : St} {l : List Nat} {s m b : Nat} (i : Nat) : okI tm l (s ||| 2 ^ b) m i = (okI tm l s m i && (mkN tm (l.getD i 0)).testBit b) := by
  unfold okI okM
  have : (mkN tm (l.getD i 0) &&& (s ||| 2 ^ b) = s ||| 2 ^ b) ↔ (mkN tm (l.getD i 0) &&& s = s ∧ (mkN tm (l.getD i 0)).testBit b = true) := by
    generalize mkN tm (l.getD i 0) = k
    constructor
    · intro h
      have hb : ∀ i, (k.testBit i && (s.testBit i || decide (b = i))) = (s.testBit i || decide (b = i)) := fun i => by
        have := congrArg (fun x => Nat.testBit x i) h
        simp only [Nat.testBit_and, Nat.testBit_or, Nat.testBit_two_pow] at this
        exact this
      refine ⟨Nat.eq_of_testBit_eq fun i => ?_, ?_⟩
      · have := hb i
        rw [Nat.testBit_and]
        revert this
        cases s.testBit i <;> cases k.testBit i <;> simp
      · have := hb b
        simp at this
        exact this
    · rintro ⟨h1, h2⟩
      apply Nat.eq_of_testBit_eq
      intro i
      have := congrArg (fun x => Nat.testBit x i) h1
      simp only [Nat.testBit_and] at this
      simp only [Nat.testBit_and, Nat.testBit_or, Nat.testBit_two_pow]
      by_cases e : b = i
      · subst e
        rw [h2]
        simp
      · rw [decide_eq_false e, Bool.or_false]
        exact this
  by_cases c : mkN tm (l.getD i 0) &&& (s ||| 2 ^ b) = s ||| 2 ^ b
  · obtain ⟨c1, c2⟩ := this.mp c
    rw [decide_eq_true c, decide_eq_true c1, c2]
    simp
  · rw [decide_eq_false c]
    by_cases c1 : mkN tm (l.getD i 0) &&& s = s
    · have c2 : (mkN tm (l.getD i 0)).testBit b = false := by
        cases hb : (mkN tm (l.getD i 0)).testBit b with
        | false => rfl
        | true => exact absurd (this.mpr ⟨c1, hb⟩) c
      rw [c2]
      simp
    · rw [decide_eq_false c1]
      simp
theorem m_ask_eq {tx tm t : St} (h : RH tx tm) (h3 : gA t 3 = gA tm 3) {l : List Nat} (hl : LsIs t l) (hlt : ∀ i, i < l.length → l.getD i 0 < 65536) {s m : Nat} (hs : s ≤ 255) (hm : m ≤ 255) : lp (fun x : Int32 × Int32 × Int32 => m_ask_B39 t (jn s) (jn m) (jn (cntB (okI tm l s m) l.length)) x.1 x.2.1 x.2.2) ((-1 : Int32), jn (cntB (okI tm l s m) l.length), (0 : Int32)) = some (akF tm l s m 8).1 := by
  have len := hl.2.1
  have cl := cntB_le (okI tm l s m) l.length
  have or255 : s ||| m < 2 ^ 8 := Nat.or_lt_two_pow (by omega) (by omega)
  have lo := lp_cnt (b := fun x : Int32 × Int32 × Int32 => m_ask_B39 t (jn s) (jn m) (jn (cntB (okI tm l s m) l.length)) x.1 x.2.1 x.2.2) (fun i z => (z.1, z.2, jn i)) 8
    (fun i z => z = ((akF tm l s m i).1, jn (akF tm l s m i).2))
    (fun z => z = (akF tm l s m 8).1) (by
      rintro b z hb rfl
      have al := akF_le tm l s m b
      refine ⟨_, ?_, rfl⟩
      dsimp only
      unfold m_ask_B39
      rw [if_neg (jnge (x := 8) 8 rfl (by omega) (by omega) (by omega)), jn_or, akF_s]
      cases hbit : (s ||| m).testBit b with
      | true =>
        rw [if_neg (fun e => by rw [(bit_iff0 (by omega) (by omega)).mp e] at hbit; cases hbit), if_pos rfl]
        simp only [nm, jn_s]
      | false =>
        have p2 : 2 ^ b < 2 ^ 8 := Nat.pow_lt_pow_right (by omega) hb
        have s2 : s ||| 2 ^ b < 2 ^ 8 := Nat.or_lt_two_pow (by omega) p2
        have e28 : (2 : Nat) ^ 8 = 256 := rfl
        have wl := and_le (okI tm l s m) (fun i => (mkN tm (l.getD i 0)).testBit b) l.length
        rw [if_pos ((bit_iff0 (by omega) (by omega)).mpr hbit), jn_shl1 b (by omega), jn_or, mayBe_eq h h3 hl hlt (by omega) (by omega), bs, if_neg (show ¬ false = true by decide), cntB_cong (fun i _ => okI_bit i)]
        generalize cntB (fun i => okI tm l s m i && (mkN tm (l.getD i 0)).testBit b) l.length = w at wl ⊢
        generalize cntB (okI tm l s m) l.length = all at al wl cl ⊢
        generalize akF tm l s m b = p at al ⊢
        rw [jn_sub wl]
        unfold m_ask_J90 m_ask_J106
        by_cases c : w < all - w
        · rw [if_pos ((jn_le (by omega) (by omega)).mpr (by omega)), if_pos c]
          by_cases c2 : all - w < p.2
          · rw [if_neg (nle c2 (by omega)), if_neg (nle c2 (by omega)), if_pos c2]
            simp only [nm, jn_s]
          · rw [if_pos ((jn_le (by omega) (by omega)).mpr (by omega)), if_pos ((jn_le (by omega) (by omega)).mpr (by omega)), if_neg c2]
            simp only [nm, jn_s]
        · have cc : (if jn w ≤ jn (all - w) then (if jn p.2 ≤ jn (all - w) then (if jn p.2 ≤ jn (all - w) then nm (jn b + 1) (fun x2 : Int32 => some (.inl (p.1, jn p.2, x2))) else nm (jn b + 1) (fun x3 : Int32 => some (.inl (p.1, jn (all - w), x3)))) else (if jn p.2 ≤ jn (all - w) then nm (jn b + 1) (fun x2 : Int32 => some (.inl (jn b, jn p.2, x2))) else nm (jn b + 1) (fun x3 : Int32 => some (.inl (jn b, jn (all - w), x3))))) else (if jn p.2 ≤ jn w then (if jn p.2 ≤ jn w then nm (jn b + 1) (fun x2 : Int32 => some (.inl (p.1, jn p.2, x2))) else nm (jn b + 1) (fun x3 : Int32 => some (.inl (p.1, jn w, x3)))) else (if jn p.2 ≤ jn w then nm (jn b + 1) (fun x2 : Int32 => some (.inl (jn b, jn p.2, x2))) else nm (jn b + 1) (fun x3 : Int32 => some (.inl (jn b, jn w, x3))))) : Option ((Int32 × Int32 × Int32) ⊕ Int32)) = some (.inl (if w < p.2 then (jn b, jn w, jn (b + 1)) else (p.1, jn p.2, jn (b + 1)))) := by
            by_cases c3 : w ≤ all - w
            · have ew : all - w = w := by omega
              rw [if_pos ((jn_le (by omega) (by omega)).mpr c3), ew]
              by_cases c2 : w < p.2
              · rw [if_neg (nle c2 (by omega)), if_neg (nle c2 (by omega)), if_pos c2]
                simp only [nm, jn_s]
              · rw [if_pos ((jn_le (by omega) (by omega)).mpr (by omega)), if_pos ((jn_le (by omega) (by omega)).mpr (by omega)), if_neg c2]
                simp only [nm, jn_s]
            · rw [if_neg (fun e => c3 ((jn_le (by omega) (by omega)).mp e))]
              by_cases c2 : w < p.2
              · rw [if_neg (nle c2 (by omega)), if_neg (nle c2 (by omega)), if_pos c2]
                simp only [nm, jn_s]
              · rw [if_pos ((jn_le (by omega) (by omega)).mpr (by omega)), if_pos ((jn_le (by omega) (by omega)).mpr (by omega)), if_neg c2]
                simp only [nm, jn_s]
          rw [if_neg c]
          refine Eq.trans cc ?_
          by_cases c2 : w < p.2
          · rw [if_pos c2, if_pos c2]
          · rw [if_neg c2, if_neg c2]) (by
      rintro z rfl
      exact ⟨_, by dsimp only; unfold m_ask_B39; rw [if_pos (by decide)], rfl⟩) 0 (-1, jn (cntB (okI tm l s m) l.length)) (by omega) rfl
  obtain ⟨z, k1, rfl⟩ := lo
  exact k1
theorem x_ask_eq {tx tm t : St} (h : RH tx tm) (hN : gN t 500 = 80) (h5 : gA t 500 = gA tx 500) {l : List Nat} (hl : LxIs t l) (h2 : gN t 1002 = 200) (h8 : gN t 1008 = 200) (hlt : ∀ i, i < l.length → l.getD i 0 < 65536) {s m : Nat} (hs : s ≤ 255) (hm : m ≤ 255) : ∃ t', x10_markToAsk t (jn s) (jn m) = some ((akF tm l s m 8).1, t') ∧ fx [1008] [] t t' := by
  have len := hl.2.1
  obtain ⟨u, k1, f1, v1⟩ := sift_eq h hN h5 hl h2 h8 hlt (s := s) (m := m) (by omega) (by omega)
  have cl := cntB_le (okI tm l s m) l.length
  have or255 : s ||| m < 2 ^ 8 := Nat.or_lt_two_pow (by omega) (by omega)
  have N8 : gN u 1008 = 200 := (f1.2 1008 rfl).trans h8
  refine ⟨u, ?_, f1⟩
  have lo := lp_cnt (b := fun x : Int32 × Int32 × Int32 => x10_markToAsk_B16 u (jn s) (jn m) (jn (cntB (okI tm l s m) l.length)) x.1 x.2.1 x.2.2) (fun i z => (z.1, z.2, jn i)) 8
    (fun i z => z = ((akF tm l s m i).1, jn (akF tm l s m i).2))
    (fun z => z = (akF tm l s m 8).1) (by
      rintro b z hb rfl
      have al := akF_le tm l s m b
      refine ⟨_, ?_, rfl⟩
      dsimp only
      unfold x10_markToAsk_B16
      rw [if_neg (jnge (x := 8) 8 rfl (by omega) (by omega) (by omega)), jn_or, akF_s]
      cases hbit : (s ||| m).testBit b with
      | true =>
        rw [if_pos ((bit_iff (by omega) (by omega)).mpr hbit), if_pos rfl]
        simp only [nm, jn_s]
      | false =>
        have wl := and_le (okI tm l s m) (fun i => (mkN tm (l.getD i 0)).testBit b) l.length
        have ml := mkL_len tm l s m l.length
        -- how many have the mark
        have l2 := lp_cnt (b := fun x : Int32 × Int32 => x10_markToAsk_B44 u (jn s) (jn m) (jn (cntB (okI tm l s m) l.length)) (akF tm l s m b).1 (jn (akF tm l s m b).2) (jn b) x.1 x.2) (fun i z => (z, jn i)) (cntB (okI tm l s m) l.length)
          (fun i z => z = jn (cntB (fun j => ((mkL tm l s m l.length).getD j 0).testBit b) i))
          (fun z => z = jn (cntB (fun j => ((mkL tm l s m l.length).getD j 0).testBit b) (cntB (okI tm l s m) l.length))) (by
            rintro j z hj rfl
            have mkb : (mkL tm l s m l.length).getD j 0 < 256 := by
              have hm2 := getD_mem (l := mkL tm l s m l.length) (i := j) (by rw [ml]; exact hj)
              have all : ∀ n x, x ∈ mkL tm l s m n → x < 256 := by
                intro n
                induction n with
                | zero => intro x hx; exact absurd hx List.not_mem_nil
                | succ n ih =>
                  intro x hx
                  rw [mkL_s] at hx
                  split at hx
                  · rcases List.mem_append.mp hx with h1 | h1
                    · exact ih x h1
                    · rw [List.mem_singleton.mp h1]
                      exact mkN_lt h (l.getD n 0) 16 (Nat.le_refl _)
                  · exact ih x hx
              exact all _ _ hm2
            have st : cntB (fun j => ((mkL tm l s m l.length).getD j 0).testBit b) (j + 1) = cntB (fun j => ((mkL tm l s m l.length).getD j 0).testBit b) j + (if ((mkL tm l s m l.length).getD j 0).testBit b then 1 else 0) := rfl
            refine ⟨_, ?_, rfl⟩
            dsimp only
            unfold x10_markToAsk_B44
            rw [if_neg (nle hj (by omega)), N8, gd_jn (by omega) (by omega), jn_cl (by omega), v1 j hj, jn_bit (by omega) (by omega), st]
            simp only [nm, jn_s]
            cases ((mkL tm l s m l.length).getD j 0).testBit b with
            | true => rw [if_pos rfl, if_pos rfl, jn_add]
            | false => rw [if_neg (by decide), if_neg (by decide), jn_add]) (by
            rintro z rfl
            exact ⟨_, by dsimp only; unfold x10_markToAsk_B44; rw [if_pos (lee (by omega))], rfl⟩) 0 (jn 0) (by omega) rfl
        obtain ⟨z2, k2, rfl⟩ := l2
        have ec := mkL_cnt tm l s m b l.length
        rw [ml] at ec
        rw [ec] at k2
        rw [if_neg (fun e => by rw [(bit_iff (by omega) (by omega)).mp e] at hbit; cases hbit), if_neg (show ¬ false = true by decide), show (0 : Int32) = jn 0 from rfl, k2, bs]
        generalize cntB (fun i => okI tm l s m i && (mkN tm (l.getD i 0)).testBit b) l.length = w at wl ⊢
        clear k2 v1 k1 ec ml
        generalize cntB (okI tm l s m) l.length = all at al wl cl ⊢
        generalize akF tm l s m b = p at al ⊢
        rw [jn_sub wl]
        simp only [nm]
        have cg : (if jn w < jn (all - w) then jn (all - w) else jn w) = jn (if w < all - w then all - w else w) := by
          by_cases c : w < all - w
          · rw [if_pos ((jn_lt (by omega) (by omega)).mpr c), if_pos c]
          · rw [if_neg (fun e => c ((jn_lt (by omega) (by omega)).mp e)), if_neg c]
        rw [cg]
        have gl : (if w < all - w then all - w else w) ≤ 200 := by split <;> omega
        generalize (if w < all - w then all - w else w) = g at gl ⊢
        by_cases c2 : g < p.2
        · rw [if_neg (nle c2 (by omega)), if_pos c2, jn_s]
        · rw [if_pos ((jn_le (by omega) (by omega)).mpr (by omega)), if_neg c2, jn_s]) (by
      rintro z rfl
      exact ⟨_, by dsimp only; unfold x10_markToAsk_B16; rw [if_pos (by decide)], rfl⟩) 0 (-1, jn (cntB (okI tm l s m) l.length)) (by omega) rfl
  obtain ⟨z, k3, rfl⟩ := lo
  unfold x10_markToAsk
  rw [k1, bs]
  dsimp only
  rw [show ((-1 : Int32), jn (cntB (okI tm l s m) l.length), (0 : Int32)) = ((-1, jn (cntB (okI tm l s m) l.length), jn 0) : Int32 × Int32 × Int32) from rfl, k3, bs]
theorem KpW.x {tx tm tx' tm' tx'' : St} (h : KpW tx tm tx' tm') (f : fx [1008] [] tx' tx'') : KpW tx tm tx'' tm' := by
  obtain ⟨h1, h2, ⟨h3, h4, h5⟩, h6, h7⟩ := h
  refine ⟨h1.trans (f.wk rfl rfl), h2, ⟨h3.fr f, ?_, h5⟩, by rw [f.2 9001 rfl, f.2 808 rfl]; exact h6, by rw [f.2 9000 rfl, f.2 808 rfl]; exact h7⟩
  unfold RWy LxIs at *
  rw [f.2 1002 rfl, f.2 1003 rfl, f.2 1008 rfl, (f.1 1005 rfl).1, (f.1 1004 rfl).1, (f.1 1002 rfl).2.2.1]
  exact h4
theorem op_may {tx tm : St} (hH : RH tx tm) (hK : RK tx tm) (hN : RN tx tm) (hR : RR tx tm) (hC : RC tm) (hQ : RQ tm) (hT : RTb tx tm) (hW : RWy tx tm) (a1 a2 a3 : Int32) : ∃ r tx' tm', x11_may tx a1 a2 a3 = some (r, tx') ∧ m_may tm a1 a2 a3 = some (r, tm') ∧ KpW tx tm tx' tm' := by
  have h250 := nK_lt hK
  rcases pre_may hK hN a1 a2 a3 with ⟨r, k1, k2⟩ | ⟨n, K, hn, hk, e16, e602, rfl, s, m, hs, hm, rfl, rfl, hz⟩
  · exact ⟨r, tx, tm, k1, k2, KpW.self hT hW hC⟩
  have nmk : x11_noMarks tx (jn s) (jn m) = some 0 := by
    unfold x11_noMarks
    rw [show x11_outside tx (jn s) 0 255 = some 0 from oT (Nat.zero_le s) hs (by decide) tx, bs, if_pos rfl, show x11_outside tx (jn m) 0 255 = some 0 from oT (Nat.zero_le m) hm (by decide) tx, bs, if_pos rfl, if_pos hz]
  have xs : ∀ b t, x10_listAll tx (jn K) = some (b, t) → x11_may tx (jn n) (jn s) (jn m) = x11_may_J46 t (jn s) (jn m) b := by
    intro b t h
    unfold x11_may
    rw [noNet_T hn, bs, if_pos rfl, nmk, bs, if_pos rfl, hN.1, gd_jn (by omega) (by omega), jn_cl (by omega), e602]
    simp only [nm]
    rw [if_pos (jn_nn (by omega)), h, bs]
  have f1 : m_isMarks tm (jn s) (jn m) = some 1 := by
    unfold m_isMarks
    rw [show m_in tm (jn s) 0 255 = some 1 from iT (Nat.zero_le s) hs (by decide) tm, bs, if_neg (by decide), show m_in tm (jn m) 0 255 = some 1 from iT (Nat.zero_le m) hm (by decide) tm, bs, if_neg (by decide), if_pos hz]
  rcases list_both hK hR hC hQ hT hW hk with ⟨tx', tm', j1, j2, j3⟩ | ⟨tx', tm', j1, j2, j3, j4, -, j5⟩
  · refine ⟨-5, tx', tm', ?_, ?_, j3⟩
    · rw [xs _ _ j1]
      unfold x11_may_J46
      rw [if_pos rfl]
    · unfold m_may
      rw [f1, bs, whyWays_0 hn e16 (by omega) j2, bs]
      dsimp only
      rw [if_neg (by decide)]
  · obtain ⟨u, g1, g2, -⟩ := sift_eq hH ((j5.1.2 500 rfl).trans hH.1) (j5.1.1 500 rfl).2.2.1 j3 ((j5.1.2 1002 rfl).trans hW.1.1) ((j5.1.2 1008 rfl).trans hW.1.2.2) (fun i hi => wyl_lt hi) (s := s) (m := m) (by omega) (by omega)
    refine ⟨jn (cntB (okI tm (wyl tm K) s m) (wyl tm K).length), u, tm', ?_, ?_, j5.x g2⟩
    · rw [xs _ _ j1]
      unfold x11_may_J46
      rw [if_neg (by decide), g1, bs]
    · unfold m_may
      rw [f1, bs, whyWays_1 hn e16 (by omega) j2, bs]
      dsimp only
      rw [if_pos rfl, mayBe_eq hH (j5.2.1.1 3 rfl).2.2.1 j4 (fun i hi => wyl_lt hi) (by omega) (by omega), bs]
theorem op_ask {tx tm : St} (hH : RH tx tm) (hK : RK tx tm) (hN : RN tx tm) (hR : RR tx tm) (hC : RC tm) (hQ : RQ tm) (hT : RTb tx tm) (hW : RWy tx tm) (a1 a2 a3 : Int32) : ∃ r tx' tm', x11_ask tx a1 a2 a3 = some (r, tx') ∧ m_ask tm a1 a2 a3 = some (r, tm') ∧ KpW tx tm tx' tm' := by
  have h250 := nK_lt hK
  rcases pre_ask hK hN a1 a2 a3 with ⟨r, k1, k2⟩ | ⟨n, K, hn, hk, e16, e602, rfl, s, m, hs, hm, rfl, rfl, hz⟩
  · exact ⟨r, tx, tm, k1, k2, KpW.self hT hW hC⟩
  have nmk : x11_noMarks tx (jn s) (jn m) = some 0 := by
    unfold x11_noMarks
    rw [show x11_outside tx (jn s) 0 255 = some 0 from oT (Nat.zero_le s) hs (by decide) tx, bs, if_pos rfl, show x11_outside tx (jn m) 0 255 = some 0 from oT (Nat.zero_le m) hm (by decide) tx, bs, if_pos rfl, if_pos hz]
  have xs : ∀ b t, x10_listAll tx (jn K) = some (b, t) → x11_ask tx (jn n) (jn s) (jn m) = x11_ask_J46 t (jn s) (jn m) b := by
    intro b t h
    unfold x11_ask
    rw [noNet_T hn, bs, if_pos rfl, nmk, bs, if_pos rfl, hN.1, gd_jn (by omega) (by omega), jn_cl (by omega), e602]
    simp only [nm]
    rw [if_pos (jn_nn (by omega)), h, bs]
  have f1 : m_isMarks tm (jn s) (jn m) = some 1 := by
    unfold m_isMarks
    rw [show m_in tm (jn s) 0 255 = some 1 from iT (Nat.zero_le s) hs (by decide) tm, bs, if_neg (by decide), show m_in tm (jn m) 0 255 = some 1 from iT (Nat.zero_le m) hm (by decide) tm, bs, if_neg (by decide), if_pos hz]
  rcases list_both hK hR hC hQ hT hW hk with ⟨tx', tm', j1, j2, j3⟩ | ⟨tx', tm', j1, j2, j3, j4, -, j5⟩
  · refine ⟨-5, tx', tm', ?_, ?_, j3⟩
    · rw [xs _ _ j1]
      unfold x11_ask_J46
      rw [if_pos rfl]
    · unfold m_ask
      rw [f1, bs, whyWays_0 hn e16 (by omega) j2, bs]
      dsimp only
      rw [if_neg (by decide)]
  · have len := j4.2.1
    have cl := cntB_le (okI tm (wyl tm K) s m) (wyl tm K).length
    obtain ⟨u, g1, g2⟩ := x_ask_eq hH ((j5.1.2 500 rfl).trans hH.1) (j5.1.1 500 rfl).2.2.1 j3 ((j5.1.2 1002 rfl).trans hW.1.1) ((j5.1.2 1008 rfl).trans hW.1.2.2) (fun i hi => wyl_lt hi) hs hm
    refine ⟨(akF tm (wyl tm K) s m 8).1, u, tm', ?_, ?_, j5.x g2⟩
    · rw [xs _ _ j1]
      unfold x11_ask_J46
      rw [if_neg (by decide), g1, bs]
    · unfold m_ask
      rw [f1, bs, whyWays_1 hn e16 (by omega) j2, bs]
      dsimp only
      rw [if_pos rfl, mayBe_eq hH (j5.2.1.1 3 rfl).2.2.1 j4 (fun i hi => wyl_lt hi) (by omega) (by omega), bs, m_ask_eq hH (j5.2.1.1 3 rfl).2.2.1 j4 (fun i hi => wyl_lt hi) hs hm, bs]
      by_cases c : 2 ≤ cntB (okI tm (wyl tm K) s m) (wyl tm K).length
      · rw [if_pos (jge (x := 2) 2 rfl c (by omega))]
      · rw [if_neg (jnge (x := 2) 2 rfl c (by omega) (by omega)), akF_few (by omega)]
