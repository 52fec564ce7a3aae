/-! Events: the class's table, and the call. -/
def cv (x : Nat) : Int32 := if x = 99 then -1 else jn x
theorem cv_lt {x : Nat} (h : x ≠ 99) : cv x = jn x := if_neg h
theorem ev_first {tm t : St} {E T : Nat} (h104 : gI t 104 = jn E) (hE : E ≤ 40) (hN : gN t 102 = 40) (h102 : ∀ e, e < E → gA t 102 e = gA tm 57 e) : ∀ m p, p + m = E → (lp (fun x => x1_letterEvent_B2 t (jn T) x) (jn p)).bind (fun y5 => (Sum.elim (fun u8 => some u8) (fun _ => some (-1 : Int32))) y5) = some (cv (fe tm T m p)) := by
  intro m
  induction m with
  | zero =>
    intro p hp
    rw [lp_r (y := .inr ()) (by unfold x1_letterEvent_B2; rw [h104, if_pos ((jn_le (by omega) (by omega)).mpr (by omega))]), bs]
    rfl
  | succ m ih =>
    intro p hp
    unfold fe
    by_cases q : gA tm 57 p = jn T
    · rw [if_pos q, lp_r (y := .inl (jn p)) (by
        unfold x1_letterEvent_B2
        rw [h104, if_neg (nle (by omega) (by omega)), hN, gd_jn (by omega) (by omega), jn_cl (by omega), h102 p (by omega), if_pos q]), bs, cv_lt (by omega)]
      rfl
    · rw [if_neg q, lp_l (x := jn p) (x' := jn (p + 1)) (by
        unfold x1_letterEvent_B2
        rw [h104, if_neg (nle (by omega) (by omega)), hN, gd_jn (by omega) (by omega), jn_cl (by omega), h102 p (by omega), if_neg q]
        simp only [nm, jn_s])]
      exact ih (p + 1) (by omega)
theorem fe_from (tm : St) (T : Nat) : ∀ m p, p + m ≤ 40 → p ≤ fe tm T m p := by
  intro m
  induction m with
  | zero =>
    intro p hp
    show p ≤ 99
    omega
  | succ m ih =>
    intro p hp
    unfold fe
    split
    · exact Nat.le_refl _
    · have := ih (p + 1) (by omega)
      omega
theorem ev_from {tx tm : St} (h : RK tx tm) {E : Nat} (hE : E ≤ 40) : ∀ k p, k < nK tm → p ≤ E → p ≤ ev tm E k p := by
  intro k
  induction k using Nat.strongRecOn with
  | _ k ih =>
    intro p hk hp
    rw [ev_eq h hk]
    obtain ⟨s1, s2, s3, d1, d2, d3, g1, g2, g3, m1, m2, q1, q2⟩ := h.2.2.2 k hk
    by_cases q : kS tm k = 0
    · rw [if_pos q]
      exact fe_from tm _ _ _ (by omega)
    · obtain ⟨e1, e2, e3, e4, e5, e7, e8, e6, -⟩ := q2 q
      have hp1 : ∀ i, i < kN tm k → p ≤ ev tm E (kP tm k i) p := fun i hi => ih _ (e6 i hi).2.2 p (by have := (e6 i hi).2.2; omega) hp
      rw [if_neg q]
      by_cases a1 : kS tm k = 1
      · rw [if_pos a1]
        have : ∀ n, n ≤ kN tm k → p ≤ foz min 99 (fun i => ev tm E (kP tm k i) p) n := by
          intro n
          induction n with
          | zero => intro _; show p ≤ 99; omega
          | succ n ih2 =>
            intro hn
            have := ih2 (by omega)
            have := hp1 n (by omega)
            rw [foz_s]
            omega
        exact this _ (Nat.le_refl _)
      · rw [if_neg a1]
        by_cases a2 : kS tm k = 2
        · rw [if_pos a2]
          have : ∀ n, n ≤ kN tm k → p + n ≤ chn (fun i q => if E < q then 99 else ev tm E (kP tm k i) q) p n ∨ 100 ≤ chn (fun i q => if E < q then 99 else ev tm E (kP tm k i) q) p n := by
            intro n
            induction n with
            | zero => intro _; exact Or.inl (Nat.le_refl _)
            | succ n ih2 =>
              intro hn
              show p + (n + 1) ≤ (if E < chn _ p n then 99 else ev tm E (kP tm k n) (chn _ p n)) + 1 ∨ 100 ≤ (if E < chn _ p n then 99 else ev tm E (kP tm k n) (chn _ p n)) + 1
              split
              · exact Or.inr (Nat.le_refl _)
              · next z =>
                have := ih _ (e6 n (by omega)).2.2 (chn (fun i q => if E < q then 99 else ev tm E (kP tm k i) q) p n) (by have := (e6 n (by omega)).2.2; omega) (by omega)
                rcases ih2 (by omega) with y | y
                · left; omega
                · right; omega
          have := this _ (Nat.le_refl _)
          omega
        · rw [if_neg a2]
          by_cases a3 : kS tm k = 3
          · rw [if_pos a3]
            obtain ⟨n, hn⟩ : ∃ n, kN tm k = n + 1 := ⟨kN tm k - 1, by omega⟩
            rw [hn, foz_s]
            have := hp1 n (by omega)
            omega
          · rw [if_neg a3]
            obtain ⟨t1, t2, t3⟩ := fk_spec (f := fun i => ev tm E (kP tm k i) p) (n := kN tm k) (j := kD tm k - 1) (by have := e7 (by omega); omega) (fun i hi => V99 (ev_V h hE _ p (by have := (e6 i hi).2.2; omega) hp) hE)
            by_cases z : p ≤ fk (fun i => ev tm E (kP tm k i) p) (kN tm k) (kD tm k - 1) 99 0
            · exact z
            · exfalso
              have := cntB_dn (g := fun i => decide (ev tm E (kP tm k i) p ≤ fk (fun i => ev tm E (kP tm k i) p) (kN tm k) (kD tm k - 1) 99 0)) (n := kN tm k) (m := 0) (fun i _ hi => decide_eq_false (by have := hp1 i hi; omega))
              omega
/-- the class's table, up to a knot -/
def EvT (tx tm : St) (E p0 R k : Nat) (s : St) : Prop := fx [105, 106, 107] [105, 9000, 9001] tx s ∧ gI s 106 = jn (E + 1) ∧ (R + 1) * (E + 1) ≤ gN s 105 ∧ ∀ j, j < k → ∀ x, p0 ≤ x → x ≤ E → gA s 105 (j * (E + 1) + x) = cv (ev tm E j x)
theorem ev_part {tx tm s : St} (hK : RK tx tm) {E p0 R k : Nat} (hE : E ≤ 40) (hR : R ≤ 250) (h : EvT tx tm E p0 R k s) (hk : k < nK tm) (hkR : k ≤ R) (q : kS tm k ≠ 0) {i x : Nat} (hi : i < kN tm k) (h1 : p0 ≤ x) (h2 : x ≤ E) : x1_partEvent s (jn k) (jn i) (jn x) = some (cv (ev tm E (kP tm k i) x)) := by
  have h250 := nK_lt hK
  obtain ⟨⟨z3, z4, z5, z6, z7⟩, -, ⟨p1, p2, p3, p4, p5, p6⟩, hall⟩ := id hK
  obtain ⟨s1, s2, s3, d1, d2, d3, g1, g2, g3, m1, m2, q1, q2⟩ := hall k hk
  obtain ⟨e1, e2, e3, e4, e5, e7, e8, e6, -⟩ := q2 q
  obtain ⟨w1, w2, w3⟩ := e6 i hi
  obtain ⟨hf, h6, h5, hv⟩ := h
  have b : kP tm k i * (E + 1) + x < gN s 105 := by
    have : (kP tm k i + 1) * (E + 1) ≤ (R + 1) * (E + 1) := Nat.mul_le_mul_right _ (by omega)
    rw [Nat.add_mul] at this
    omega
  have b2 : kP tm k i * (E + 1) + x < 2147483648 := by
    have : kP tm k i * (E + 1) ≤ 250 * 41 := Nat.mul_le_mul (by omega) (by omega)
    omega
  unfold x1_partEvent x6_partOf
  rw [hf.2 606 rfl, z6, gd_jn (by omega) (by omega), jn_cl (by omega), (hf.1 606 rfl).2.2.1, e4, e3, jn_add, hf.2 608 rfl, gd_jn (by omega) (by omega), jn_cl (by omega), (hf.1 608 rfl).2.2.1, w1, w2, bs, h6, jn_mul, jn_add, gd_jn b b2, jn_cl b2, hv _ w3 x h1 h2]
theorem x_knot {tx tm s : St} (hK : RK tx tm) (hE1 : RE tx tm) (h7 : gN tx 107 = 8) {E p0 R k p : Nat} (hE : E ≤ 40) (hR : R ≤ 250) (h104 : gI tx 104 = jn E) (h : EvT tx tm E p0 R k s) (hk : k < nK tm) (hkR : k ≤ R) (hp0 : p0 ≤ p) (hp : p ≤ E) : ∃ s', x1_knotEvent s (jn k) (jn p) = some (cv (ev tm E k p), s') ∧ fx [107] [] s s' := by
  have h250 := nK_lt hK
  have h0 := h
  obtain ⟨⟨z3, z4, z5, z6, z7⟩, -, ⟨p1, p2, p3, p4, p5, p6⟩, hall⟩ := id hK
  obtain ⟨s1, s2, s3, d1, d2, d3, g1, g2, g3', m1, m2, q1, q2⟩ := hall k hk
  obtain ⟨hf, h6, h5, hv⟩ := h
  have g3 : ∀ {α : Type} (x : Option α), gd (jn k) 330 x = x := fun x => gd_jn (by omega) (by omega)
  have ck : (jn k).toNatClampNeg = k := jn_cl (by omega)
  have e103 : gA s 603 k = jn (kS tm k) := (congrFun (hf.1 603 rfl).2.2.1 k).trans (s3.trans s1)
  have tot := ev_V hK hE
  unfold x1_knotEvent
  rw [hf.2 603 rfl, z3, g3, ck, e103, ev_eq hK hk]
  by_cases q : kS tm k = 0
  · rw [if_pos (show jn (kS tm k) = 0 by rw [q]; rfl), if_pos q, hf.2 604 rfl, z4, g3, (hf.1 604 rfl).2.2.1, (q1 q).2.2.1, (q1 q).1]
    refine ⟨s, ?_, fx.rfl⟩
    unfold x1_letterEvent
    obtain ⟨n102, n103, n, hn, c1, c2, c3⟩ := hE1
    have en : n = E := (jn_inj (by omega) (by omega)).mp (c1.symm.trans h104)
    subst en
    rw [ev_first (tm := tm) ((hf.1 104 rfl).1.trans h104) hE ((hf.2 102 rfl).trans n102) (fun e he => (congrFun (hf.1 102 rfl).2.2.1 e).trans (c3 e he).1) (n - p) p (by omega), bs]
  · obtain ⟨e1, e2, e3, e4, e5, e7, e8, e6, -⟩ := q2 q
    have n604 : gA s 604 k = jn (kN tm k) := (congrFun (hf.1 604 rfl).2.2.1 k).trans (e1.trans m1)
    have N604 : gN s 604 = 330 := (hf.2 604 rfl).trans z4
    have pt : ∀ {i x : Nat}, i < kN tm k → p0 ≤ x → x ≤ E → x1_partEvent s (jn k) (jn i) (jn x) = some (cv (ev tm E (kP tm k i) x)) := fun hi h1 h2 => ev_part hK hE hR h0 hk hkR q hi h1 h2
    have eV : ∀ i x, i < kN tm k → x ≤ E → EvV E (ev tm E (kP tm k i) x) := fun i x hi hx => tot _ x (by have := (e6 i hi).2.2; omega) hx
    rw [if_neg (jn_nz q (by omega)), if_neg q]
    by_cases a1 : kS tm k = 1
    · rw [if_pos (show jn (kS tm k) = (1 : Int32) by rw [a1]; rfl), if_pos a1]
      refine ⟨s, ?_, fx.rfl⟩
      have l := lp_cnt (b := fun y : Int32 × Int32 => x1_firstEvent_B5 s (jn k) (jn p) y.1 y.2) (fun i z => (z, jn i)) (kN tm k)
        (fun i z => z = cv (foz min 99 (fun i => ev tm E (kP tm k i) p) i))
        (fun z => z = cv (foz min 99 (fun i => ev tm E (kP tm k i) p) (kN tm k))) (by
          rintro i z hi rfl
          have hV := eV i p hi hp
          have fV := fozmin_V (E := E) (f := fun i => ev tm E (kP tm k i) p) (n := i) (fun j hj => eV j p (by omega) hp)
          refine ⟨_, ?_, rfl⟩
          dsimp only
          unfold x1_firstEvent_B5
          rw [N604, g3, ck, n604, if_neg (nle hi (by omega)), pt hi hp0 hp, bs, foz_s]
          generalize ev tm E (kP tm k i) p = x at hV ⊢
          generalize foz min 99 (fun i => ev tm E (kP tm k i) p) i = a at fV ⊢
          unfold EvV at hV fV
          by_cases c : x = 99
          · subst c
            rw [if_pos (show cv 99 < 0 by decide), Nat.min_eq_left (by omega)]
            simp only [nm, jn_s]
          · rw [cv_lt c, if_neg (jn_neg (by omega))]
            by_cases c2 : a = 99
            · subst c2
              rw [if_pos (show cv 99 < 0 by decide), Nat.min_eq_right (by omega), cv_lt c]
              simp only [nm, jn_s]
            · rw [cv_lt c2, if_neg (jn_neg (by omega))]
              by_cases c3 : a ≤ x
              · rw [if_pos ((jn_le (by omega) (by omega)).mpr c3), Nat.min_eq_left c3, cv_lt c2]
                simp only [nm, jn_s]
              · rw [if_neg (fun e => c3 ((jn_le (by omega) (by omega)).mp e)), Nat.min_eq_right (by omega), cv_lt c]
                simp only [nm, jn_s]) (by
          rintro z rfl
          exact ⟨_, by dsimp only; unfold x1_firstEvent_B5; rw [N604, g3, ck, n604, if_pos (lee (by omega))], rfl⟩) 0 (-1) (by omega) rfl
      obtain ⟨y, k1, rfl⟩ := l
      unfold x1_firstEvent
      rw [show ((-1 : Int32), (0 : Int32)) = (-1, jn 0) from rfl, k1, bs, bs]
    · rw [if_neg (jnl (x := 1) 1 rfl a1 (by omega) (by omega)), if_neg a1]
      by_cases a2 : kS tm k = 2
      · rw [if_pos (show jn (kS tm k) = (2 : Int32) by rw [a2]; rfl), if_pos a2]
        refine ⟨s, ?_, fx.rfl⟩
        generalize hG : (fun (i : Nat) (x : Nat) => if E < x then 99 else ev tm E (kP tm k i) x) = G
        have GE : ∀ i x, x ≤ E → G i x = ev tm E (kP tm k i) x := fun i x hx => by rw [← hG]; exact if_neg (by omega)
        have Gb : ∀ i x, E < x → G i x = 99 := fun i x hx => by rw [← hG]; exact if_pos hx
        have loop : ∀ m i, i + m = kN tm k → p0 ≤ chn G p i → chn G p i ≤ E → (lp (fun y : Int32 × Int32 => x1_chainEvent_B7 s (jn k) y.1 y.2) (jn (chn G p i) - 1, jn i)).bind (fun y8 => (Sum.elim (fun _ => some (-1 : Int32)) (fun u11 => some u11)) y8) = some (if m = 0 then jn (chn G p i) - 1 else cv (chn G p (kN tm k) - 1)) := by
          intro m
          induction m with
          | zero =>
            intro i hi c1 c2
            rw [lp_r (y := .inr (jn (chn G p i) - 1)) (by dsimp only; unfold x1_chainEvent_B7; rw [N604, g3, ck, n604, if_pos ((jn_le (by omega) (by omega)).mpr (by omega))]), bs, if_pos rfl]
            rfl
          | succ m ih =>
            intro i hi c1 c2
            have hV := eV i (chn G p i) (by omega) c2
            have st : chn G p (i + 1) = ev tm E (kP tm k i) (chn G p i) + 1 := by
              show G i (chn G p i) + 1 = _
              rw [GE i _ c2]
            have cc : jn (chn G p i) - 1 + 1 = jn (chn G p i) := Int32.sub_add_cancel _ _
            rw [if_neg (by omega)]
            by_cases c : ev tm E (kP tm k i) (chn G p i) = 99
            · have stay : ∀ j, i + 1 ≤ j → chn G p j = 100 := by
                intro j hj
                obtain ⟨d, rfl⟩ : ∃ d, j = i + 1 + d := ⟨j - (i + 1), by omega⟩
                induction d with
                | zero => rw [Nat.add_zero, st, c]
                | succ d ih2 =>
                  show G (i + 1 + d) (chn G p (i + 1 + d)) + 1 = 100
                  rw [ih2 (by omega), Gb _ _ (by omega)]
              rw [lp_r (y := .inl ()) (by
                dsimp only
                unfold x1_chainEvent_B7
                rw [N604, g3, ck, n604, if_neg (nle (by omega) (by omega)), cc, pt (by omega) c1 c2, bs, c, if_neg (show ¬ (0 : Int32) ≤ cv 99 by decide)]), bs, stay _ (by omega)]
              rfl
            · unfold EvV at hV
              rw [lp_l (x := (jn (chn G p i) - 1, jn i)) (x' := (jn (chn G p (i + 1)) - 1, jn (i + 1))) (by
                dsimp only
                unfold x1_chainEvent_B7
                rw [N604, g3, ck, n604, if_neg (nle (by omega) (by omega)), cc, pt (by omega) c1 c2, bs, cv_lt c, if_pos (jn_nn (by omega))]
                simp only [nm, jn_s]
                rw [st, show jn (ev tm E (kP tm k i) (chn G p i) + 1) - 1 = jn (ev tm E (kP tm k i) (chn G p i)) from jn_sub (a := _ + 1) (b := 1) (by omega)]), ih (i + 1) (by omega) (by
                  -- an event comes no sooner than the place from which it is told
                  have := ev_from hK hE _ (chn G p i) (show kP tm k i < nK tm by have := (e6 i (by omega)).2.2; omega) c2
                  omega) (by omega)]
              by_cases z : m = 0
              · subst z
                rw [if_pos rfl, show kN tm k = i + 1 by omega, st, cv_lt (by omega), show jn (ev tm E (kP tm k i) (chn G p i) + 1) - 1 = jn (ev tm E (kP tm k i) (chn G p i)) from jn_sub (a := _ + 1) (b := 1) (by omega)]
                rfl
              · rw [if_neg z]
        have := loop (kN tm k) 0 (by omega) hp0 hp
        rw [if_neg (by omega)] at this
        unfold x1_chainEvent
        simp only [nm]
        rw [show (0 : Int32) = jn 0 from rfl]
        rw [show (lp (fun x => x1_chainEvent_B7 s (jn k) x.1 x.2) (jn p - 1, jn 0)).bind (fun y8 => (Sum.elim (fun _ => some (-1 : Int32)) (fun u11 => some u11)) y8) = _ from this, bs]
      · rw [if_neg (jnl (x := 2) 2 rfl a2 (by omega) (by omega)), if_neg a2]
        by_cases a3 : kS tm k = 3
        · rw [if_pos (show jn (kS tm k) = (3 : Int32) by rw [a3]; rfl), if_pos a3]
          refine ⟨s, ?_, fx.rfl⟩
          have mono : ∀ i j, i ≤ j → j ≤ kN tm k → foz max 0 (fun i => ev tm E (kP tm k i) p) i ≤ foz max 0 (fun i => ev tm E (kP tm k i) p) j := by
            intro i j hij hj
            obtain ⟨d, rfl⟩ : ∃ d, j = i + d := ⟨j - i, by omega⟩
            induction d with
            | zero => exact Nat.le_refl _
            | succ d ih =>
              have := ih (by omega) (by omega)
              rw [show i + (d + 1) = i + d + 1 from rfl, foz_s]
              omega
          have fV := fozmax_V e2 hE (fun i hi => eV i p hi hp)
          have loop : ∀ m i, i + m = kN tm k → foz max 0 (fun i => ev tm E (kP tm k i) p) i < E ∨ i = 0 → (lp (fun y : Int32 × Int32 => x1_lastEvent_B5 s (jn k) (jn p) y.1 y.2) ((if i = 0 then -1 else jn (foz max 0 (fun i => ev tm E (kP tm k i) p) i)), jn i)).bind (fun y8 => (Sum.elim (fun _ => some (-1 : Int32)) (fun u11 => some u11)) y8) = some (if kN tm k = 0 then -1 else cv (foz max 0 (fun i => ev tm E (kP tm k i) p) (kN tm k))) := by
            intro m
            induction m with
            | zero =>
              intro i hi c1
              have : i = kN tm k := by omega
              subst this
              rw [lp_r (y := .inr (if kN tm k = 0 then -1 else jn (foz max 0 (fun i => ev tm E (kP tm k i) p) (kN tm k)))) (by dsimp only; unfold x1_lastEvent_B5; rw [N604, g3, ck, n604, if_pos (lee (by omega))]), bs, if_neg (by omega), if_neg (by omega), cv_lt (by omega)]
              rfl
            | succ m ih =>
              intro i hi c1
              have hV := eV i p (by omega) hp
              by_cases c : ev tm E (kP tm k i) p = 99
              · have : foz max 0 (fun i => ev tm E (kP tm k i) p) (kN tm k) = 99 := by
                  have h1 := mono (i + 1) (kN tm k) (by omega) (Nat.le_refl _)
                  rw [foz_s] at h1
                  unfold EvV at fV
                  omega
                rw [lp_r (y := .inl ()) (by
                  dsimp only
                  unfold x1_lastEvent_B5
                  rw [N604, g3, ck, n604, if_neg (nle (by omega) (by omega)), pt (by omega) hp0 hp, bs, c, if_neg (show ¬ (0 : Int32) ≤ cv 99 by decide)]), bs, this, if_neg (by omega)]
                rfl
              · unfold EvV at hV
                have stp : (if (if i = 0 then (-1 : Int32) else jn (foz max 0 (fun i => ev tm E (kP tm k i) p) i)) < jn (ev tm E (kP tm k i) p) then jn (ev tm E (kP tm k i) p) else (if i = 0 then (-1 : Int32) else jn (foz max 0 (fun i => ev tm E (kP tm k i) p) i))) = (if i + 1 = 0 then -1 else jn (foz max 0 (fun i => ev tm E (kP tm k i) p) (i + 1))) := by
                  rw [if_neg (show ¬ i + 1 = 0 by omega), foz_s]
                  by_cases z : i = 0
                  · subst z
                    rw [if_pos rfl, if_pos (by rw [il_lt, jn_int (by omega)]; show (-1 : Int) < _; omega)]
                    show jn _ = jn (max 0 _)
                    rw [Nat.max_eq_right (Nat.zero_le _)]
                  · rw [if_neg z]
                    have c2 : foz max 0 (fun i => ev tm E (kP tm k i) p) i < E := by omega
                    by_cases y : foz max 0 (fun i => ev tm E (kP tm k i) p) i < ev tm E (kP tm k i) p
                    · rw [if_pos ((jn_lt (by omega) (by omega)).mpr y), Nat.max_eq_right (by omega)]
                    · rw [if_neg (fun e => y ((jn_lt (by omega) (by omega)).mp e)), Nat.max_eq_left (by omega)]
                rw [lp_l (x' := ((if i + 1 = 0 then -1 else jn (foz max 0 (fun i => ev tm E (kP tm k i) p) (i + 1))), jn (i + 1))) (by
                  dsimp only
                  unfold x1_lastEvent_B5
                  rw [N604, g3, ck, n604, if_neg (nle (by omega) (by omega)), pt (by omega) hp0 hp, bs, cv_lt c, if_pos (jn_nn (by omega)), stp]
                  simp only [nm, jn_s])]
                refine ih (i + 1) (by omega) (Or.inl ?_)
                rw [foz_s]
                by_cases z : i = 0
                · subst z
                  show max 0 _ < E
                  omega
                · omega
          have := loop (kN tm k) 0 (by omega) (Or.inr rfl)
          rw [if_pos rfl, if_neg (by omega)] at this
          unfold x1_lastEvent
          rw [show (0 : Int32) = jn 0 from rfl]
          rw [show (lp (fun x => x1_lastEvent_B5 s (jn k) (jn p) x.1 x.2) (-1, jn 0)).bind (fun y8 => (Sum.elim (fun _ => some (-1 : Int32)) (fun u11 => some u11)) y8) = _ from this, bs]
        · have a4 : kS tm k = 4 := by omega
          rw [if_neg (jnl (x := 3) 3 rfl a3 (by omega) (by omega)), if_neg a3]
          have n8 := (e7 a4).2.2
          -- those that come at all
          have l := lp_cnt (b := fun y : Int32 × Int32 × St => x1_someEvent_B5 (jn k) (jn p) y.1 y.2.1 y.2.2) (fun i z => (z.1, jn i, z.2)) (kN tm k)
            (fun i z => fx [107] [] s z.2 ∧ ∃ m, m ≤ i ∧ z.1 = jn m ∧ ∀ P : Nat → Bool, P 99 = false → ∀ Q : Int32 → Bool, (∀ x, x < E → Q (jn x) = P x) → cntB (fun j => Q (gA z.2 107 j)) m = cntB (fun j => P (ev tm E (kP tm k j) p)) i)
            (fun z => fx [107] [] s z.2 ∧ ∃ m, m ≤ kN tm k ∧ z.1 = jn m ∧ ∀ P : Nat → Bool, P 99 = false → ∀ Q : Int32 → Bool, (∀ x, x < E → Q (jn x) = P x) → cntB (fun j => Q (gA z.2 107 j)) m = cntB (fun j => P (ev tm E (kP tm k j) p)) (kN tm k)) (by
              rintro i ⟨v3, u⟩ hi ⟨f1, m, hm, hv3, hc⟩
              dsimp only at f1 hv3 hc
              subst hv3
              have hV := eV i p hi hp
              have pu : x1_partEvent u (jn k) (jn i) (jn p) = some (cv (ev tm E (kP tm k i) p)) := ev_part hK hE hR (⟨hf.trans (f1.wk rfl rfl), (f1.1 106 rfl).1.trans h6, by rw [f1.2 105 rfl]; exact h5, fun j hj x h1 h2 => (congrFun (f1.1 105 rfl).2.2.1 _).trans (hv j hj x h1 h2)⟩ : EvT tx tm E p0 R k u) hk hkR q hi hp0 hp
              have N107 : gN u 107 = 8 := (f1.2 107 rfl).trans ((hf.2 107 rfl).trans h7)
              dsimp only
              unfold x1_someEvent_B5
              rw [(f1.2 604 rfl).trans N604, g3, ck, (f1.1 604 rfl).2.2.1, n604, if_neg (nle hi (by omega)), N107, show Int32.ofNat 8 = jn 8 from rfl, if_neg (nle (by omega) (by omega)), pu, bs]
              by_cases c : ev tm E (kP tm k i) p = 99
              · rw [c, if_pos (show cv 99 < 0 by decide)]
                simp only [nm, jn_s]
                refine ⟨(jn m, u), rfl, f1, m, by omega, rfl, fun P hP Q hQ => ?_⟩
                rw [hc P hP Q hQ]
                show _ = cntB (fun j => P (ev tm E (kP tm k j) p)) i + (if P (ev tm E (kP tm k i) p) then 1 else 0)
                rw [c, hP]
                rfl
              · rw [cv_lt c, if_neg (jn_neg (by unfold EvV at hV; omega)), gd_jn (by omega) (by omega)]
                simp only [nm, jn_s]
                refine ⟨(jn (m + 1), sA u 107 (jn m) (jn (ev tm E (kP tm k i) p))), rfl, f1.trans (fx_sA rfl), m + 1, by omega, rfl, fun P hP Q hQ => ?_⟩
                show cntB (fun j => Q (gA (sA u 107 (jn m) _) 107 j)) m + (if Q (gA (sA u 107 (jn m) (jn (ev tm E (kP tm k i) p))) 107 m) then 1 else 0) = cntB (fun j => P (ev tm E (kP tm k j) p)) i + (if P (ev tm E (kP tm k i) p) then 1 else 0)
                rw [gA_sA, jn_cl (by omega), upd_at, hQ _ (by unfold EvV at hV; omega), ← hc P hP Q hQ, cntB_cong (fun j hj => by rw [upd_ne (show j ≠ m by omega)])]) (by
              rintro ⟨v3, u⟩ ⟨f1, h1⟩
              exact ⟨(v3, u), by dsimp only; unfold x1_someEvent_B5; rw [(f1.2 604 rfl).trans N604, g3, ck, (f1.1 604 rfl).2.2.1, n604, if_pos (lee (by omega))], f1, h1⟩) 0 (0, s) (by omega) ⟨fx.rfl, 0, Nat.le_refl _, rfl, fun P hP Q hQ => rfl⟩
          obtain ⟨⟨v, u⟩, k1, f1, m, hm, hv3, hc⟩ := l
          dsimp only at f1 hv3 hc
          subst hv3
          have e605 : gA u 605 k = jn (kD tm k) := (congrFun (f1.1 605 rfl).2.2.1 k).trans ((congrFun (hf.1 605 rfl).2.2.1 k).trans (d3.trans d1))
          have N605 : gN u 605 = 330 := (f1.2 605 rfl).trans ((hf.2 605 rfl).trans z5)
          have N107 : gN u 107 = 8 := (f1.2 107 rfl).trans ((hf.2 107 rfl).trans h7)
          obtain ⟨y1, y2, y3⟩ := e7 a4
          obtain ⟨t1, t2, t3⟩ := fk_spec (f := fun i => ev tm E (kP tm k i) p) (n := kN tm k) (j := kD tm k - 1) (by omega) (fun i hi => V99 (eV i p hi hp) hE)
          have tV := fk_V (f := fun i => ev tm E (kP tm k i) p) (n := kN tm k) (j := kD tm k - 1) (by omega) hE (fun i hi => eV i p hi hp)
          have mc : m = cntB (fun j => decide (ev tm E (kP tm k j) p < 99)) (kN tm k) := by
            rw [← hc (fun x => decide (x < 99)) (by decide) (fun _ => true) (fun x hx => by rw [decide_eq_true (by omega)])]
            have h1 := cntB_le (fun _ => true) m
            have h2 := cntB_up (g := fun _ => true) (n := m) (Nat.le_refl m) (fun _ _ => rfl)
            omega
          unfold x1_someEvent
          rw [show ((0 : Int32), (0 : Int32), s) = (((0 : Int32), jn 0, s) : Int32 × Int32 × St) from rfl, k1, bs]
          dsimp only
          rw [N605, g3, ck, e605]
          generalize fk (fun i => ev tm E (kP tm k i) p) (kN tm k) (kD tm k - 1) 99 0 = w0 at t1 t2 t3 tV ⊢
          by_cases c : kD tm k ≤ m
          · have w99 : w0 < E := by
              unfold EvV at tV
              rcases tV with e | e
              · exact e
              · exfalso
                subst e
                omega
            rw [if_pos ((jn_le (by omega) (by omega)).mpr c), g3]
            obtain ⟨w, s', j1, j2, j3⟩ := rising107_eq (t := u) (n := m) (by omega) N107 (w := kD tm k - 1) (by omega)
            rw [show kD tm k - 1 + 1 = kD tm k by omega] at j1
            refine ⟨s', ?_, f1.trans j2⟩
            rw [j1, bs, bs]
            have : w = jn w0 := kth_uniq j3 (by
              constructor
              · rw [hc (fun x => decide (x < w0)) (decide_eq_false (by omega)) (fun x => decide (x < jn w0)) (fun x hx => by
                  have e := jn_lt (a := x) (b := w0) (by omega) (by omega)
                  by_cases z : x < w0
                  · rw [decide_eq_true z, decide_eq_true (e.mpr z)]
                  · rw [decide_eq_false z, decide_eq_false (fun y => z (e.mp y))])]
                exact t1
              · rw [hc (fun x => decide (x ≤ w0)) (decide_eq_false (by omega)) (fun x => decide (x ≤ jn w0)) (fun x hx => by
                  have e := jn_le (a := x) (b := w0) (by omega) (by omega)
                  by_cases z : x ≤ w0
                  · rw [decide_eq_true z, decide_eq_true (e.mpr z)]
                  · rw [decide_eq_false z, decide_eq_false (fun y => z (e.mp y))])]
                exact t2)
            rw [this, cv_lt (by omega)]
          · rw [if_neg (fun e => c ((jn_le (by omega) (by omega)).mp e))]
            refine ⟨u, ?_, f1⟩
            have : w0 = 99 := by
              unfold EvV at tV
              rcases tV with e | e
              · exfalso
                have := cntB_mono (f := fun i => decide (ev tm E (kP tm k i) p ≤ w0)) (g := fun j => decide (ev tm E (kP tm k j) p < 99)) (n := kN tm k) (fun i _ h => decide_eq_true (by have := of_decide_eq_true h; omega))
                omega
              · exact e
            rw [this]
            rfl
theorem op_reached {tx tm : St} (hK : RK tx tm) (hN : RN tx tm) (hE1 : RE tx tm) (h7 : gN tx 107 = 8) (h5 : gN tx 105 ≤ 20500) (a1 a2 : Int32) : ∃ r tx' tm', x11_reached tx a1 a2 = some (r, tx') ∧ m_reached tm a1 a2 = some (r, tm') ∧ gN tx' 105 ≤ 20500 ∧ gN tx' 9000 ≤ gN tx 9000 + 1 ∧ gN tx' 9001 + 2 * gN tx 105 ≤ gN tx 9001 + 2 * gN tx' 105 := by
  have h250 := nK_lt hK
  rcases pre_reached hK hN hE1 a1 a2 with ⟨r, k1, k2⟩ | ⟨n, r, hn, hr, e16, e602, rfl, p, E, hpE, hE, h56, h104, rfl⟩
  · exact ⟨r, tx, tm, k1, k2, h5, by omega, by omega⟩
  -- the reference
  have lm := lp_cnt (b := fun y : Int32 × St => m_reached_B25 (jn n) (jn p) y.1 y.2) (fun i s => (jn i, s)) (r + 1)
    (fun i s => fx [33, 59] [] tm s ∧ ∀ j, j < i → ∀ x, x ≤ E → gA s 59 (42 * j + x) = jn (ev tm E j x))
    (fun s => fx [33, 59] [] tm s ∧ ∀ j, j < r + 1 → ∀ x, x ≤ E → gA s 59 (42 * j + x) = jn (ev tm E j x)) (by
      rintro k s hk ⟨f1, v1⟩
      have l := lp_cnt (b := fun y : Int32 × St => m_reached_B39 (jn n) (jn p) (jn k) y.1 y.2) (fun i s => (jn i, s)) (E + 1)
        (fun i u => fx [33, 59] [] s u ∧ (∀ j, j < k → ∀ x, x ≤ E → gA u 59 (42 * j + x) = jn (ev tm E j x)) ∧ ∀ x, x < i → gA u 59 (42 * k + x) = jn (ev tm E k x))
        (fun u => fx [33, 59] [] s u ∧ (∀ j, j < k → ∀ x, x ≤ E → gA u 59 (42 * j + x) = jn (ev tm E j x)) ∧ ∀ x, x < E + 1 → gA u 59 (42 * k + x) = jn (ev tm E k x)) (by
          rintro i u hi ⟨f2, v2, v3⟩
          obtain ⟨u', j1, j2⟩ := m_reachedOf_eq hK hE h56 (show k < nK tm by omega) (show i ≤ E by omega) (f1.trans f2) v2
          refine ⟨sA u' 59 (jn (42 * k + i)) (jn (ev tm E k i)), ?_, (f2.trans (j2.wk rfl rfl)).trans (fx_sA rfl), fun j hj x hx => ?_, fun x hx => ?_⟩
          · dsimp only
            unfold m_reached_B39
            rw [((f1.trans f2).1 56 rfl).1, h56, if_neg (fun e => by have := (jn_lt (by omega) (by omega)).mp e; omega), j1, bs, show (42 : Int32) = jn 42 from rfl, jn_mul, jn_add, gd_jn (by omega) (by omega)]
            simp only [nm, jn_s]
          · rw [gA_sA, jn_cl (by omega), upd_ne (by omega), (j2.1 59 rfl).2.2.1]
            exact v2 j hj x hx
          · rw [gA_sA, jn_cl (by omega)]
            by_cases e : x = i
            · subst e; rw [upd_at]
            · rw [upd_ne (by omega), (j2.1 59 rfl).2.2.1]
              exact v3 x (by omega)) (by
          rintro u ⟨f2, v2⟩
          refine ⟨u, ?_, f2, v2⟩
          dsimp only
          unfold m_reached_B39
          rw [((f1.trans f2).1 56 rfl).1, h56, if_pos ((jn_lt (by omega) (by omega)).mpr (by omega))]) 0 s (by omega) ⟨fx.rfl, v1, fun x hx => absurd hx (by omega)⟩
      obtain ⟨u, k1, f2, v2, v3⟩ := l
      refine ⟨u, ?_, f1.trans f2, fun j hj x hx => ?_⟩
      · dsimp only
        unfold m_reached_B25
        rw [gd_jn (by omega) (by omega), jn_cl (by omega), (f1.1 16 rfl).2.2.1, e16, if_neg (fun e => by have := (jn_lt (by omega) (by omega)).mp e; omega), show (0 : Int32) = jn 0 from rfl, k1, bs]
        simp only [nm, jn_s]
      · by_cases e : j = k
        · rw [e]; exact v3 x (by omega)
        · exact v2 j (by omega) x hx) (by
      rintro s ⟨f1, v1⟩
      refine ⟨s, ?_, f1, v1⟩
      dsimp only
      unfold m_reached_B25
      rw [gd_jn (by omega) (by omega), jn_cl (by omega), (f1.1 16 rfl).2.2.1, e16, if_pos ((jn_lt (by omega) (by omega)).mpr (by omega))]) 0 tm (by omega) ⟨fx.rfl, fun j hj => absurd hj (by omega)⟩
  obtain ⟨sm, m1, m2, m3⟩ := lm
  -- the class
  generalize ht : sI tx 106 (jn (E + 1)) = t
  have ft : fx [105, 106, 107] [105, 9000, 9001] tx t := by subst ht; exact fx_sI rfl
  have t106 : gI t 106 = jn (E + 1) := by subst ht; rfl
  have big : (r + 1) * (E + 1) ≤ 250 * 41 := Nat.mul_le_mul (by omega) (by omega)
  have t105 : gN t 105 = gN tx 105 := by subst ht; rfl
  obtain ⟨t1, g1, g2, ⟨g3, g3'⟩, ⟨g4, g5⟩, g6⟩ := grw_eqx (t := t) (k := 105) (N := (r + 1) * (E + 1)) (by omega) (by omega) (by omega) (fun t17 : St => x1_eventReaching_J29 t17 (jn r) (jn p))
  have f1 : fx [105, 106, 107] [105, 9000, 9001] tx t1 := ft.trans (g6 _ _ rfl rfl rfl rfl)
  have t1106 : gI t1 106 = jn (E + 1) := ((g6 [105] [105, 9000, 9001] rfl rfl rfl rfl).1 106 rfl).1.trans t106
  have lx := lp_cnt (b := fun y : Int32 × St => x1_eventReaching_B31 (jn r) (jn p) y.1 y.2) (fun i s => (jn i, s)) (r + 1)
    (fun i s => fx [105, 107] [] t1 s ∧ EvT tx tm E p r i s)
    (fun s => fx [105, 107] [] t1 s ∧ EvT tx tm E p r (r + 1) s) (by
      rintro k s hk ⟨fs, X⟩
      have l := lp_cnt (b := fun y : Int32 × St => x1_eventReaching_B39 (jn r) (jn p) (jn k) y.1 y.2) (fun i s => (jn i, s)) (E + 1)
        (fun i u => p ≤ i ∧ fx [105, 107] [] t1 u ∧ EvT tx tm E p r k u ∧ ∀ x, p ≤ x → x < i → gA u 105 (k * (E + 1) + x) = cv (ev tm E k x))
        (fun u => fx [105, 107] [] t1 u ∧ EvT tx tm E p r k u ∧ ∀ x, p ≤ x → x < E + 1 → gA u 105 (k * (E + 1) + x) = cv (ev tm E k x)) (by
          rintro i u hi ⟨hpi, f2, v2, v3⟩
          · obtain ⟨u', j1, j2⟩ := x_knot hK hE1 h7 hE (show r ≤ 250 by omega) h104 v2 (show k < nK tm by omega) (show k ≤ r by omega) hpi (show i ≤ E by omega)
            obtain ⟨y1, y2, y3, y4⟩ := v2
            have b : k * (E + 1) + i < (r + 1) * (E + 1) := by
              have : (k + 1) * (E + 1) ≤ (r + 1) * (E + 1) := Nat.mul_le_mul_right _ (by omega)
              rw [Nat.add_mul] at this
              omega
            have ga : gA (sA u' 105 (jn (k * (E + 1) + i)) (cv (ev tm E k i))) 105 = upd (gA u 105) (k * (E + 1) + i) (cv (ev tm E k i)) := by
              rw [gA_sA, jn_cl (by omega), (j2.1 105 rfl).2.2.1]
            refine ⟨sA u' 105 (jn (k * (E + 1) + i)) (cv (ev tm E k i)), ?_, by omega, (f2.trans (j2.wk rfl rfl)).trans (fx_sA rfl), ⟨(y1.trans (j2.wk rfl rfl)).trans (fx_sA rfl), (j2.1 106 rfl).1.trans y2, ?_, fun j hj x h1 h2 => ?_⟩, fun x h1 h2 => ?_⟩
            · dsimp only
              unfold x1_eventReaching_B39
              rw [(y1.1 104 rfl).1, h104, if_neg (fun e => by have := (jn_lt (by omega) (by omega)).mp e; omega), j1, bs, y2, jn_mul, jn_add]
              dsimp only
              rw [j2.2 105 rfl, gd_jn (by omega) (by omega)]
              simp only [nm, jn_s]
            · show _ ≤ gN u' 105
              rw [j2.2 105 rfl]; exact y3
            · rw [ga, upd_ne (by
                have : (j + 1) * (E + 1) ≤ k * (E + 1) := Nat.mul_le_mul_right _ (by omega)
                rw [Nat.add_mul] at this
                omega)]
              exact y4 j hj x h1 h2
            · rw [ga]
              by_cases e : x = i
              · subst e; rw [upd_at]
              · rw [upd_ne (by omega)]
                exact v3 x h1 (by omega)) (by
          rintro u ⟨-, f2, v2, v3⟩
          refine ⟨u, ?_, f2, v2, v3⟩
          dsimp only
          unfold x1_eventReaching_B39
          rw [(v2.1.1 104 rfl).1, h104, if_pos ((jn_lt (by omega) (by omega)).mpr (by omega))]) p s (by omega) ⟨Nat.le_refl _, fs, X, fun x h1 h2 => absurd h2 (by omega)⟩
      obtain ⟨u, k1, f2, v2, v3⟩ := l
      refine ⟨u, ?_, f2, v2.1, v2.2.1, v2.2.2.1, fun j hj x h1 h2 => ?_⟩
      · dsimp only
        unfold x1_eventReaching_B31
        rw [if_neg (fun e => by have := (jn_lt (by omega) (by omega)).mp e; omega), k1, bs]
        simp only [nm, jn_s]
      · by_cases e : j = k
        · rw [e]; exact v3 x h1 (by omega)
        · exact v2.2.2.2 j (by omega) x h1 h2) (by
      rintro s hs
      exact ⟨s, by dsimp only; unfold x1_eventReaching_B31; rw [if_pos ((jn_lt (by omega) (by omega)).mpr (by omega))], hs⟩) 0 t1 (by omega) ⟨fx.rfl, f1, t1106, g2, fun j hj => absurd hj (by omega)⟩
  obtain ⟨sx, x1, x2, y1, y2, y3, y4⟩ := lx
  have hV := ev_V hK hE r p hr hpE
  have b : r * (E + 1) + p < (r + 1) * (E + 1) := by rw [Nat.add_mul]; omega
  refine ⟨cv (ev tm E r p), sx, sm, ?_, ?_, ?_, ?_, ?_⟩
  · unfold x11_reached x1_eventReaching x11_reached_J53
    rw [noNet_T hn, bs, if_pos rfl, h104, show x11_outside tx (jn p) 0 (jn E) = some 0 from oT (Nat.zero_le p) hpE (by omega) tx, bs, if_pos rfl, hN.1, gd_jn (by omega) (by omega), jn_cl (by omega), e602]
    simp only [nm]
    rw [if_pos (jn_nn (by omega)), jn_s, ht, t106, jn_s, jn_mul, g1]
    unfold x1_eventReaching_J29
    rw [show (0 : Int32) = jn 0 from rfl, x1, bs, y2, jn_mul, jn_add, gd_jn (by omega) (by omega), jn_cl (by omega), y4 r (by omega) p (Nat.le_refl _) hpE, bs]
  · unfold m_reached
    rw [h56, show m_in tm (jn p) 0 (jn E) = some 1 from iT (Nat.zero_le p) hpE (by omega) tm, bs, why_ok hn e16 (by omega), bs, if_pos rfl, show (0 : Int32) = jn 0 from rfl, m1, bs, gd_jn (by omega) (by omega), jn_cl (by omega), (m2.1 16 rfl).2.2.1, e16, show (42 : Int32) = jn 42 from rfl, jn_mul, jn_add, gd_jn (by omega) (by omega), jn_cl (by omega), m3 r (by omega) p hpE]
    simp only [nm]
    unfold cv
    have := V99 hV hE
    by_cases z : ev tm E r p = 99
    · rw [z, if_pos (by rfl), if_pos rfl]
    · rw [if_neg (jnl (x := 99) 99 rfl z (by omega) (by omega)), if_neg z]
  · rw [x2.2 105 rfl]
    by_cases q : gN t 105 < (r + 1) * (E + 1)
    · have := g3 q
      omega
    · have := g3' q
      omega
  · rw [x2.2 9000 rfl, g4]
    have : gN t 9000 = gN tx 9000 := by subst ht; rfl
    split <;> omega
  · rw [x2.2 9001 rfl, x2.2 105 rfl, g5]
    have : gN t 9001 = gN tx 9001 := by subst ht; rfl
    by_cases q : gN t 105 < (r + 1) * (E + 1)
    · have := g3 q
      rw [if_pos q]
      omega
    · have := g3' q
      rw [if_neg q]
      omega
