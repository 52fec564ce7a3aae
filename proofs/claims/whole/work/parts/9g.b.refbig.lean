/-! Numbers by their limbs, on the reference's side. -/
def BM (t : St) (x V : Nat) : Prop := Bg (gA t 34) (7 * x) 7 V
/-- slots changed -/
def Sl (L : List Nat) (t t' : St) : Prop := fx [34] [] t t' ∧ ∀ z, z ∉ L → ∀ i, i < 7 → gA t' 34 (7 * z + i) = gA t 34 (7 * z + i)
theorem Sl.rfl {L : List Nat} {t : St} : Sl L t t := ⟨fx.rfl, fun _ _ _ _ => Eq.refl _⟩
theorem Sl.trans {L : List Nat} {a b c : St} (h : Sl L a b) (g : Sl L b c) : Sl L a c := ⟨h.1.trans g.1, fun z hz i hi => (g.2 z hz i hi).trans (h.2 z hz i hi)⟩
theorem Sl.wk {L M : List Nat} {a b : St} (h : Sl L a b) (hL : ∀ z, z ∈ L → z ∈ M) : Sl M a b := ⟨h.1, fun z hz => h.2 z fun e => hz (hL z e)⟩
theorem Sl.of {x : Nat} {t t' : St} (h : On 34 (7 * x) 7 t t') : Sl [x] t t' := ⟨h.1, fun z hz i hi => h.2 _ (by
  have : z ≠ x := fun e => hz (by rw [e]; exact List.mem_cons_self)
  omega)⟩
theorem BM.sl {L : List Nat} {t t' : St} {z V : Nat} (h : BM t z V) (hx : Sl L t t') (hz : z ∉ L) : BM t' z V := Bg.cong h fun j hj => hx.2 z hz j hj
theorem BM.sl1 {t t' : St} {x z V : Nat} (h : BM t z V) (hx : Sl [x] t t') (hz : z ≠ x) : BM t' z V := h.sl hx (fun e => hz (List.mem_singleton.mp e))
theorem BM.inj {t : St} {x V W : Nat} (h : BM t x V) (g : BM t x W) : V = W := dgt_ext 7 h.1 g.1 fun i hi => by
  have e := (h.2 i hi).symm.trans (g.2 i hi)
  have := dgt_lt V i
  have := dgt_lt W i
  exact (jn_inj (by omega) (by omega)).mp e
theorem j7 {x i : Nat} : (7 : Int32) * jn x + jn i = jn (7 * x + i) := by
  rw [show (7 : Int32) = jn 7 from rfl, jn_mul, jn_add]
theorem nle7 {i : Nat} (h : i < 7) : ¬ (7 : Int32) ≤ jn i := nle (b := 7) h (by omega)
theorem puts_eq {t : St} {x v : Nat} (hx : x ≤ 4507) (hv : v < 1073741824) : ∃ t', m_puts t (jn x) (jn v) = some t' ∧ Sl [x] t t' ∧ BM t' x v := by
  have l := lp_cnt (b := fun y : Int32 × St => m_puts_B2 (jn x) (jn v) y.1 y.2) (fun i s => (jn i, s)) 7
    (fun i s => Wr 34 (7 * x) v i t s) (fun s => Wr 34 (7 * x) v 7 t s) (by
      rintro i s hi hw
      have J : ∀ w : Int32, m_puts_J27 s (jn x) (jn v) (jn i) (jn (7 * x + i)) w = some (.inl (jn (i + 1), sA s 34 (jn (7 * x + i)) w)) := fun w => by
        unfold m_puts_J27
        rw [gd_jn (by omega) (by omega)]
        simp only [nm, jn_s]
      dsimp only
      unfold m_puts_B2
      rw [if_neg (nle7 hi), j7, J, J]
      have ds := dgt_small hv i
      by_cases c : i = 0
      · subst c
        rw [if_pos (show jn 0 = 0 from rfl)]
        exact ⟨_, rfl, hw.put (by omega) (by rw [ds, if_pos rfl])⟩
      · rw [if_neg (jn_nz c (by omega))]
        exact ⟨_, rfl, hw.put (by omega) (by rw [ds, if_neg c]; rfl)⟩) (by
      rintro s hs
      exact ⟨s, by dsimp only; unfold m_puts_B2; rw [if_pos (show (7 : Int32) ≤ jn 7 by decide)], hs⟩) 0 t (Nat.zero_le _) Wr.nil
  obtain ⟨s, k, k1⟩ := l
  have b : v < Bp 7 := Nat.lt_of_lt_of_le hv (Bp_le (i := 1) (by omega))
  obtain ⟨o1, o2⟩ := k1.fin b
  refine ⟨s, ?_, Sl.of o1, o2⟩
  unfold m_puts
  rw [show lp (fun y : Int32 × St => m_puts_B2 (jn x) (jn v) y.1 y.2) ((0 : Int32), t) = some s from k, bs]
theorem takes_eq {t : St} {x y V : Nat} (hx : x ≤ 4507) (hy : y ≤ 4507) (hn : y ≠ x) (hV : BM t y V) : ∃ t', m_takes t (jn x) (jn y) = some t' ∧ Sl [x] t t' ∧ BM t' x V := by
  have l := lp_cnt (b := fun z : Int32 × St => m_takes_B2 (jn x) (jn y) z.1 z.2) (fun i s => (jn i, s)) 7
    (fun i s => Wr 34 (7 * x) V i t s) (fun s => Wr 34 (7 * x) V 7 t s) (by
      rintro i s hi hw
      dsimp only
      unfold m_takes_B2
      rw [if_neg (nle7 hi), j7, j7, gd_jn (by omega) (by omega), gd_jn (by omega) (by omega)]
      simp only [nm, jn_s]
      exact ⟨_, rfl, hw.put (by omega) (by rw [jn_cl (by omega), hw.2.2 _ (by omega)]; exact hV.2 i hi)⟩) (by
      rintro s hs
      exact ⟨s, by dsimp only; unfold m_takes_B2; rw [if_pos (show (7 : Int32) ≤ jn 7 by decide)], hs⟩) 0 t (Nat.zero_le _) Wr.nil
  obtain ⟨s, k, k1⟩ := l
  obtain ⟨o1, o2⟩ := k1.fin hV.1
  refine ⟨s, ?_, Sl.of o1, o2⟩
  unfold m_takes
  rw [show lp (fun z : Int32 × St => m_takes_B2 (jn x) (jn y) z.1 z.2) ((0 : Int32), t) = some s from k, bs]
theorem adds_eq {t : St} {x y V W : Nat} (hx : x ≤ 4507) (hy : y ≤ 4507) (hn : y ≠ x) (hV : BM t x V) (hW : BM t y W) (hs : V + W < Bp 7) : ∃ t', m_adds t (jn x) (jn y) = some t' ∧ Sl [x] t t' ∧ BM t' x (V + W) := by
  have l := lp_cnt (b := fun z : Int32 × Int32 × St => m_adds_B5 (jn x) (jn y) z.1 z.2.1 z.2.2) (fun i s => (jn (cry 1 V 1 W i), jn i, s)) 7
    (fun i s => Wr 34 (7 * x) (1 * V + 1 * W) i t s) (fun s => Wr 34 (7 * x) (1 * V + 1 * W) 7 t s) (by
      rintro i s hi hw
      have d1 := dgt_lt V i
      have d2 := dgt_lt W i
      have c1 := cry_le (V := V) (W := W) (i := i) (show 1 + 1 ≤ 2 from Nat.le_refl _)
      have cd := cry_dgt 1 V 1 W i
      have cs := cry_s 1 V 1 W i
      have e : jl (dgt V i) + jl (dgt W i) + jl (cry 1 V 1 W i) = jl (cry 1 V 1 W i + 1 * dgt V i + 1 * dgt W i) := by
        rw [jl_add, jl_add]; congr 1; omega
      dsimp only
      unfold m_adds_B5
      rw [if_neg (nle7 hi), j7, j7, gd_jn (by omega) (by omega), gd_jn (by omega) (by omega), jn_cl (by omega), jn_cl (by omega), hw.2.2 (7 * x + i) (by omega), hw.2.2 (7 * y + i) (by omega), hV.2 i hi, hW.2 i hi, jl_i (by omega), jl_i (by omega), jl_i (by omega), e]
      simp only [nm]
      rw [gd_jn (by omega) (by omega), show (1073741824 : Int64) = jl 1073741824 from rfl, jl_rem (by omega) (by omega), jl_div (by omega) (by omega), cd, ← cs, jl_to, jl_to, jn_s]
      exact ⟨_, rfl, hw.put (by omega) rfl⟩) (by
      rintro s hs
      exact ⟨s, by dsimp only; unfold m_adds_B5; rw [if_pos (show (7 : Int32) ≤ jn 7 by decide)], hs⟩) 0 t (Nat.zero_le _) Wr.nil
  obtain ⟨s, k, k1⟩ := l
  rw [Nat.one_mul, Nat.one_mul] at k1
  obtain ⟨o1, o2⟩ := k1.fin hs
  refine ⟨s, ?_, Sl.of o1, o2⟩
  unfold m_adds
  have k' : lp (fun z : Int32 × Int32 × St => m_adds_B5 (jn x) (jn y) z.1 z.2.1 z.2.2) (0, 0, t) = some s := by
    have := k
    rw [cry_0] at this
    exact this
  rw [k', bs]
theorem times_eq {t : St} {x V v : Nat} (hx : x ≤ 4507) (hv : v ≤ 1000) (hV : BM t x V) (hs : V * v < Bp 7) : ∃ t', m_times t (jn x) (jn v) = some t' ∧ Sl [x] t t' ∧ BM t' x (V * v) := by
  have eR : v * V + 0 * 0 = V * v := by rw [Nat.mul_comm]; omega
  have l := lp_cnt (b := fun z : Int64 × Int32 × St => m_times_B5 (jn x) (jn v) z.1 z.2.1 z.2.2) (fun i s => (jl (cry v V 0 0 i), jn i, s)) 7
    (fun i s => Wr 34 (7 * x) (v * V + 0 * 0) i t s) (fun s => Wr 34 (7 * x) (v * V + 0 * 0) 7 t s) (by
      rintro i s hi hw
      have d1 := dgt_lt V i
      have c1 := cry_le (a := v) (V := V) (b := 0) (W := 0) (i := i) (show v + 0 ≤ 1000 by omega)
      have cd := cry_dgt v V 0 0 i
      have cs := cry_s v V 0 0 i
      have m1 : v * dgt V i ≤ 1000 * dgt V i := Nat.mul_le_mul_right _ hv
      have e : jl (dgt V i) * jl v + jl (cry v V 0 0 i) = jl (cry v V 0 0 i + v * dgt V i + 0 * dgt 0 i) := by
        rw [jl_mul, jl_add, Nat.mul_comm (dgt V i)]; congr 1; omega
      dsimp only
      unfold m_times_B5
      rw [if_neg (nle7 hi), j7, gd_jn (by omega) (by omega), jn_cl (by omega), hw.2.2 (7 * x + i) (by omega), hV.2 i hi, jl_i (by omega), jl_i (by omega), e]
      simp only [nm]
      rw [gd_jn (by omega) (by omega), show (1073741824 : Int64) = jl 1073741824 from rfl, jl_rem (by omega) (by omega), jl_div (by omega) (by omega), cd, ← cs, jl_to, jn_s]
      exact ⟨_, rfl, hw.put (by omega) rfl⟩) (by
      rintro s hs
      exact ⟨s, by dsimp only; unfold m_times_B5; rw [if_pos (show (7 : Int32) ≤ jn 7 by decide)], hs⟩) 0 t (Nat.zero_le _) Wr.nil
  obtain ⟨s, k, k1⟩ := l
  rw [eR] at k1
  obtain ⟨o1, o2⟩ := k1.fin hs
  refine ⟨s, ?_, Sl.of o1, o2⟩
  unfold m_times
  have k' : lp (fun z : Int64 × Int32 × St => m_times_B5 (jn x) (jn v) z.1 z.2.1 z.2.2) (0, 0, t) = some s := by
    have := k
    rw [cry_0] at this
    exact this
  rw [k', bs]
theorem lessens_eq {t : St} {x y V W : Nat} (hx : x ≤ 4507) (hy : y ≤ 4507) (hn : y ≠ x) (hV : BM t x V) (hW : BM t y W) (hs : W ≤ V) : ∃ t', m_lessens t (jn x) (jn y) = some t' ∧ Sl [x] t t' ∧ BM t' x (V - W) := by
  have l := lp_cnt (b := fun z : Int32 × Int32 × St => m_lessens_B5 (jn x) (jn y) z.1 z.2.1 z.2.2) (fun i s => (jn (brw V W i), jn i, s)) 7
    (fun i s => Wr 34 (7 * x) (V - W) i t s) (fun s => Wr 34 (7 * x) (V - W) 7 t s) (by
      rintro i s hi hw
      have d1 := dgt_lt V i
      have d2 := dgt_lt W i
      have c1 := brw_le V W i
      have cd := brw_dgt hs i
      have cs := brw_s V W i
      have J : ∀ w b : Int32, m_lessens_J79 s (jn x) (jn y) b (jn i) (jn (7 * x + i)) w = some (.inl (b, jn (i + 1), sA s 34 (jn (7 * x + i)) w)) := fun w b => by
        unfold m_lessens_J79
        rw [gd_jn (by omega) (by omega)]
        simp only [nm, jn_s]
      dsimp only
      unfold m_lessens_B5
      rw [if_neg (nle7 hi), j7, j7, gd_jn (by omega) (by omega), gd_jn (by omega) (by omega), jn_cl (by omega), jn_cl (by omega), hw.2.2 (7 * x + i) (by omega), hw.2.2 (7 * y + i) (by omega), hV.2 i hi, hW.2 i hi]
      simp only [nm]
      unfold m_lessens_J51
      rw [j7, J, J, J, J]
      by_cases c : dgt V i < dgt W i + brw V W i
      · rw [if_pos c] at cd cs
        have ng : ¬ (0 : Int32) ≤ jn (dgt V i) - jn (dgt W i) - jn (brw V W i) := by
          rw [sub_neg3 c]; exact neg_nn (by omega) (by omega)
        rw [if_neg ng, if_neg ng, cs, show (1073741824 : Int32) = jn 1073741824 from rfl, sub_add3 (by omega), ← cd]
        exact ⟨_, rfl, hw.put (by omega) rfl⟩
      · rw [if_neg c] at cd cs
        rw [sub3 (by omega), ← cd, if_pos (jn_nn (by have := dgt_lt (V - W) i; omega)), if_pos (jn_nn (by have := dgt_lt (V - W) i; omega)), cs]
        exact ⟨_, rfl, hw.put (by omega) rfl⟩) (by
      rintro s hs
      exact ⟨s, by dsimp only; unfold m_lessens_B5; rw [if_pos (show (7 : Int32) ≤ jn 7 by decide)], hs⟩) 0 t (Nat.zero_le _) Wr.nil
  obtain ⟨s, k, k1⟩ := l
  obtain ⟨o1, o2⟩ := k1.fin (Nat.lt_of_le_of_lt (Nat.sub_le _ _) hV.1)
  refine ⟨s, ?_, Sl.of o1, o2⟩
  unfold m_lessens
  have k' : lp (fun z : Int32 × Int32 × St => m_lessens_B5 (jn x) (jn y) z.1 z.2.1 z.2.2) (0, 0, t) = some s := by
    have := k
    rw [brw_0] at this
    exact this
  rw [k', bs]
theorem isEven_eq {t : St} {x V : Nat} (hx : x ≤ 4507) (hV : BM t x V) : m_isEven t (jn x) = some (if V % 2 = 0 then 1 else 0) := by
  have d := hV.2 0 (by omega)
  have d1 := dgt_lt V 0
  rw [Nat.add_zero] at d
  unfold m_isEven
  rw [show (7 : Int32) = jn 7 from rfl, jn_mul, gd_jn (by omega) (by omega), jn_cl (by omega), d, show (1 : Int32) = jn (2 ^ 1 - 1) from rfl, jn_and, Nat.and_two_pow_sub_one_eq_mod]
  rw [dgt_0] at d1 ⊢
  have e : V % 1073741824 % 2 ^ 1 = V % 2 := by omega
  rw [e]
  by_cases c : V % 2 = 0
  · rw [c, if_pos rfl, if_pos (show jn 0 = 0 from rfl)]
  · rw [if_neg (jn_nz c (by omega)), if_neg c]
theorem halves_eq {t : St} {x V : Nat} (hx : x ≤ 4507) (hV : BM t x V) : ∃ t', m_halves t (jn x) = some t' ∧ Sl [x] t t' ∧ BM t' x (V / 2) := by
  have l := lp_cnt (b := fun z : Int32 × Int32 × St => m_halves_B5 (jn x) z.1 z.2.1 z.2.2) (fun i s => (jn (V / Bp (7 - i) % 2), dn (7 - i), s)) 7
    (fun i s => Wd 34 (7 * x) 7 (V / 2) (7 - i) t s) (fun s => Wd 34 (7 * x) 7 (V / 2) 0 t s) (by
      rintro i s hi hw
      have e1 : 7 - i = (6 - i) + 1 := by omega
      rw [e1] at hw
      have ed : dn (7 - i) = jn (6 - i) := by
        unfold dn; rw [if_neg (by omega)]; congr 1; omega
      have d1 := dgt_lt V (6 - i)
      have dd := dgt_div (V := V) (d := 2) (i := 6 - i) (by omega)
      have c2 := Nat.mod_lt (V / Bp (7 - i)) (show 2 > 0 by omega)
      rw [e1] at c2
      have J : ∀ w w2 : Int32, m_halves_J48 s (jn x) (jn (6 - i)) (jn (dgt V (6 - i))) (jn (7 * x + (6 - i))) w w2 = some (.inl (jn (dgt V (6 - i)) &&& 1, dn (6 - i), sA s 34 (jn (7 * x + (6 - i))) (w + w2))) := fun w w2 => by
        unfold m_halves_J48
        rw [gd_jn (by omega) (by omega)]
        simp only [nm, dn_pred]
      dsimp only
      unfold m_halves_B5
      rw [ed, if_neg (jn_neg (by omega)), j7, gd_jn (by omega) (by omega), jn_cl (by omega), hw.2.2 _ (by omega), hV.2 _ (by omega)]
      simp only [nm]
      rw [show (1 : Int32) &&& 31 = jn 1 &&& 31 from rfl, jn_shr (by omega) (by omega), J, J, show jn (dgt V (6 - i)) &&& 1 = jn (dgt V (6 - i) % 2) from by rw [show (1 : Int32) = jn (2 ^ 1 - 1) from rfl, jn_and, Nat.and_two_pow_sub_one_eq_mod], e1, show 7 - (i + 1) = 6 - i by omega, show dgt V (6 - i) >>> 1 = dgt V (6 - i) / 2 from Nat.shiftRight_eq_div_pow _ 1]
      generalize V / Bp (6 - i + 1) % 2 = c at *
      have m2 : dgt V (6 - i) % 2 = V / Bp (6 - i) % 2 := by
        rw [← dd.1]; omega
      rw [m2]
      by_cases h : c = 1
      · subst h
        rw [if_pos (show jn 1 = 1 from rfl)]
        exact ⟨_, rfl, hw.put (by omega) (by omega) (by rw [show (536870912 : Int32) = jn 536870912 from rfl, jn_add, ← dd.2]; congr 1; omega)⟩
      · have : c = 0 := by omega
        subst this
        rw [if_neg (show ¬ jn 0 = 1 by decide)]
        exact ⟨_, rfl, hw.put (by omega) (by omega) (by rw [show (0 : Int32) = jn 0 from rfl, jn_add, ← dd.2]; congr 1; omega)⟩) (by
      rintro s hs
      rw [Nat.sub_self] at *
      exact ⟨s, by dsimp only; unfold m_halves_B5; rw [if_pos (show dn 0 < 0 by decide)], hs⟩) 0 t (Nat.zero_le _) Wd.nil
  obtain ⟨s, k, k1⟩ := l
  obtain ⟨o1, o2⟩ := k1.fin (Nat.lt_of_le_of_lt (Nat.div_le_self _ _) hV.1)
  refine ⟨s, ?_, Sl.of o1, o2⟩
  unfold m_halves
  have k' : lp (fun z : Int32 × Int32 × St => m_halves_B5 (jn x) z.1 z.2.1 z.2.2) (0, 6, t) = some s := by
    have := k
    rw [Nat.sub_zero, Nat.div_eq_of_lt hV.1] at this
    exact this
  rw [k', bs]
theorem isNothing_eq {t : St} {x V : Nat} (hx : x ≤ 4507) (hV : BM t x V) : m_isNothing t (jn x) = some (if V = 0 then 1 else 0) := by
  have B : ∀ i, i < 7 → m_isNothing_B2 t (jn x) (jn i) = if dgt V i = 0 then some (.inl (jn (i + 1))) else some (.inr (.inl ())) := fun i hi => by
    have d1 := dgt_lt V i
    unfold m_isNothing_B2
    rw [if_neg (nle7 hi), j7, gd_jn (by omega) (by omega), jn_cl (by omega), hV.2 i hi]
    simp only [nm, jn_s]
    by_cases c : dgt V i = 0
    · rw [if_pos c, c, if_pos (show jn 0 = 0 from rfl)]
    · rw [if_neg c, if_neg (jn_nz c (by omega))]
  unfold m_isNothing
  by_cases z : V = 0
  · subst z
    have l := lp_cnt (b := fun y : Int32 => m_isNothing_B2 t (jn x) y) (fun i (_ : Unit) => jn i) 7 (fun _ _ => True) (fun y => y = .inr ()) (by
      rintro i ⟨⟩ hi -
      exact ⟨(), by rw [B i hi, if_pos (dgt_of_lt (Bp_pos i))], trivial⟩) (by
      rintro ⟨⟩ -
      exact ⟨_, by unfold m_isNothing_B2; rw [if_pos (show (7 : Int32) ≤ jn 7 by decide)], rfl⟩) 0 () (Nat.zero_le _) trivial
    obtain ⟨y, k, rfl⟩ := l
    rw [show lp (fun y : Int32 => m_isNothing_B2 t (jn x) y) (0 : Int32) = some (.inr ()) from k, bs, if_pos rfl]
    rfl
  · have ex : ∃ i, i < 7 ∧ dgt V i ≠ 0 := by
      by_cases e : ∃ i, i < 7 ∧ dgt V i ≠ 0
      · exact e
      · refine absurd (dgt_ext 7 hV.1 (Bp_pos 7) fun i hi => ?_) z
        rw [dgt_of_lt (Bp_pos i)]
        by_cases q : dgt V i = 0
        · exact q
        · exact absurd ⟨i, hi, q⟩ e
    obtain ⟨n, hn⟩ := ex
    obtain ⟨k, -, ⟨k1, k2⟩, k3⟩ := least_k (P := fun i => i < 7 ∧ dgt V i ≠ 0) hn
    have l := lp_cnt (b := fun y : Int32 => m_isNothing_B2 t (jn x) y) (fun i (_ : Unit) => jn i) k (fun _ _ => True) (fun y => y = .inl ()) (by
      rintro i ⟨⟩ hi -
      refine ⟨(), ?_, trivial⟩
      rw [B i (by omega), if_pos]
      by_cases q : dgt V i = 0
      · exact q
      · exact absurd ⟨by omega, q⟩ (k3 i hi)) (by
      rintro ⟨⟩ -
      exact ⟨_, by rw [B k k1, if_neg k2], rfl⟩) 0 () (Nat.zero_le _) trivial
    obtain ⟨y, kk, rfl⟩ := l
    rw [show lp (fun y : Int32 => m_isNothing_B2 t (jn x) y) (0 : Int32) = some (.inl ()) from kk, bs, if_neg z]
    rfl
def cmpV (V W : Nat) : Int32 := if V = W then 0 else if V < W then -1 else 1
theorem against_eq {t : St} {x y V W : Nat} (hx : x ≤ 4507) (hy : y ≤ 4507) (hV : BM t x V) (hW : BM t y W) : m_against t (jn x) (jn y) = some (cmpV V W) := by
  have B : ∀ i, i < 7 → m_against_B3 t (jn x) (jn y) (dn (7 - i)) = if dgt V (6 - i) = dgt W (6 - i) then some (.inl (dn (7 - (i + 1)))) else some (.inr (.inl (jn (dgt V (6 - i)), jn (dgt W (6 - i))))) := fun i hi => by
    have d1 := dgt_lt V (6 - i)
    have d2 := dgt_lt W (6 - i)
    have ed : dn (7 - i) = jn (6 - i) := by
      unfold dn; rw [if_neg (by omega)]; congr 1; omega
    unfold m_against_B3
    rw [ed, if_neg (jn_neg (by omega)), j7, j7, gd_jn (by omega) (by omega), jn_cl (by omega), jn_cl (by omega), hV.2 _ (by omega)]
    simp only [nm]
    rw [gd_jn (by omega) (by omega), hW.2 _ (by omega), dn_pred, show 7 - (i + 1) = 6 - i by omega]
    by_cases c : dgt V (6 - i) = dgt W (6 - i)
    · rw [if_pos c, if_pos (by rw [c])]
    · rw [if_neg c, if_neg (fun z => c ((jn_inj (by omega) (by omega)).mp z))]
  have e0 : (6 : Int32) = dn (7 - 0) := rfl
  unfold m_against
  rw [e0]
  by_cases z : V = W
  · subst z
    have l := lp_cnt (b := fun y' : Int32 => m_against_B3 t (jn x) (jn y) y') (fun i (_ : Unit) => dn (7 - i)) 7 (fun _ _ => True) (fun u => u = .inr ()) (by
      rintro i ⟨⟩ hi -
      exact ⟨(), by rw [B i hi, if_pos rfl], trivial⟩) (by
      rintro ⟨⟩ -
      exact ⟨_, by unfold m_against_B3; rw [Nat.sub_self, if_pos (show dn 0 < 0 by decide)], rfl⟩) 0 () (Nat.zero_le _) trivial
    obtain ⟨u, k, rfl⟩ := l
    rw [show lp (fun y' : Int32 => m_against_B3 t (jn x) (jn y) y') (dn (7 - 0)) = some (.inr ()) from k, bs]
    unfold cmpV
    rw [if_pos rfl]
    rfl
  · have ex : ∃ i, i < 7 ∧ dgt V (6 - i) ≠ dgt W (6 - i) := by
      by_cases e : ∃ i, i < 7 ∧ dgt V (6 - i) ≠ dgt W (6 - i)
      · exact e
      · refine absurd (dgt_ext 7 hV.1 hW.1 fun i hi => ?_) z
        by_cases q : dgt V i = dgt W i
        · exact q
        · exact absurd ⟨6 - i, by omega, by rw [show 6 - (6 - i) = i by omega]; exact q⟩ e
    obtain ⟨n, hn⟩ := ex
    obtain ⟨k, -, ⟨k1, k2⟩, k3⟩ := least_k (P := fun i => i < 7 ∧ dgt V (6 - i) ≠ dgt W (6 - i)) hn
    have hq : ∀ i, i < k → dgt V (6 - i) = dgt W (6 - i) := fun i hi => by
      by_cases q : dgt V (6 - i) = dgt W (6 - i)
      · exact q
      · exact absurd ⟨by omega, q⟩ (k3 i hi)
    have l := lp_cnt (b := fun y' : Int32 => m_against_B3 t (jn x) (jn y) y') (fun i (_ : Unit) => dn (7 - i)) k (fun _ _ => True) (fun u => u = .inl (jn (dgt V (6 - k)), jn (dgt W (6 - k)))) (by
      rintro i ⟨⟩ hi -
      exact ⟨(), by rw [B i (by omega), if_pos (hq i hi)], trivial⟩) (by
      rintro ⟨⟩ -
      exact ⟨_, by rw [B k k1, if_neg k2], rfl⟩) 0 () (Nat.zero_le _) trivial
    obtain ⟨u, kk, rfl⟩ := l
    have d1 := dgt_lt V (6 - k)
    have d2 := dgt_lt W (6 - k)
    have he : ∀ j, 6 - k < j → j < 7 → dgt V j = dgt W j := fun j h1 h2 => by
      have := hq (6 - j) (by omega)
      rw [show 6 - (6 - j) = j by omega] at this
      exact this
    rw [show lp (fun y' : Int32 => m_against_B3 t (jn x) (jn y) y') (dn (7 - 0)) = some (.inl (jn (dgt V (6 - k)), jn (dgt W (6 - k)))) from kk, bs]
    unfold cmpV
    rw [if_neg z]
    dsimp only [Sum.elim]
    by_cases c : dgt V (6 - k) < dgt W (6 - k)
    · rw [if_neg (nle c (by omega)), if_pos (cmp_top hV.1 hW.1 (by omega) he c)]
    · have c' : dgt W (6 - k) < dgt V (6 - k) := by omega
      have := cmp_top hW.1 hV.1 (i := 6 - k) (by omega) (fun j h1 h2 => (he j h1 h2).symm) c'
      rw [if_pos ((jn_le (by omega) (by omega)).mpr (by omega)), if_neg (by omega)]
