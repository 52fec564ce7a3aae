/-! The game's cells on the reference's side: numbers with a sign. -/
def flI (z : Int) : Int32 := if z < 0 then 1 else 0
def SG (t : St) (c : Nat) (z : Int) : Prop := BM t (402 + c) z.natAbs ∧ gA t 52 c = flI z
/-- what a cell's turn may change -/
def Cf (to : Nat) (t t' : St) : Prop := fx [34, 52] [] t t' ∧ (∀ z, z ∉ [402 + to, 701, 702, 703, 4506] → ∀ i, i < 7 → gA t' 34 (7 * z + i) = gA t 34 (7 * z + i)) ∧ ∀ c, c ≠ to → gA t' 52 c = gA t 52 c
theorem Cf.self {to : Nat} {t : St} : Cf to t t := ⟨fx.rfl, fun _ _ _ _ => Eq.refl _, fun _ _ => Eq.refl _⟩
theorem Cf.sl {to : Nat} {L : List Nat} {t u v : St} (h : Cf to t u) (g : Sl L u v) (hL : ∀ z, z ∈ L → z ∈ [402 + to, 701, 702, 703, 4506]) : Cf to t v := ⟨h.1.trans (g.1.wk (Eq.refl _) (Eq.refl _)), fun z hz i hi => (g.2 z (fun e => hz (hL z e)) i hi).trans (h.2.1 z hz i hi), fun c hc => by rw [(g.1.1 52 (Eq.refl _)).2.2.1]; exact h.2.2 c hc⟩
theorem SG.cf {to c : Nat} {t u : St} {z : Int} (h : SG t c z) (g : Cf to t u) (hc : c ≠ to) (hb : c < 298) : SG u c z := ⟨Bg.cong h.1 fun i hi => g.2.1 (402 + c) (by
  simp only [List.mem_cons, List.not_mem_nil, or_false]
  omega) i hi, (g.2.2 c hc).trans h.2⟩
theorem bm_cf {to x V : Nat} {t u : St} (h : BM t x V) (g : Cf to t u) (hx : x ∉ [402 + to, 701, 702, 703, 4506]) : BM u x V := Bg.cong h fun i hi => g.2.1 x hx i hi
theorem cell_fin {t : St} {to G D : Nat} {q : Int} (hto : to < 298) (hG : BM t 701 G) (hD : BM t 700 D) (h1 : 1 ≤ D) (h2 : 2 * D ≤ Bp 7) (e : G = D * q.natAbs) (v8 : Int32) (hv : v8 = 0 ∨ v8 = 1) (h0 : v8 = 0 → 0 ≤ q) (h1' : v8 = 1 → q ≤ 0) : ∃ t', m_turnsCell_J156 t (jn to) v8 = some t' ∧ Cf to t t' ∧ SG t' to q := by
  obtain ⟨t1, a1, a2, a3⟩ := divides_eq (t := t) (x := 701) (y := 700) (z := 703) (by omega) (by omega) (by omega) (by omega) (by omega) (by omega) (by omega) (by omega) hG hD h1 h2
  rw [e, Nat.mul_div_cancel_left _ (by omega)] at a3
  obtain ⟨t2, b1, b2, b3⟩ := takes_eq (t := t1) (x := 402 + to) (y := 703) (by omega) (by omega) (by omega) a3
  have c12 : Cf to t t2 := (Cf.self.sl a2 (by simp)).sl b2 (by simp)
  have n703 := isNothing_eq (t := t2) (x := 703) (by omega) (a3.sl1 b2 (by omega))
  have put : ∀ w : Int32, w = 0 ∨ w = 1 → w = flI q → ∃ t', m_turnsCell_J206 t2 (jn to) w = some t' ∧ Cf to t t' ∧ SG t' to q := fun w hw hq => by
    have nar : vp_nar .boolean w = w := by rcases hw with z | z <;> rw [z] <;> rfl
    refine ⟨sA t2 52 (jn to) w, ?_, ⟨c12.1.trans (fx_sA (Eq.refl _)), fun z hz i hi => ?_, fun c hc => ?_⟩, Bg.cong b3 fun i hi => ?_, ?_⟩
    · unfold m_turnsCell_J206
      rw [gd_jn (by omega) (by omega), nar, nm_eq]
    · rw [gA_sA_ne (by decide)]; exact c12.2.1 z hz i hi
    · rw [gA_sA, jn_cl (by omega), upd_ne hc]; exact c12.2.2 c hc
    · rw [gA_sA_ne (by decide)]
    · rw [gA_sA, jn_cl (by omega), upd_at, hq]
  have step : ∀ r, (if v8 = 0 then m_turnsCell_J206 t2 (jn to) 0 else (if (if q.natAbs = 0 then (1 : Int32) else 0) = 0 then m_turnsCell_J206 t2 (jn to) 1 else m_turnsCell_J206 t2 (jn to) 0)) = r → m_turnsCell_J156 t (jn to) v8 = r := fun r hr => by
    rw [← hr]
    unfold m_turnsCell_J156 m_turnsCell_J205
    rw [show (701 : Int32) = jn 701 from rfl, show (700 : Int32) = jn 700 from rfl, show (703 : Int32) = jn 703 from rfl, a1, bs, j402, b1, bs, n703, bs]
  rcases hv with z | z
  · obtain ⟨t', k1, k2⟩ := put 0 (Or.inl (Eq.refl _)) (by
      unfold flI
      rw [if_neg (by have := h0 z; omega)])
    exact ⟨t', step _ (by rw [if_pos z]; exact k1), k2⟩
  · by_cases c : q.natAbs = 0
    · obtain ⟨t', k1, k2⟩ := put 0 (Or.inl (Eq.refl _)) (by
        unfold flI
        rw [if_neg (by omega)])
      exact ⟨t', step _ (by rw [z, if_neg (by decide), if_pos c, if_neg (by decide)]; exact k1), k2⟩
    · obtain ⟨t', k1, k2⟩ := put 1 (Or.inr (Eq.refl _)) (by
        unfold flI
        rw [if_pos (by have := h1' z; omega)])
      exact ⟨t', step _ (by rw [z, if_neg (by decide), if_neg c, if_pos (Eq.refl _)]; exact k1), k2⟩
theorem fl_eq (x y : Int) : flI x = flI y ↔ (x < 0 ↔ y < 0) := by
  unfold flI
  by_cases a : x < 0
  · by_cases b : y < 0
    · rw [if_pos a, if_pos b]; exact ⟨fun _ => ⟨fun _ => b, fun _ => a⟩, fun _ => Eq.refl _⟩
    · rw [if_pos a, if_neg b]; exact ⟨fun z => absurd z (by decide), fun z => absurd (z.mp a) b⟩
  · by_cases b : y < 0
    · rw [if_neg a, if_pos b]; exact ⟨fun z => absurd z (by decide), fun z => absurd (z.mpr b) a⟩
    · rw [if_neg a, if_neg b]; exact ⟨fun _ => ⟨fun z => absurd z a, fun z => absurd z b⟩, fun _ => Eq.refl _⟩
/-- the sign of a product -/
theorem sign_ne {x y : Int} (h : ¬ (x < 0 ↔ y < 0)) : x * y = -((x.natAbs * y.natAbs : Nat) : Int) := by
  have nn : x * y ≤ 0 := by
    by_cases a : x < 0
    · have : 0 ≤ y := Int.not_lt.mp fun b => h ⟨fun _ => b, fun _ => a⟩
      exact Int.mul_nonpos_of_nonpos_of_nonneg (Int.le_of_lt a) this
    · have : y < 0 := Classical.byContradiction fun b => h ⟨fun z => absurd z a, fun z => absurd z b⟩
      exact Int.mul_nonpos_of_nonneg_of_nonpos (Int.not_lt.mp a) (Int.le_of_lt this)
  rw [← Int.natAbs_mul]
  omega
theorem sign_eq {x y : Int} (h : x < 0 ↔ y < 0) : x * y = ((x.natAbs * y.natAbs : Nat) : Int) := by
  have nn : 0 ≤ x * y := by
    by_cases a : x < 0
    · exact Int.mul_nonneg_of_nonpos_of_nonpos (Int.le_of_lt a) (Int.le_of_lt (h.mp a))
    · exact Int.mul_nonneg (Int.not_lt.mp a) (Int.not_lt.mp fun b => a (h.mpr b))
  rw [← Int.natAbs_mul]
  omega
theorem cell_turn {t : St} {to a b c d D : Nat} {za zb zc zd q : Int} (hto : to < 298) (ha : a < 298) (hb : b < 298) (hc : c < 298) (hd : d < 298) (sa : SG t a za) (sb : SG t b zb) (sc : SG t c zc) (sd : SG t d zd) (hD : BM t 700 D) (h1 : 1 ≤ D) (h2 : D ≤ 9223372036854775808) (la : za.natAbs ≤ 9223372036854775808) (lb : zb.natAbs ≤ 9223372036854775808) (lc : zc.natAbs ≤ 9223372036854775808) (ld : zd.natAbs ≤ 9223372036854775808) (e : za * zb - zc * zd = (D : Int) * q) : ∃ t', m_turnsCell t (jn to) (jn a) (jn b) (jn c) (jn d) = some t' ∧ Cf to t t' ∧ SG t' to q := by
  have bp : Bp 7 = 1645504557321206042154969182557350504982735865633579863348609024 := by decide +kernel
  have m1 : za.natAbs * zb.natAbs ≤ 9223372036854775808 * 9223372036854775808 := Nat.mul_le_mul la lb
  have m2 : zc.natAbs * zd.natAbs ≤ 9223372036854775808 * 9223372036854775808 := Nat.mul_le_mul lc ld
  rw [show 9223372036854775808 * 9223372036854775808 = 85070591730234615865843651857942052864 from by decide] at m1 m2
  obtain ⟨t1, a1, a2, a3⟩ := multiplies_eq (t := t) (x := 701) (y := 402 + a) (z := 402 + b) (by omega) (by omega) (by omega) (by omega) (by omega) sa.1 sb.1 (by omega)
  have c1 : Cf to t t1 := Cf.self.sl a2 (by simp)
  have sc1 : BM t1 (402 + c) zc.natAbs := sc.1.sl1 a2 (by omega)
  have sd1 : BM t1 (402 + d) zd.natAbs := sd.1.sl1 a2 (by omega)
  obtain ⟨t2, b1, b2, b3⟩ := multiplies_eq (t := t1) (x := 702) (y := 402 + c) (z := 402 + d) (by omega) (by omega) (by omega) (by omega) (by omega) sc1 sd1 (by omega)
  have c2 : Cf to t t2 := c1.sl b2 (by simp)
  have g1 : BM t2 701 (za.natAbs * zb.natAbs) := a3.sl1 b2 (by omega)
  have d2 : BM t2 700 D := (hD.sl1 a2 (by omega)).sl1 b2 (by omega)
  have f52 : gA t2 52 = gA t 52 := by rw [(b2.1.1 52 rfl).2.2.1, (a2.1.1 52 rfl).2.2.1]
  have fin : ∀ (u : St) (G : Nat) (v : Int32), Cf to t u → BM u 701 G → BM u 700 D → (v = 0 ∨ v = 1) → (v = 0 → za * zb - zc * zd = (G : Int)) → (v = 1 → za * zb - zc * zd = -(G : Int)) → ∃ t', m_turnsCell_J156 u (jn to) v = some t' ∧ Cf to t t' ∧ SG t' to q := fun u G v hu hG hD' hv v0 v1 => by
    have dp : (0 : Int) < D := by omega
    have ab : G = D * q.natAbs := by
      have : ((D : Int) * q).natAbs = G := by
        rw [← e]
        rcases hv with z | z
        · rw [v0 z]; rfl
        · rw [v1 z]; omega
      rw [Int.natAbs_mul] at this
      rw [← this]
      rfl
    obtain ⟨t', k1, k2, k3⟩ := cell_fin (t := u) hto hG hD' h1 (by omega) ab v hv (fun z => by
      have := v0 z
      rw [e] at this
      exact Int.nonneg_of_mul_nonneg_right (by omega) dp) (fun z => by
      have := v1 z
      rw [e] at this
      refine Int.not_lt.mp fun y => ?_
      have := Int.mul_pos dp y
      omega)
    refine ⟨t', k1, ⟨hu.1.trans k2.1, fun z hz i hi => (k2.2.1 z hz i hi).trans (hu.2.1 z hz i hi), fun c hc => (k2.2.2 c hc).trans (hu.2.2 c hc)⟩, k3⟩
  -- both add up
  have plus : ∀ v : Int32, (v = 0 ∨ v = 1) → (v = 0 → za * zb - zc * zd = ((za.natAbs * zb.natAbs + zc.natAbs * zd.natAbs : Nat) : Int)) → (v = 1 → za * zb - zc * zd = -((za.natAbs * zb.natAbs + zc.natAbs * zd.natAbs : Nat) : Int)) → ∃ t', m_turnsCell_J80 t2 (jn to) v v = some t' ∧ Cf to t t' ∧ SG t' to q := fun v hv v0 v1 => by
    obtain ⟨t3, k1, k2, k3⟩ := adds_eq (t := t2) (x := 701) (y := 702) (by omega) (by omega) (by omega) g1 b3 (by omega)
    obtain ⟨t4, l1, l2⟩ := fin t3 _ v (c2.sl k2 (by simp)) k3 (d2.sl1 k2 (by omega)) hv v0 v1
    refine ⟨t4, ?_, l2⟩
    unfold m_turnsCell_J80
    rw [if_pos rfl, show (701 : Int32) = jn 701 from rfl, show (702 : Int32) = jn 702 from rfl, k1, bs]
    exact l1
  -- one from the other
  have minus : ∀ v v' : Int32, v ≠ v' → (v = 0 ∨ v = 1) → (v' = 0 ∨ v' = 1) → (v = 0 → za * zb - zc * zd = ((za.natAbs * zb.natAbs : Nat) : Int) - ((zc.natAbs * zd.natAbs : Nat) : Int)) → (v = 1 → za * zb - zc * zd = -(((za.natAbs * zb.natAbs : Nat) : Int) - ((zc.natAbs * zd.natAbs : Nat) : Int))) → ∃ t', m_turnsCell_J80 t2 (jn to) v v' = some t' ∧ Cf to t t' ∧ SG t' to q := fun v v' hne hv hv' v0 v1 => by
    have ag := against_eq (t := t2) (x := 701) (y := 702) (by omega) (by omega) g1 b3
    by_cases k : za.natAbs * zb.natAbs < zc.natAbs * zd.natAbs
    · obtain ⟨t3, k1, k2, k3⟩ := lessens_eq (t := t2) (x := 702) (y := 701) (by omega) (by omega) (by omega) b3 g1 (Nat.le_of_lt k)
      obtain ⟨t4, l1, l2, l3⟩ := takes_eq (t := t3) (x := 701) (y := 702) (by omega) (by omega) (by omega) k3
      obtain ⟨t5, n1, n2⟩ := fin t4 _ v' ((c2.sl k2 (by simp)).sl l2 (by simp)) l3 ((d2.sl1 k2 (by omega)).sl1 l2 (by omega)) hv' (fun z => by
        have := v1 (by rcases hv with y | y; exact absurd (y.trans z.symm) hne; exact y)
        omega) (fun z => by
        have := v0 (by rcases hv with y | y; exact y; exact absurd (y.trans z.symm) hne)
        omega)
      refine ⟨t5, ?_, n2⟩
      unfold m_turnsCell_J80
      rw [if_neg hne, show (701 : Int32) = jn 701 from rfl, show (702 : Int32) = jn 702 from rfl, ag, bs, cmp_lt k, if_pos (by decide), k1, bs, l1, bs]
      exact n1
    · obtain ⟨t3, k1, k2, k3⟩ := lessens_eq (t := t2) (x := 701) (y := 702) (by omega) (by omega) (by omega) g1 b3 (Nat.le_of_not_lt k)
      obtain ⟨t4, n1, n2⟩ := fin t3 _ v (c2.sl k2 (by simp)) k3 (d2.sl1 k2 (by omega)) hv (fun z => by
        have := v0 z
        omega) (fun z => by
        have := v1 z
        omega)
      refine ⟨t4, ?_, n2⟩
      have nneg : ¬ cmpV (za.natAbs * zb.natAbs) (zc.natAbs * zd.natAbs) < 0 := by
        by_cases y : za.natAbs * zb.natAbs = zc.natAbs * zd.natAbs
        · rw [y, cmp_eq]; decide
        · rw [cmp_gt (by omega)]; decide
      unfold m_turnsCell_J80
      rw [if_neg hne, show (701 : Int32) = jn 701 from rfl, show (702 : Int32) = jn 702 from rfl, ag, bs, if_neg nneg, k1, bs]
      exact n1
  have start : ∀ r, (if (za < 0 ↔ zb < 0) then (if (zc < 0 ↔ zd < 0) then m_turnsCell_J80 t2 (jn to) 0 1 else m_turnsCell_J80 t2 (jn to) 0 0) else (if (zc < 0 ↔ zd < 0) then m_turnsCell_J80 t2 (jn to) 1 1 else m_turnsCell_J80 t2 (jn to) 1 0)) = r → m_turnsCell t (jn to) (jn a) (jn b) (jn c) (jn d) = r := fun r hr => by
    rw [← hr]
    unfold m_turnsCell m_turnsCell_J56
    rw [show (701 : Int32) = jn 701 from rfl, show (702 : Int32) = jn 702 from rfl, j402, j402, j402, j402, a1, bs, b1, bs, gd_jn (by omega) (by omega), gd_jn (by omega) (by omega), gd_jn (by omega) (by omega), gd_jn (by omega) (by omega), jn_cl (by omega), jn_cl (by omega), jn_cl (by omega), jn_cl (by omega), f52, sa.2, sb.2, sc.2, sd.2]
    by_cases x : za < 0 ↔ zb < 0
    · rw [if_pos ((fl_eq za zb).mpr x), if_pos x]
      by_cases y : zc < 0 ↔ zd < 0
      · rw [if_pos ((fl_eq zc zd).mpr y), if_pos y]
      · rw [if_neg (fun z => y ((fl_eq zc zd).mp z)), if_neg y]
    · rw [if_neg (fun z => x ((fl_eq za zb).mp z)), if_neg x]
      by_cases y : zc < 0 ↔ zd < 0
      · rw [if_pos ((fl_eq zc zd).mpr y), if_pos y, gd_jn (by omega) (by omega), gd_jn (by omega) (by omega)]
      · rw [if_neg (fun z => y ((fl_eq zc zd).mp z)), if_neg y, gd_jn (by omega) (by omega), gd_jn (by omega) (by omega)]
  by_cases x : za < 0 ↔ zb < 0
  · have ex := sign_eq x
    by_cases y : zc < 0 ↔ zd < 0
    · have ey := sign_eq y
      obtain ⟨t', k1, k2⟩ := minus 0 1 (by decide) (Or.inl rfl) (Or.inr rfl) (fun _ => by rw [ex, ey]) (fun z => absurd z (by decide))
      exact ⟨t', start _ (by rw [if_pos x, if_pos y]; exact k1), k2⟩
    · have ey := sign_ne y
      obtain ⟨t', k1, k2⟩ := plus 0 (Or.inl rfl) (fun _ => by rw [ex, ey]; omega) (fun z => absurd z (by decide))
      exact ⟨t', start _ (by rw [if_pos x, if_neg y]; exact k1), k2⟩
  · have ex := sign_ne x
    by_cases y : zc < 0 ↔ zd < 0
    · have ey := sign_eq y
      obtain ⟨t', k1, k2⟩ := plus 1 (Or.inr rfl) (fun z => absurd z (by decide)) (fun _ => by rw [ex, ey]; omega)
      exact ⟨t', start _ (by rw [if_neg x, if_pos y]; exact k1), k2⟩
    · have ey := sign_ne y
      obtain ⟨t', k1, k2⟩ := minus 1 0 (by decide) (Or.inr rfl) (Or.inl rfl) (fun z => absurd z (by decide)) (fun _ => by rw [ex, ey]; omega)
      exact ⟨t', start _ (by rw [if_neg x, if_neg y]; exact k1), k2⟩
