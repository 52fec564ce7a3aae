/-! Division bit by bit, and the fraction told, on the reference's side. -/
theorem dgt_bit (V i j : Nat) : (dgt V i).testBit j = (decide (j < 30) && V.testBit (30 * i + j)) := by
  unfold dgt
  rw [show (1073741824 : Nat) = 2 ^ 30 from rfl, Nat.testBit_mod_two_pow, Bp_pow, Nat.testBit_div_two_pow, Nat.add_comm]
theorem trunc_bit (Q p j : Nat) : (Q / 2 ^ p * 2 ^ p).testBit j = (decide (p ≤ j) && Q.testBit j) := by
  rw [Nat.testBit_mul_two_pow, Nat.testBit_div_two_pow]
  by_cases c : p ≤ j
  · rw [show j - p + p = j by omega]
  · rw [decide_eq_false c, Bool.false_and, Bool.false_and]
theorem trunc_no {Q p : Nat} (h : Q.testBit p = false) : Q / 2 ^ p * 2 ^ p = Q / 2 ^ (p + 1) * 2 ^ (p + 1) := by
  refine Nat.eq_of_testBit_eq fun j => ?_
  rw [trunc_bit, trunc_bit]
  by_cases c : p = j
  · subst c; rw [h, Bool.and_false, Bool.and_false]
  · by_cases d : p ≤ j
    · rw [decide_eq_true d, decide_eq_true (show p + 1 ≤ j by omega)]
    · rw [decide_eq_false d, decide_eq_false (show ¬ p + 1 ≤ j by omega)]
theorem trunc_yes {Q p : Nat} (h : Q.testBit p = true) (i : Nat) : dgt (Q / 2 ^ p * 2 ^ p) i = if i = p / 30 then dgt (Q / 2 ^ (p + 1) * 2 ^ (p + 1)) i ||| 2 ^ (p % 30) else dgt (Q / 2 ^ (p + 1) * 2 ^ (p + 1)) i := by
  refine Nat.eq_of_testBit_eq fun j => ?_
  have key : (dgt (Q / 2 ^ p * 2 ^ p) i).testBit j = ((dgt (Q / 2 ^ (p + 1) * 2 ^ (p + 1)) i).testBit j || (decide (j < 30) && decide (p = 30 * i + j))) := by
    rw [dgt_bit, dgt_bit, trunc_bit, trunc_bit]
    by_cases a : j < 30
    · rw [decide_eq_true a, Bool.true_and, Bool.true_and, Bool.true_and]
      by_cases c : p = 30 * i + j
      · rw [← c, h, decide_eq_true (Nat.le_refl p), decide_eq_true (Eq.refl p), Bool.or_true]; rfl
      · rw [decide_eq_false c, Bool.or_false]
        by_cases d : p ≤ 30 * i + j
        · rw [decide_eq_true d, decide_eq_true (show p + 1 ≤ 30 * i + j by omega)]
        · rw [decide_eq_false d, decide_eq_false (show ¬ p + 1 ≤ 30 * i + j by omega)]
    · rw [decide_eq_false a, Bool.false_and, Bool.false_and, Bool.false_and, Bool.or_false]
  rw [key]
  by_cases c : i = p / 30
  · rw [if_pos c, Nat.testBit_or, Nat.testBit_two_pow]
    congr 1
    by_cases e : p % 30 = j
    · rw [decide_eq_true e, decide_eq_true (show j < 30 by omega), decide_eq_true (show p = 30 * i + j by omega)]; rfl
    · rw [decide_eq_false e]
      by_cases a : j < 30
      · rw [decide_eq_false (show ¬ p = 30 * i + j by omega), Bool.and_false]
      · rw [decide_eq_false a, Bool.false_and]
  · rw [if_neg c]
    by_cases a : j < 30
    · rw [decide_eq_false (show ¬ p = 30 * i + j by omega), Bool.and_false, Bool.or_false]
    · rw [decide_eq_false a, Bool.false_and, Bool.or_false]
theorem even_or {e b : Nat} (he : e % 2 = 0) (hb : b < 2) : e ||| b = e + b := by
  have := Nat.two_pow_add_eq_or_of_lt (i := 1) (b := b) (by omega) (e / 2)
  rw [show 2 ^ 1 * (e / 2) = e by omega] at this
  exact this.symm
theorem dgt_ev0 {r b : Nat} (hb : b < 2) : dgt (2 * r + b) 0 = dgt (2 * r) 0 ||| b := by
  rw [dgt_0, dgt_0, even_or (by omega) hb]
  omega
theorem dgt_evs {r b : Nat} (hb : b < 2) (i : Nat) : dgt (2 * r + b) (i + 1) = dgt (2 * r) (i + 1) := by
  have e : ∀ X, X / Bp (i + 1) = X / 2 / (Bp i * 536870912) := fun X => by
    rw [Nat.div_div_eq_div_mul, Bp_s]
    congr 1
    omega
  unfold dgt
  rw [e, e, show (2 * r + b) / 2 = 2 * r / 2 by omega]
theorem ldiv {V D p : Nat} (hD : 0 < D) : let r := V / 2 ^ (p + 1) % D; let b := V / 2 ^ p % 2; (2 * r + b < D → V / 2 ^ p % D = 2 * r + b ∧ (V / D).testBit p = false) ∧ (¬ 2 * r + b < D → V / 2 ^ p % D = 2 * r + b - D ∧ (V / D).testBit p = true) := by
  intro r b
  have e0 : V / 2 ^ (p + 1) = V / 2 ^ p / 2 := by rw [Nat.pow_succ, Nat.div_div_eq_div_mul]
  have eX : V / 2 ^ p = 2 * (V / 2 ^ (p + 1)) + b := by show _ = _ + V / 2 ^ p % 2; rw [e0]; omega
  have eq := Nat.div_add_mod (V / 2 ^ (p + 1)) D
  have rl : r < D := Nat.mod_lt _ hD
  have tb : (V / D).testBit p = decide (V / 2 ^ p / D % 2 = 1) := by
    rw [Nat.testBit_eq_decide_div_mod_eq, Nat.div_div_eq_div_mul, Nat.mul_comm, ← Nat.div_div_eq_div_mul]
  rw [tb]
  have hr : V / 2 ^ (p + 1) % D = r := rfl
  rw [hr] at eq
  generalize V / 2 ^ (p + 1) / D = q at *
  generalize V / 2 ^ (p + 1) = X at *
  have e2 : V / 2 ^ p = (2 * r + b) + D * (2 * q) := by
    rw [eX, ← eq, Nat.mul_left_comm D 2 q]; omega
  have bl : b < 2 := Nat.mod_lt _ (by omega)
  rw [e2, Nat.add_mul_mod_self_left, Nat.add_mul_div_left _ _ hD]
  constructor
  · intro h
    rw [Nat.mod_eq_of_lt h, Nat.div_eq_of_lt h]
    exact ⟨rfl, decide_eq_false (by omega)⟩
  · intro h
    have hm : (2 * r + b) % D = 2 * r + b - D := by rw [Nat.mod_eq_sub_mod (by omega), Nat.mod_eq_of_lt (by omega)]
    have hd : (2 * r + b) / D = 1 := by
      rw [show 2 * r + b = (2 * r + b - D) + D * 1 by omega, Nat.add_mul_div_left _ _ hD, Nat.div_eq_of_lt (by omega)]
    rw [hm, hd]
    exact ⟨rfl, decide_eq_true (by omega)⟩
theorem bitOf_eq {t : St} {x V p : Nat} (hx : x ≤ 4507) (hp : p < 210) (hV : BM t x V) : m_bitOf t (jn x) (jn p) = some (if V.testBit p then 1 else 0) := by
  have d := hV.2 (p / 30) (by omega)
  have d1 := dgt_lt V (p / 30)
  unfold m_bitOf
  rw [show (30 : Int32) = jn 30 from rfl, jn_div (a := p) (b := 30) (by omega) (by omega), j7, gd_jn (by omega) (by omega), jn_cl (by omega), d, jn_mul, jn_sub (Nat.div_mul_le_self p 30), show p - p / 30 * 30 = p % 30 by omega, jn_bit (by omega) (by omega), dgt_bit, decide_eq_true (show p % 30 < 30 by omega), Bool.true_and, show 30 * (p / 30) + p % 30 = p by omega]
  cases V.testBit p <;> rfl
theorem divides_eq {t : St} {x y z V D : Nat} (hx : x ≤ 4507) (hy : y ≤ 4507) (hz : z ≤ 4507) (hxz : x ≠ z) (hyz : y ≠ z) (hx6 : x ≠ 4506) (hy6 : y ≠ 4506) (hz6 : z ≠ 4506) (hV : BM t x V) (hD : BM t y D) (h1 : 1 ≤ D) (h2 : 2 * D ≤ Bp 7) : ∃ t', m_divides t (jn x) (jn y) (jn z) = some t' ∧ Sl [z, 4506] t t' ∧ BM t' z (V / D) := by
  obtain ⟨t1, a1, a2, a3⟩ := puts_eq (t := t) (x := z) (v := 0) hz (by omega)
  obtain ⟨t2, b1, b2, b3⟩ := puts_eq (t := t1) (x := 4506) (v := 0) (by omega) (by omega)
  have s02 : Sl [z, 4506] t t2 := (a2.wk (by simp)).trans (b2.wk (by simp))
  have a4 := a3.sl1 b2 hz6
  have top : V / 2 ^ 210 = 0 := Nat.div_eq_of_lt (by have := hV.1; rw [Bp_pow] at this; exact this)
  have top2 : V / D / 2 ^ 210 = 0 := by
    rw [Nat.div_div_eq_div_mul, Nat.mul_comm, ← Nat.div_div_eq_div_mul, top, Nat.zero_div]
  have nx : x ∉ [z, 4506] := by simp; omega
  have ny : y ∉ [z, 4506] := by simp; omega
  have L := lp_cnt (b := fun u : Int32 × St => m_divides_B19 (jn x) (jn y) (jn z) u.1 u.2) (fun i s => (dn (210 - i), s)) 210
    (fun i s => Sl [z, 4506] t s ∧ BM s 4506 (V / 2 ^ (210 - i) % D) ∧ BM s z (V / D / 2 ^ (210 - i) * 2 ^ (210 - i)))
    (fun s => Sl [z, 4506] t s ∧ BM s z (V / D)) (by
      rintro i s hi ⟨w1, w2, w3⟩
      obtain ⟨p, hp⟩ : ∃ p, p = 209 - i := ⟨_, rfl⟩
      rw [show 210 - i = p + 1 by omega] at w2 w3 ⊢
      have pl : p < 210 := by omega
      have ed : dn (p + 1) = jn p := by
        unfold dn; rw [if_neg (by omega)]; rfl
      have rl : V / 2 ^ (p + 1) % D < D := Nat.mod_lt _ h1
      obtain ⟨s1, c1, c2, c3⟩ := times_eq (x := 4506) (v := 2) (by omega) (by omega) w2 (by omega)
      have xb := bitOf_eq hx pl ((hV.sl w1 nx).sl1 c2 hx6)
      have ld := ldiv (V := V) (D := D) (p := p) h1
      have b2 : V / 2 ^ p % 2 < 2 := Nat.mod_lt _ (by omega)
      have tb : V.testBit p = decide (V / 2 ^ p % 2 = 1) := Nat.testBit_eq_decide_div_mod_eq
      dsimp only at ld
      rw [Nat.mul_comm] at c3
      generalize hr : V / 2 ^ (p + 1) % D = r at *
      generalize hb : V / 2 ^ p % 2 = b at *
      -- the bit comes in
      have g42 := c3.2 0 (by omega)
      rw [show 7 * 4506 + 0 = 31542 from rfl] at g42
      have dl := dgt_lt (2 * r) 0
      have dl2 := dgt_lt (2 * r + b) 0
      generalize hs2 : sA s1 34 (jn 31542) (jn (dgt (2 * r + b) 0)) = s2
      have o2 : On 34 (7 * 4506) 7 s1 s2 := by
        subst hs2
        refine ⟨fx_sA rfl, fun j hj => ?_⟩
        rw [gA_sA, jn_cl (by omega), upd_ne (by omega)]
      have m2 : BM s2 4506 (2 * r + b) := by
        refine ⟨by omega, fun j hj => ?_⟩
        rw [← hs2, gA_sA, jn_cl (by omega)]
        by_cases e : j = 0
        · subst e; rw [upd_at]
        · rw [upd_ne (by omega), c3.2 j hj]
          obtain ⟨k, rfl⟩ : ∃ k, j = k + 1 := ⟨j - 1, by omega⟩
          rw [dgt_evs b2]
      have q2 := Sl.of o2
      have w1b : Sl [z, 4506] t s2 := w1.trans ((c2.wk (by simp)).trans (q2.wk (by simp)))
      have yD := hD.sl w1b ny
      have zT := (w3.sl1 c2 hz6).sl1 q2 hz6
      have ag := against_eq (x := 4506) (y := y) (by omega) hy m2 yD
      have step : m_divides_B19 (jn x) (jn y) (jn z) (jn p) s = (m_against s2 (4506 : Int32) (jn y)).bind (fun q3 => if q3 < 0 then (nm ((jn p) + (-1 : Int32)) (fun x6 : Int32 => some (.inl (x6, s2)))) else ((m_lessens s2 (4506 : Int32) (jn y)).bind (fun q7 => gd (((7 : Int32) * (jn z)) + ((jn p) / (30 : Int32))) 31600 (gd (((7 : Int32) * (jn z)) + ((jn p) / (30 : Int32))) 31600 (nm (sA q7 34 (((7 : Int32) * (jn z)) + ((jn p) / (30 : Int32))) ((gA q7 34 ((((7 : Int32) * (jn z)) + ((jn p) / (30 : Int32)))).toNatClampNeg) ||| ((1 : Int32) <<< (((jn p) - (jn p) / (30 : Int32) * (30 : Int32)) &&& 31)))) (fun t11 : St => nm ((jn p) + (-1 : Int32)) (fun x12 : Int32 => some (.inl (x12, t11))))))))) := by
        have J : ∀ w3 : Int32, (jn (dgt (2 * r) 0) ||| w3) = jn (dgt (2 * r + b) 0) → m_divides_J56 s1 (jn x) (jn y) (jn z) (jn p) (jn 31542) (jn (dgt (2 * r) 0)) w3 = (m_against s2 (4506 : Int32) (jn y)).bind (fun q3 => if q3 < 0 then (nm ((jn p) + (-1 : Int32)) (fun x6 : Int32 => some (.inl (x6, s2)))) else ((m_lessens s2 (4506 : Int32) (jn y)).bind (fun q7 => gd (((7 : Int32) * (jn z)) + ((jn p) / (30 : Int32))) 31600 (gd (((7 : Int32) * (jn z)) + ((jn p) / (30 : Int32))) 31600 (nm (sA q7 34 (((7 : Int32) * (jn z)) + ((jn p) / (30 : Int32))) ((gA q7 34 ((((7 : Int32) * (jn z)) + ((jn p) / (30 : Int32)))).toNatClampNeg) ||| ((1 : Int32) <<< (((jn p) - (jn p) / (30 : Int32) * (30 : Int32)) &&& 31)))) (fun t11 : St => nm ((jn p) + (-1 : Int32)) (fun x12 : Int32 => some (.inl (x12, t11))))))))) := fun w3 h => by
          unfold m_divides_J56
          rw [gd_jn (by omega) (by omega), h, hs2]
          rfl
        unfold m_divides_B19
        rw [if_neg (jn_neg (by omega)), show (4506 : Int32) = jn 4506 from rfl, show (2 : Int32) = jn 2 from rfl, c1, bs, show (31542 : Int32) = jn 31542 from rfl, gd_jn (by omega) (by omega), xb, bs, jn_cl (by omega), g42]
        by_cases e : b = 1
        · subst e
          rw [tb, decide_eq_true rfl, if_pos rfl, if_neg (show ¬ (1 : Int32) = 0 by decide), J 1]
          · rfl
          · rw [show (1 : Int32) = jn 1 from rfl, jn_or, ← dgt_ev0 (by omega)]
        · have e0 : b = 0 := by omega
          subst e0
          rw [tb, decide_eq_false (by decide), if_pos (show (if false = true then (1 : Int32) else 0) = 0 from rfl), J 0]
          · rfl
          · rw [show (0 : Int32) = jn 0 from rfl, jn_or, ← dgt_ev0 (by omega)]
      dsimp only
      rw [ed, step, show (4506 : Int32) = jn 4506 from rfl, ag, bs, show 210 - (i + 1) = p by omega]
      by_cases c : 2 * r + b < D
      · obtain ⟨l1, l2⟩ := ld.1 c
        have cq : cmpV (2 * r + b) D < 0 := by
          unfold cmpV; rw [if_neg (by omega), if_pos c]; decide
        rw [if_pos cq]
        simp only [nm, dn_pred]
        exact ⟨s2, rfl, w1b, by rw [l1]; exact m2, by rw [trunc_no l2]; exact zT⟩
      · obtain ⟨l1, l2⟩ := ld.2 c
        have cq : ¬ cmpV (2 * r + b) D < 0 := by
          unfold cmpV
          by_cases e : 2 * r + b = D
          · rw [if_pos e]; decide
          · rw [if_neg e, if_neg c]; decide
        obtain ⟨s3, f1, f2, f3⟩ := lessens_eq (x := 4506) (y := y) (by omega) hy hy6 m2 yD (by omega)
        have zT3 := zT.sl1 f2 hz6
        have gz := zT3.2 (p / 30) (by omega)
        have dz := dgt_lt (V / D / 2 ^ (p + 1) * 2 ^ (p + 1)) (p / 30)
        rw [if_neg cq, f1, bs, show (30 : Int32) = jn 30 from rfl, jn_div (a := p) (b := 30) (by omega) (by omega), j7, gd_jn (by omega) (by omega), gd_jn (by omega) (by omega), jn_cl (by omega), gz, jn_mul, jn_sub (Nat.div_mul_le_self p 30), show p - p / 30 * 30 = p % 30 by omega, jn_shl1 _ (by omega), jn_or]
        simp only [nm, dn_pred]
        have ty := trunc_yes l2
        have tp := ty (p / 30)
        rw [if_pos rfl] at tp
        rw [← tp]
        generalize hs4 : sA s3 34 (jn (7 * z + p / 30)) (jn (dgt (V / D / 2 ^ p * 2 ^ p) (p / 30))) = s4
        have o4 : On 34 (7 * z) 7 s3 s4 := by
          subst hs4
          refine ⟨fx_sA rfl, fun j hj => ?_⟩
          rw [gA_sA, jn_cl (by omega), upd_ne (by omega)]
        have q4 := Sl.of o4
        refine ⟨s4, rfl, w1b.trans ((f2.wk (by simp)).trans (q4.wk (by simp))), by rw [l1]; exact f3.sl1 q4 (by omega), ?_⟩
        refine ⟨?_, fun j hj => ?_⟩
        · have h3 : V / D / 2 ^ p * 2 ^ p ≤ V / D := Nat.div_mul_le_self _ _
          have h4 : V / D ≤ V := Nat.div_le_self _ _
          have := hV.1
          omega
        · rw [← hs4, gA_sA, jn_cl (by omega)]
          by_cases e : j = p / 30
          · subst e; rw [upd_at]
          · rw [upd_ne (by omega), zT3.2 j hj]
            have tj := ty j
            rw [if_neg e] at tj
            rw [tj]) (by
      rintro s ⟨w1, w2, w3⟩
      rw [Nat.sub_self, Nat.pow_zero, Nat.div_one, Nat.mul_one] at w3
      exact ⟨s, by dsimp only; unfold m_divides_B19; rw [Nat.sub_self, if_pos (show dn 0 < 0 by decide)], w1, w3⟩) 0 t2 (Nat.zero_le _) ⟨s02, by rw [Nat.sub_zero, top, Nat.zero_mod]; exact b3, by rw [Nat.sub_zero, top2, Nat.zero_mul]; exact a4⟩
  obtain ⟨s, k, k1, k2⟩ := L
  refine ⟨s, ?_, k1, k2⟩
  unfold m_divides
  rw [show (0 : Int32) = jn 0 from rfl, a1, bs, show (4506 : Int32) = jn 4506 from rfl, b1, bs]
  have k' : lp (fun u : Int32 × St => m_divides_B19 (jn x) (jn y) (jn z) u.1 u.2) (209, t2) = some s := k
  rw [k', bs]
theorem tells_eq {t : St} {x y A B : Nat} (hx : x ≤ 4507) (hy : y ≤ 4507) (hx2 : x ≠ 4502 ∧ x ≠ 4503 ∧ x ≠ 4504 ∧ x ≠ 4506) (hy2 : y ≠ 4502 ∧ y ≠ 4503 ∧ y ≠ 4504 ∧ y ≠ 4506) (hA : BM t x A) (hB : BM t y B) (h1 : 1 ≤ B) (h2 : 2 * B ≤ Bp 7) : ∃ t', m_tells t (jn x) (jn y) = some t' ∧ Sl [4500, 4501, 4502, 4503, 4504, 4506] t t' ∧ BM t' 4500 (A / Nat.gcd A B) ∧ BM t' 4501 (B / Nat.gcd A B) := by
  have iz := isNothing_eq hx hA
  unfold m_tells
  by_cases z : A = 0
  · subst z
    rw [if_pos rfl] at iz
    rw [iz, bs, if_neg (show ¬ (1 : Int32) = 0 by decide)]
    obtain ⟨t1, a1, a2, a3⟩ := puts_eq (t := t) (x := 4500) (v := 0) (by omega) (by omega)
    obtain ⟨t2, b1, b2, b3⟩ := puts_eq (t := t1) (x := 4501) (v := 1) (by omega) (by omega)
    rw [show (4500 : Int32) = jn 4500 from rfl, show (0 : Int32) = jn 0 from rfl, a1, bs, show (4501 : Int32) = jn 4501 from rfl, show (1 : Int32) = jn 1 from rfl, b1, bs]
    rw [Nat.gcd_zero_left, Nat.zero_div, Nat.div_self h1]
    exact ⟨t2, rfl, (a2.wk (by simp)).trans (b2.wk (by simp)), a3.sl1 b2 (by omega), b3⟩
  · rw [if_neg z] at iz
    rw [iz, bs, if_pos rfl]
    obtain ⟨t1, a1, a2, a3⟩ := takes_eq (x := 4502) (y := x) (by omega) hx hx2.1 hA
    obtain ⟨t2, b1, b2, b3⟩ := takes_eq (x := 4503) (y := y) (by omega) hy hy2.2.1 (hB.sl1 a2 hy2.1)
    have a4 := a3.sl1 b2 (show 4502 ≠ 4503 by omega)
    obtain ⟨t3, c1, c2, c3⟩ := divisor_eq (x := 4502) (y := 4503) (by omega) (by omega) (by omega) a4 b3 (by omega) h1
    have gp : 1 ≤ Nat.gcd A B := Nat.gcd_pos_of_pos_right _ h1
    have gl : Nat.gcd A B ≤ B := Nat.gcd_le_right _ h1
    have xA3 : BM t3 x A := ((hA.sl1 a2 hx2.1).sl1 b2 hx2.2.1).sl c2 (by simp; omega)
    have yB3 : BM t3 y B := ((hB.sl1 a2 hy2.1).sl1 b2 hy2.2.1).sl c2 (by simp; omega)
    obtain ⟨t4, d1, d2, d3⟩ := divides_eq (x := x) (y := 4502) (z := 4504) hx (by omega) (by omega) hx2.2.2.1 (by omega) hx2.2.2.2 (by omega) (by omega) xA3 c3 gp (by omega)
    have c4 := c3.sl d2 (by simp)
    have yB4 := yB3.sl d2 (by simp; omega)
    obtain ⟨t5, e1, e2, e3⟩ := divides_eq (x := y) (y := 4502) (z := 4503) hy (by omega) (by omega) hy2.2.1 (by omega) hy2.2.2.2 (by omega) (by omega) yB4 c4 gp (by omega)
    have d5 := d3.sl e2 (by simp)
    obtain ⟨t6, f1, f2, f3⟩ := takes_eq (x := 4500) (y := 4504) (by omega) (by omega) (by omega) d5
    have e6 := e3.sl1 f2 (by omega)
    obtain ⟨t7, g1, g2, g3⟩ := takes_eq (x := 4501) (y := 4503) (by omega) (by omega) (by omega) e6
    refine ⟨t7, ?_, (a2.wk (by simp)).trans ((b2.wk (by simp)).trans ((c2.wk (by simp)).trans ((d2.wk (by simp)).trans ((e2.wk (by simp)).trans ((f2.wk (by simp)).trans (g2.wk (by simp))))))), f3.sl1 g2 (by omega), g3⟩
    rw [show (4502 : Int32) = jn 4502 from rfl, a1, bs, show (4503 : Int32) = jn 4503 from rfl, b1, bs, c1, bs, show (4504 : Int32) = jn 4504 from rfl, d1, bs, e1, bs, show (4500 : Int32) = jn 4500 from rfl, f1, bs, show (4501 : Int32) = jn 4501 from rfl, g1, bs]
