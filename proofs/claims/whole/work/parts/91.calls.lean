/-! Patrols. -/
theorem sAr_sAr {t : St} {k : Nat} {f g : Nat → Int32} : sAr (sAr t k f) k g = sAr t k g := by
  unfold sAr
  congr 1
  congr 1
  congr 1
  funext j
  show (if j = k then g else if j = k then f else t.2.2.1 j) = if j = k then g else t.2.2.1 j
  split <;> rfl
theorem sAr_self {t : St} {k : Nat} : sAr t k (gA t k) = t := by
  obtain ⟨a, b, c, d, e⟩ := t
  unfold sAr
  congr 1
  congr 1
  congr 1
  funext j
  show (if j = k then c k else c j) = c j
  split
  · next h => rw [h]
  · rfl
theorem gA_sAr {t : St} {k : Nat} {f : Nat → Int32} : gA (sAr t k f) k = f := up_at
/-- a row with n places from a on put to 0 -/
def wip0 (f : Nat → Int32) (a n : Nat) : Nat → Int32 := fun i => if a ≤ i ∧ i < a + n then 0 else f i
theorem wip0_z (f : Nat → Int32) (a : Nat) : wip0 f a 0 = f := by
  funext i
  unfold wip0
  rw [if_neg (by omega)]
theorem wip0_s (f : Nat → Int32) (a n : Nat) : upd (wip0 f a n) (a + n) 0 = wip0 f a (n + 1) := by
  funext i
  by_cases e : i = a + n
  · subst e
    rw [upd_at]
    unfold wip0
    rw [if_pos (by omega)]
  · rw [upd_ne e]
    unfold wip0
    by_cases g : a ≤ i ∧ i < a + n
    · rw [if_pos g, if_pos (by omega)]
    · rw [if_neg g, if_neg (by omega)]
def RP (tx tm : St) : Prop := gN tx 301 = 96 ∧ ∃ n, n ≤ 6 ∧ gI tx 302 = jn n ∧ gI tm 50 = jn n ∧ ∀ i, i < 16 * n → gA tx 301 i = gA tm 51 i ∧ ∃ v, v ≤ 1000 ∧ gA tm 51 i = jn v
theorem RP.fr {S T S' T' : List Nat} {tx tm tx' tm' : St} (h : RP tx tm) (hx : fx S T tx tx') (hm : fx S' T' tm tm') (h1 : (S.elem 301 || S.elem 302) = false := by rfl) (h2 : T.elem 301 = false := by rfl) (h3 : (S'.elem 50 || S'.elem 51) = false := by rfl) : RP tx' tm' := by
  simp only [Bool.or_eq_false_iff] at h1 h3
  unfold RP
  rw [hx.2 301 h2, (hx.1 301 h1.1).2.2.1, (hx.1 302 h1.2).1, (hm.1 50 h3.1).1, (hm.1 51 h3.2).2.2.1]
  exact h
theorem m_patrol_lp {t : St} {n : Nat} (hn : n ≤ 5) (e : gI t 50 = jn n) : lp (fun x : Int32 × St => m_patrol_B14 x.1 x.2) (jn 0, t) = some (sAr t 51 (wip0 (gA t 51) (16 * n) 16)) := by
  have h := lp_cnt (b := fun x : Int32 × St => m_patrol_B14 x.1 x.2) (fun i s => (jn i, s)) 16 (fun i s => s = sAr t 51 (wip0 (gA t 51) (16 * n) i)) (fun y => y = sAr t 51 (wip0 (gA t 51) (16 * n) 16)) (by
    rintro i s hi rfl
    dsimp only
    unfold m_patrol_B14
    have q : ¬ (16 : Int32) ≤ jn i := fun e => by have := (jn_le (a := 16) (by omega) (by omega)).mp e; omega
    rw [if_neg q, show gI (sAr t 51 (wip0 (gA t 51) (16 * n) i)) 50 = gI t 50 from rfl, e, show (16 : Int32) = jn 16 from rfl, jn_mul, jn_add, gd_jn (by omega) (by omega)]
    simp only [nm]
    rw [show jn i + 1 = jn (i + 1) from jn_add i 1]
    refine ⟨_, rfl, ?_⟩
    unfold sA
    rw [gA_sAr, sAr_sAr, jn_cl (by omega), wip0_s]) (by
    rintro s rfl
    exact ⟨_, by dsimp only; unfold m_patrol_B14; rw [if_pos (by decide)], rfl⟩) 0 t (by omega) (by rw [wip0_z, sAr_self])
  obtain ⟨y, k, rfl⟩ := h
  exact k
theorem x2_wipe_301_eq {t : St} {a n : Nat} (ha : a + n ≤ gN t 301) (hb : gN t 301 ≤ 100000) : x2_wipe_301 t (jn a) (jn n) = some (sAr t 301 (wip0 (gA t 301) a n)) := by
  have h := lp_cnt (b := fun x : Int32 × St => x2_wipe_301_B2 (jn a) (jn n) x.1 x.2) (fun i s => (jn i, s)) n (fun i s => s = sAr t 301 (wip0 (gA t 301) a i)) (fun y => y = sAr t 301 (wip0 (gA t 301) a n)) (by
    rintro i s hi rfl
    dsimp only
    unfold x2_wipe_301_B2
    have q : ¬ jn n ≤ jn i := fun e => by have := (jn_le (by omega) (by omega)).mp e; omega
    rw [if_neg q, jn_add, show gN (sAr t 301 (wip0 (gA t 301) a i)) 301 = gN t 301 from rfl, gd_jn (by omega) (by omega)]
    simp only [nm]
    rw [show jn i + 1 = jn (i + 1) from jn_add i 1]
    refine ⟨_, rfl, ?_⟩
    unfold sA
    rw [gA_sAr, sAr_sAr, jn_cl (by omega), wip0_s]) (by
    rintro s rfl
    exact ⟨_, by dsimp only; unfold x2_wipe_301_B2; rw [if_pos ((jn_le (by omega) (by omega)).mpr (Nat.le_refl n))], rfl⟩) 0 t (by omega) (by rw [wip0_z, sAr_self])
  obtain ⟨y, k, rfl⟩ := h
  unfold x2_wipe_301
  rw [show ((0 : Int32), t) = (jn 0, t) from rfl, k, bs]
theorem op_patrol {tx tm : St} (h : RP tx tm) : ∃ r tx' tm', x11_patrol tx = some (r, tx') ∧ m_patrol tm = some (r, tm') ∧ RP tx' tm' := by
  have h0 := h
  obtain ⟨hN, n, hn, e5, e6, hc⟩ := h
  unfold x11_patrol m_patrol x3_hire
  by_cases g : n = 6
  · subst g
    refine ⟨-4, tx, tm, ?_, ?_, h0⟩
    · rw [e5, if_neg (by decide), bs, if_pos rfl]
    · rw [e6, if_pos (by decide)]
  · have g1 : n < 6 := by omega
    have q1 : gI tx 302 < (6 : Int32) := by rw [e5]; exact (jn_lt (b := 6) (by omega) (by omega)).mpr g1
    have q2 : ¬ gI tm 50 = (6 : Int32) := by rw [e6]; exact fun e => g ((jn_inj (b := 6) (by omega) (by omega)).mp e)
    rw [if_pos q1, if_neg q2]
    refine ⟨jn n + 1 - 1, sI (sAr tx 301 (wip0 (gA tx 301) (16 * n) 16)) 302 (jn n + 1), sI (sAr tm 51 (wip0 (gA tm 51) (16 * n) 16)) 50 (jn n + 1), ?_, ?_, hN, n + 1, by omega, jn_add n 1, jn_add n 1, ?_⟩
    · rw [e5, show (16 : Int32) = jn 16 from rfl, jn_mul, show n * 16 = 16 * n by omega, x2_wipe_301_eq (by omega) (by omega), bs]
      simp only [nm, bs, o0]
      rw [show gI (sAr tx 301 (wip0 (gA tx 301) (16 * n) 16)) 302 = gI tx 302 from rfl, e5]
      rfl
    · rw [show ((0 : Int32), tm) = (jn 0, tm) from rfl, m_patrol_lp (by omega) e6, bs]
      show nm (sI (sAr tm 51 (wip0 (gA tm 51) (16 * n) 16)) 50 (gI tm 50 + 1)) _ = _
      rw [e6]
      rfl
    · intro i hi
      show wip0 (gA tx 301) (16 * n) 16 i = wip0 (gA tm 51) (16 * n) 16 i ∧ ∃ v, v ≤ 1000 ∧ wip0 (gA tm 51) (16 * n) 16 i = jn v
      unfold wip0
      by_cases q : 16 * n ≤ i ∧ i < 16 * n + 16
      · rw [if_pos q, if_pos q]
        exact ⟨rfl, 0, by omega, rfl⟩
      · rw [if_neg q, if_neg q]
        exact hc i (by omega)
theorem op_catches {tx tm : St} (h : RP tx tm) (a1 a2 a3 : Int32) : ∃ r tx' tm', x11_catches tx a1 a2 a3 = some (r, tx') ∧ m_catches tm a1 a2 a3 = some (r, tm') ∧ RP tx' tm' := by
  have h0 := h
  obtain ⟨hN, n, hn, e5, e6, hc⟩ := h
  unfold x11_catches m_catches x11_noStep m_isStep
  rw [e5, e6, x11_outside_eq, m_in_eq, bs, bs]
  by_cases g : 0 ≤ a1 ∧ a1 ≤ jn n - 1
  · rw [if_pos g, if_pos g]
    obtain ⟨p, hp0, rfl⟩ := ex_jn g.1
    have hpn : p < n := by
      have h2 := g.2
      by_cases e : n = 0
      · rw [e] at h2
        exfalso
        have := Int32.le_iff_toInt_le.mp h2
        rw [jn_int hp0] at this
        have h3 : (jn 0 - 1).toInt = -1 := by decide
        omega
      · rw [show jn n - 1 = jn (n - 1) from jn_sub (b := 1) (by omega)] at h2
        have := (jn_le hp0 (by omega)).mp h2
        omega
    simp only [if_true, o0]
    rcases io a2 0 15 with ⟨s, l1, u1, rfl⟩ | n1
    · have e1 : ∀ t, x11_outside t (jn s) 0 15 = some 0 := oT l1 u1 (by decide)
      have f1 : ∀ t, m_in t (jn s) 0 15 = some 1 := iT l1 u1 (by decide)
      simp only [e1, f1, bs, z0, o0, if_true]
      rcases io a3 0 1000 with ⟨v, l2, u2, rfl⟩ | n2
      · have e2 : ∀ t, x11_outside t (jn v) 0 1000 = some 0 := oT l2 u2 (by decide)
        have f2 : ∀ t, m_in t (jn v) 0 1000 = some 1 := iT l2 u2 (by decide)
        simp only [e2, f2, bs, z0, o0, if_true]
        unfold x3_catchOf x3_putCatch
        rw [show (16 : Int32) = jn 16 from rfl, jn_mul, jn_mul, jn_add, jn_add, show p * 16 + s = 16 * p + s by omega, hN, gd_jn (show 16 * p + s < 96 by omega) (by omega), gd_jn (show 16 * p + s < 96 by omega) (by omega), jn_cl (by omega), bs]
        have hb : 16 * p + s < 16 * n := by omega
        refine ⟨gA tm 51 (16 * p + s), sA tx 301 (jn (16 * p + s)) (jn v), sA tm 51 (jn (16 * p + s)) (jn v), ?_, ?_, hN, n, hn, e5, e6, ?_⟩
        · rw [(hc _ hb).1]
          rfl
        · simp only [nm]
          rw [gd_jn (by omega) (by omega), gd_jn (by omega) (by omega)]
        · intro i hi
          show upd (gA tx 301) (jn (16 * p + s)).toNatClampNeg (jn v) i = upd (gA tm 51) (jn (16 * p + s)).toNatClampNeg (jn v) i ∧ ∃ v1, v1 ≤ 1000 ∧ upd (gA tm 51) (jn (16 * p + s)).toNatClampNeg (jn v) i = jn v1
          rw [jn_cl (by omega)]
          by_cases e : i = 16 * p + s
          · subst e
            rw [upd_at, upd_at]
            exact ⟨rfl, v, u2, rfl⟩
          · rw [upd_ne e, upd_ne e]
            exact hc i hi
      · have e2 : ∀ t, x11_outside t a3 0 1000 = some 1 := oF n2
        have f2 : ∀ t, m_in t a3 0 1000 = some 0 := iF n2
        exact ⟨-2, tx, tm, by simp only [e2, bs, o0, if_true], by simp only [f2, bs, z0, if_true], h0⟩
    · have e1 : ∀ t, x11_outside t a2 0 15 = some 1 := oF n1
      have f1 : ∀ t, m_in t a2 0 15 = some 0 := iF n1
      exact ⟨-2, tx, tm, by simp only [e1, bs, o0, if_true], by simp only [f1, bs, z0, if_true], h0⟩
  · rw [if_neg g, if_neg g]
    exact ⟨-2, tx, tm, by rw [o0], by rw [z0], h0⟩

/-! How many of each there are. -/
theorem m_count_nets {tx tm : St} (h : RN tx tm) : ∃ r, x6_standing tx = some r ∧ lp (fun x : Int32 × Int32 => m_count_B56 tm x.1 x.2) (0, 0) = some r := by
  have key := lp_two (b := fun x : Int32 × Int32 => x6_standing_B4 tx x.1 x.2) (b' := fun x : Int32 × Int32 => m_count_B56 tm x.1 x.2) (fun x => 20 - x.2.toNatClampNeg)
    (fun x x' => ∃ i c, i ≤ 10 ∧ x = (c, jn i) ∧ x' = (c, jn i)) (fun y y' => y = y') (by
      rintro x x' ⟨i, c, hi, rfl, rfl⟩
      dsimp only
      unfold x6_standing_B4 m_count_B56
      by_cases g : i = 10
      · subst g
        exact Or.inr ⟨_, _, by rw [if_pos (by decide)], by rw [if_pos (by decide)], rfl⟩
      · have q1 : ¬ (9 : Int32) < jn i := fun e => by have := (jn_lt (a := 9) (by omega) (by omega)).mp e; omega
        have q2 : ¬ (10 : Int32) ≤ jn i := fun e => by have := (jn_le (a := 10) (by omega) (by omega)).mp e; omega
        rw [if_neg q1, if_neg q2, h.1, gd_jn (by omega) (by omega), gd_jn (by omega) (by omega), jn_cl (by omega)]
        obtain ⟨i1, i2⟩ := h.2 i (by omega)
        rw [i1]
        simp only [nm]
        have ms : 20 - (jn i + 1).toNatClampNeg < 20 - i := by
          rw [show jn i + 1 = jn (i + 1) from jn_add i 1, jn_cl (by omega)]
          omega
        rcases i2 with i2 | ⟨k, hk, i2⟩
        · rw [i2, if_pos (by decide), if_pos rfl]
          exact Or.inl ⟨_, _, rfl, rfl, ⟨i + 1, c, by omega, by rw [show jn (i + 1) = jn i + 1 from (jn_add i 1).symm], by rw [show jn (i + 1) = jn i + 1 from (jn_add i 1).symm, Int32.add_zero]⟩, ms⟩
        · have hk2 : k < 2147483648 := by
            have := Int32.toNatClampNeg_lt (gI tm 7)
            unfold nK at hk
            omega
          rw [i2, if_neg (jn_neg hk2), if_neg (jn_ne1 hk2)]
          exact Or.inl ⟨_, _, rfl, rfl, ⟨i + 1, c + 1, by omega, by rw [show jn (i + 1) = jn i + 1 from (jn_add i 1).symm], by rw [show jn (i + 1) = jn i + 1 from (jn_add i 1).symm]⟩, ms⟩)
    ((0 : Int32), (0 : Int32)) ((0 : Int32), (0 : Int32)) ⟨0, 0, by omega, rfl, rfl⟩
  obtain ⟨y, y', k1, k2, rfl⟩ := key
  exact ⟨y, by unfold x6_standing; rw [k1, bs], k2⟩
def RG0 (tx tm : St) : Prop := gI tx 402 = gI tm 45
theorem op_count {tx tm : St} (hT : RT tx tm) (hK : RK tx tm) (hN : RN tx tm) (hG : RG0 tx tm) (hP : RP tx tm) (hI : RI tx tm) (hE : RE tx tm) (a1 : Int32) : ∃ r, x11_count tx a1 = some r ∧ m_count tm a1 = some r := by
  unfold x11_count m_count
  obtain ⟨-, n0, -, t1, t2, -⟩ := hT
  obtain ⟨-, n4, -, p1, p2, -⟩ := hP
  obtain ⟨-, n5, -, i1, i2, -⟩ := hI
  obtain ⟨-, -, n6, -, v1, v2, -⟩ := hE
  obtain ⟨-, ⟨-, -, k3⟩, -⟩ := hK
  obtain ⟨r, c1, c2⟩ := m_count_nets hN
  by_cases g0 : a1 = 0
  · exact ⟨jn n0, by rw [if_pos g0, t1], by rw [if_pos g0, t2]⟩
  rw [if_neg g0, if_neg g0]
  by_cases g1 : a1 = 1
  · exact ⟨gI tm 7, by rw [if_pos g1, k3], by rw [if_pos g1]⟩
  rw [if_neg g1, if_neg g1]
  by_cases g2 : a1 = 2
  · exact ⟨r, by rw [if_pos g2, c1, bs], by rw [if_pos g2, c2, bs]⟩
  rw [if_neg g2, if_neg g2]
  by_cases g3 : a1 = 3
  · exact ⟨gI tm 45, by rw [if_pos g3, hG], by rw [if_pos g3]⟩
  rw [if_neg g3, if_neg g3]
  by_cases g4 : a1 = 4
  · exact ⟨jn n4, by rw [if_pos g4, p1], by rw [if_pos g4, p2]⟩
  rw [if_neg g4, if_neg g4]
  by_cases g5 : a1 = 5
  · exact ⟨jn n5, by rw [if_pos g5, i1], by rw [if_pos g5, i2]⟩
  rw [if_neg g5, if_neg g5]
  by_cases g6 : a1 = 6
  · exact ⟨jn n6, by rw [if_pos g6, v1], by rw [if_pos g6, v2]⟩
  rw [if_neg g6, if_neg g6]
  exact ⟨-2, rfl, rfl⟩
