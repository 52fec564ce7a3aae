/-! Watchmen: where they stand, and when a place is free. -/
def RB (tx tm : St) : Prop := gN tx 901 = 48 ∧ gN tx 902 = 4 ∧ ∀ m, m < 4 → ∃ n, n ≤ 12 ∧ gA tx 902 m = jn n ∧ gA tm 60 m = jn n ∧ ∀ i, i < n → gA tx 901 (12 * m + i) = gA tm 61 (12 * m + i) ∧ ∃ p, p ≤ 7 ∧ gA tm 61 (12 * m + i) = jn p
theorem RB.fr {S T S' T' : List Nat} {tx tm tx' tm' : St} (h : RB tx tm) (hx : fx S T tx tx') (hm : fx S' T' tm tm') (h1 : (S.elem 901 || S.elem 902) = false := by rfl) (h2 : (T.elem 901 || T.elem 902) = false := by rfl) (h3 : (S'.elem 60 || S'.elem 61) = false := by rfl) : RB tx' tm' := by
  simp only [Bool.or_eq_false_iff] at h1 h2 h3
  unfold RB
  rw [hx.2 901 h2.1, hx.2 902 h2.2, (hx.1 901 h1.1).2.2.1, (hx.1 902 h1.2).2.2.1, (hm.1 60 h3.1).2.2.1, (hm.1 61 h3.2).2.2.1]
  exact h

theorem op_walk {tx tm : St} (h : RB tx tm) (a1 a2 : Int32) : ∃ r tx' tm', x11_walk tx a1 a2 = some (r, tx') ∧ m_walk tm a1 a2 = some (r, tm') ∧ RB tx' tm' := by
  unfold x11_walk m_walk
  rcases io a1 0 3 with ⟨m, l1, u1, rfl⟩ | n1
  · have e1 : ∀ t, x11_outside t (jn m) 0 3 = some 0 := oT l1 u1 (by decide)
    have f1 : ∀ t, m_in t (jn m) 0 3 = some 1 := iT l1 u1 (by decide)
    simp only [e1, f1, bs, z0, o0, if_true]
    rcases io a2 0 7 with ⟨p, l2, u2, rfl⟩ | n2
    · have e2 : ∀ t, x11_outside t (jn p) 0 7 = some 0 := oT l2 u2 (by decide)
      have f2 : ∀ t, m_in t (jn p) 0 7 = some 1 := iT l2 u2 (by decide)
      simp only [e2, f2, bs, z0, o0, if_true]
      have h0 := h
      obtain ⟨hN, hN2, hc⟩ := h
      obtain ⟨n, hn, e5, e6, hi⟩ := hc m (by omega)
      unfold x9_addPlace
      have c1 : (jn m).toNatClampNeg = m := jn_cl (by omega)
      rw [c1, e5, e6, hN2, hN, show (12 : Int32) = jn 12 from rfl, jn_mul, jn_add, jn_mul, jn_add]
      have g4 : ∀ {α : Type} (x : Option α), gd (jn m) 4 x = x := fun x => gd_jn (by omega) (by omega)
      by_cases g : n = 12
      · subst g
        refine ⟨-4, tx, tm, ?_, ?_, h0⟩
        · rw [g4, if_neg (by decide), bs, if_pos rfl]
        · rw [g4, if_pos rfl]
      · have g1 : n < 12 := by omega
        have hr : RB (sA (sA tx 901 (jn (12 * m + n)) (jn p)) 902 (jn m) (jn n + 1)) (sA (sA tm 61 (jn (12 * m + n)) (jn p)) 60 (jn m) (jn n + 1)) := by
          refine ⟨hN, hN2, ?_⟩
          intro m1 hm1
          show ∃ n1, n1 ≤ 12 ∧ upd (gA tx 902) (jn m).toNatClampNeg (jn n + 1) m1 = jn n1 ∧ upd (gA tm 60) (jn m).toNatClampNeg (jn n + 1) m1 = jn n1 ∧ ∀ i, i < n1 → upd (gA tx 901) (jn (12 * m + n)).toNatClampNeg (jn p) (12 * m1 + i) = upd (gA tm 61) (jn (12 * m + n)).toNatClampNeg (jn p) (12 * m1 + i) ∧ ∃ p1, p1 ≤ 7 ∧ upd (gA tm 61) (jn (12 * m + n)).toNatClampNeg (jn p) (12 * m1 + i) = jn p1
          rw [c1, jn_cl (by omega)]
          obtain ⟨n1, hn1, f5, f6, fi⟩ := hc m1 hm1
          by_cases e : m1 = m
          · subst e
            refine ⟨n + 1, by omega, by rw [upd_at]; exact jn_add n 1, by rw [upd_at]; exact jn_add n 1, ?_⟩
            intro i hi1
            by_cases e2 : i = n
            · subst e2
              rw [upd_at, upd_at]
              exact ⟨rfl, p, u2, rfl⟩
            · rw [upd_ne (by omega), upd_ne (by omega)]
              exact hi i (by omega)
          · refine ⟨n1, hn1, by rw [upd_ne e]; exact f5, by rw [upd_ne e]; exact f6, ?_⟩
            intro i hi1
            rw [upd_ne (by omega), upd_ne (by omega)]
            exact fi i hi1
        refine ⟨jn n + 1, _, _, ?_, ?_, hr⟩
        · rw [g4, if_pos ((jn_lt (by omega) (by omega)).mpr g1), g4, show m * 12 + n = 12 * m + n by omega, gd_jn (by omega) (by omega)]
          simp only [nm]
          rw [show gN (sA tx 901 (jn (12 * m + n)) (jn p)) 902 = gN tx 902 from rfl, hN2, g4, g4, bs, o0]
          show gd (jn m) (gN tx 902) _ = _
          have e5a : gA (sA tx 901 (jn (12 * m + n)) (jn p)) 902 m = jn n := e5
          rw [hN2, g4, e5a]
          have v : gA (sA (sA tx 901 (jn (12 * m + n)) (jn p)) 902 (jn m) (jn n + 1)) 902 m = jn n + 1 := by rw [gA_sA, c1, upd_at]
          exact congrArg (fun v => some (v, sA (sA tx 901 (jn (12 * m + n)) (jn p)) 902 (jn m) (jn n + 1))) v
        · rw [g4, if_neg (fun e => g ((jn_inj (by omega) (by omega)).mp e)), g4, gd_jn (by omega) (by omega)]
          simp only [nm]
          have e6a : gA (sA tm 61 (jn (12 * m + n)) (jn p)) 60 m = jn n := e6
          rw [g4, g4, g4, e6a, gA_sA, c1, upd_at]
    · have e2 : ∀ t, x11_outside t a2 0 7 = some 1 := oF n2
      have f2 : ∀ t, m_in t a2 0 7 = some 0 := iF n2
      exact ⟨-2, tx, tm, by simp only [e2, bs, o0, if_true], by simp only [f2, bs, z0, if_true], h⟩
  · have e1 : ∀ t, x11_outside t a1 0 3 = some 1 := oF n1
    have f1 : ∀ t, m_in t a1 0 3 = some 0 := iF n1
    exact ⟨-2, tx, tm, by simp only [e1, bs, o0, if_true], by simp only [f1, bs, z0, if_true], h⟩

theorem op_home {tx tm : St} (h : RB tx tm) (a1 : Int32) : ∃ r tx' tm', x11_home tx a1 = some (r, tx') ∧ m_home tm a1 = some (r, tm') ∧ RB tx' tm' := by
  unfold x11_home m_home
  rcases io a1 0 3 with ⟨m, l1, u1, rfl⟩ | n1
  · have e1 : ∀ t, x11_outside t (jn m) 0 3 = some 0 := oT l1 u1 (by decide)
    have f1 : ∀ t, m_in t (jn m) 0 3 = some 1 := iT l1 u1 (by decide)
    simp only [e1, f1, bs, z0, o0, if_true]
    obtain ⟨hN, hN2, hc⟩ := h
    obtain ⟨n, hn, e5, e6, hi⟩ := hc m (by omega)
    have c1 : (jn m).toNatClampNeg = m := jn_cl (by omega)
    have g4 : ∀ {α : Type} (x : Option α), gd (jn m) 4 x = x := fun x => gd_jn (by omega) (by omega)
    refine ⟨jn n, sA tx 902 (jn m) 0, sA tm 60 (jn m) 0, ?_, ?_, hN, hN2, ?_⟩
    · rw [hN2, g4]
      simp only [nm, g4, c1, e5]
    · rw [g4, c1, e6]
      simp only [nm, g4]
    · intro m1 hm1
      show ∃ n1, n1 ≤ 12 ∧ upd (gA tx 902) (jn m).toNatClampNeg 0 m1 = jn n1 ∧ upd (gA tm 60) (jn m).toNatClampNeg 0 m1 = jn n1 ∧ ∀ i, i < n1 → gA tx 901 (12 * m1 + i) = gA tm 61 (12 * m1 + i) ∧ ∃ p1, p1 ≤ 7 ∧ gA tm 61 (12 * m1 + i) = jn p1
      rw [c1]
      by_cases e : m1 = m
      · subst e
        exact ⟨0, by omega, upd_at, upd_at, fun i hi => absurd hi (by omega)⟩
      · rw [upd_ne e, upd_ne e]
        exact hc m1 hm1
  · have e1 : ∀ t, x11_outside t a1 0 3 = some 1 := oF n1
    have f1 : ∀ t, m_in t a1 0 3 = some 0 := iF n1
    exact ⟨-2, tx, tm, by simp only [e1, bs, o0, if_true], by simp only [f1, bs, z0, if_true], h⟩

/-- how long a round is, its places, and who stands at a place -/
def wkN (tm : St) (m : Nat) : Nat := (gA tm 60 m).toNatClampNeg
def stn1 (tm : St) (p t m : Nat) : Nat := if 0 < wkN tm m ∧ gA tm 61 (12 * m + t % wkN tm m) = jn p then 1 else 0
def stn (tm : St) (p t : Nat) : Nat := stn1 tm p t 0 + stn1 tm p t 1 + stn1 tm p t 2 + stn1 tm p t 3
theorem stn1_le (tm : St) (p t m : Nat) : stn1 tm p t m ≤ 1 := by unfold stn1; split <;> omega
theorem stn_le (tm : St) (p t : Nat) : stn tm p t ≤ 4 := by
  have h0 := stn1_le tm p t 0
  have h1 := stn1_le tm p t 1
  have h2 := stn1_le tm p t 2
  have h3 := stn1_le tm p t 3
  unfold stn
  omega
theorem m_standing_1 {tx tm : St} (h : RB tx tm) {p t m c : Nat} (hp : p ≤ 7) (ht : t < 2147483648) (hm : m < 4) (hc : c ≤ 10) : m_standing_B5 tm (jn p) (jn t) (jn c) (jn m) = some (.inl (jn (c + stn1 tm p t m), jn (m + 1))) := by
  obtain ⟨n, hn, -, e6, hi⟩ := h.2.2 m hm
  unfold m_standing_B5
  have c1 : (jn m).toNatClampNeg = m := jn_cl (by omega)
  have g4 : ∀ {α : Type} (x : Option α), gd (jn m) 4 x = x := fun x => gd_jn (by omega) (by omega)
  have e : wkN tm m = n := by unfold wkN; rw [e6, jn_cl (by omega)]
  rw [if_neg (fun e => by have := (jn_le (a := 4) (by omega) (by omega)).mp e; omega), g4, c1, e6]
  unfold stn1
  rw [e]
  by_cases g : n = 0
  · subst g
    rw [if_pos (by decide), if_neg (by omega)]
    unfold m_standing_J50
    simp only [nm]
    rw [show jn c + 0 = jn (c + 0) from jn_add c 0, show jn m + 1 = jn (m + 1) from jn_add m 1]
  · have g0 : ¬ jn n ≤ 0 := fun e => by have := (jn_le (b := 0) (by omega) (by omega)).mp e; omega
    have hlt : t % n < n := Nat.mod_lt _ (by omega)
    rw [if_neg g0, g4, dv_jn (by omega) (by omega), jn_rem ht (by omega), show (12 : Int32) = jn 12 from rfl, jn_mul, jn_add, gd_jn (by omega) (by omega), jn_cl (by omega)]
    by_cases q : gA tm 61 (12 * m + t % n) = jn p
    · rw [if_pos q, if_pos ⟨by omega, q⟩]
      simp only [nm]
      rw [show jn c + 1 = jn (c + 1) from jn_add c 1, show jn m + 1 = jn (m + 1) from jn_add m 1]
    · rw [if_neg q, if_neg (fun e => q e.2)]
      unfold m_standing_J50
      simp only [nm]
      rw [show jn c + 0 = jn (c + 0) from jn_add c 0, show jn m + 1 = jn (m + 1) from jn_add m 1]
theorem m_standing_eq {tx tm : St} (h : RB tx tm) {p t : Nat} (hp : p ≤ 7) (ht : t < 2147483648) : m_standing tm (jn p) (jn t) = some (jn (stn tm p t)) := by
  have h0 := stn1_le tm p t 0
  have h1 := stn1_le tm p t 1
  have h2 := stn1_le tm p t 2
  have h3 := stn1_le tm p t 3
  unfold m_standing
  have s0 := m_standing_1 h (m := 0) (c := 0) hp ht (by omega) (by omega)
  have s1 := m_standing_1 h (m := 1) (c := 0 + stn1 tm p t 0) hp ht (by omega) (by omega)
  have s2 := m_standing_1 h (m := 2) (c := 0 + stn1 tm p t 0 + stn1 tm p t 1) hp ht (by omega) (by omega)
  have s3 := m_standing_1 h (m := 3) (c := 0 + stn1 tm p t 0 + stn1 tm p t 1 + stn1 tm p t 2) hp ht (by omega) (by omega)
  have s4 : m_standing_B5 tm (jn p) (jn t) (jn (0 + stn1 tm p t 0 + stn1 tm p t 1 + stn1 tm p t 2 + stn1 tm p t 3)) (jn (3 + 1)) = some (.inr (jn (0 + stn1 tm p t 0 + stn1 tm p t 1 + stn1 tm p t 2 + stn1 tm p t 3))) := by
    unfold m_standing_B5
    rw [if_pos (by decide)]
  have k : lp (fun x : Int32 × Int32 => m_standing_B5 tm (jn p) (jn t) x.1 x.2) (jn 0, jn 0) = some (jn (0 + stn1 tm p t 0 + stn1 tm p t 1 + stn1 tm p t 2 + stn1 tm p t 3)) := by
    rw [lp_l (b := fun x : Int32 × Int32 => m_standing_B5 tm (jn p) (jn t) x.1 x.2) s0, lp_l (b := fun x : Int32 × Int32 => m_standing_B5 tm (jn p) (jn t) x.1 x.2) s1, lp_l (b := fun x : Int32 × Int32 => m_standing_B5 tm (jn p) (jn t) x.1 x.2) s2, lp_l (b := fun x : Int32 × Int32 => m_standing_B5 tm (jn p) (jn t) x.1 x.2) s3]
    exact lp_r s4
  rw [show ((0 : Int32), (0 : Int32)) = (jn 0, jn 0) from rfl, k, bs]
  unfold stn
  congr 2
  omega
theorem jn_ne_m1 {p : Nat} (hp : p < 2147483648) : ¬ (-1 : Int32) = jn p := fun e => by
  have := congrArg Int32.toInt e
  rw [jn_int hp] at this
  have h1 : (-1 : Int32).toInt = -1 := rfl
  omega
theorem x9_menAt_1 {tx tm : St} (h : RB tx tm) {p t m c : Nat} (hp : p ≤ 7) (ht : t < 2147483648) (hm : m < 4) (hc : c ≤ 10) : x9_menAt_B5 tx (jn p) (jn t) (jn c) (jn m) = some (.inl (jn (c + stn1 tm p t m), jn (m + 1))) := by
  obtain ⟨n, hn, e5, e6, hi⟩ := h.2.2 m hm
  unfold x9_menAt_B5 x9_placeOf
  have c1 : (jn m).toNatClampNeg = m := jn_cl (by omega)
  have g4 : ∀ {α : Type} (x : Option α), gd (jn m) 4 x = x := fun x => gd_jn (by omega) (by omega)
  have e : wkN tm m = n := by unfold wkN; rw [e6, jn_cl (by omega)]
  rw [if_neg (fun e => by have := (jn_lt (a := 3) (by omega) (by omega)).mp e; omega), h.2.1, h.1, g4, c1, e5]
  unfold stn1
  rw [e]
  by_cases g : n = 0
  · subst g
    rw [if_pos (by decide), bs, if_neg (jn_ne_m1 (by omega)), if_neg (by omega)]
    simp only [nm]
    rw [show jn m + 1 = jn (m + 1) from jn_add m 1]
    rfl
  · have g0 : ¬ jn n = 0 := fun e => g ((jn_inj (b := 0) (by omega) (by omega)).mp e)
    have hlt : t % n < n := Nat.mod_lt _ (by omega)
    obtain ⟨i1, i2⟩ := hi (t % n) hlt
    rw [if_neg g0, g4, dv_jn (by omega) (by omega), jn_rem ht (by omega), show (12 : Int32) = jn 12 from rfl, jn_mul, jn_add, gd_jn (by omega) (by omega), jn_cl (by omega), bs, show m * 12 + t % n = 12 * m + t % n by omega, i1]
    by_cases q : gA tm 61 (12 * m + t % n) = jn p
    · rw [if_pos q, if_pos ⟨by omega, q⟩]
      simp only [nm]
      rw [show jn c + 1 = jn (c + 1) from jn_add c 1, show jn m + 1 = jn (m + 1) from jn_add m 1]
    · rw [if_neg q, if_neg (fun e => q e.2)]
      simp only [nm]
      rw [show jn m + 1 = jn (m + 1) from jn_add m 1]
      rfl
theorem x9_menAt_eq {tx tm : St} (h : RB tx tm) {p t : Nat} (hp : p ≤ 7) (ht : t < 2147483648) : x9_menAt tx (jn p) (jn t) = some (jn (stn tm p t)) := by
  have h0 := stn1_le tm p t 0
  have h1 := stn1_le tm p t 1
  have h2 := stn1_le tm p t 2
  have h3 := stn1_le tm p t 3
  unfold x9_menAt
  have s0 := x9_menAt_1 h (m := 0) (c := 0) hp ht (by omega) (by omega)
  have s1 := x9_menAt_1 h (m := 1) (c := 0 + stn1 tm p t 0) hp ht (by omega) (by omega)
  have s2 := x9_menAt_1 h (m := 2) (c := 0 + stn1 tm p t 0 + stn1 tm p t 1) hp ht (by omega) (by omega)
  have s3 := x9_menAt_1 h (m := 3) (c := 0 + stn1 tm p t 0 + stn1 tm p t 1 + stn1 tm p t 2) hp ht (by omega) (by omega)
  have s4 : x9_menAt_B5 tx (jn p) (jn t) (jn (0 + stn1 tm p t 0 + stn1 tm p t 1 + stn1 tm p t 2 + stn1 tm p t 3)) (jn (3 + 1)) = some (.inr (jn (0 + stn1 tm p t 0 + stn1 tm p t 1 + stn1 tm p t 2 + stn1 tm p t 3))) := by
    unfold x9_menAt_B5
    rw [if_pos (by decide)]
  have k : lp (fun x : Int32 × Int32 => x9_menAt_B5 tx (jn p) (jn t) x.1 x.2) (jn 0, jn 0) = some (jn (0 + stn1 tm p t 0 + stn1 tm p t 1 + stn1 tm p t 2 + stn1 tm p t 3)) := by
    rw [lp_l (b := fun x : Int32 × Int32 => x9_menAt_B5 tx (jn p) (jn t) x.1 x.2) s0, lp_l (b := fun x : Int32 × Int32 => x9_menAt_B5 tx (jn p) (jn t) x.1 x.2) s1, lp_l (b := fun x : Int32 × Int32 => x9_menAt_B5 tx (jn p) (jn t) x.1 x.2) s2, lp_l (b := fun x : Int32 × Int32 => x9_menAt_B5 tx (jn p) (jn t) x.1 x.2) s3]
    exact lp_r s4
  rw [show ((0 : Int32), (0 : Int32)) = (jn 0, jn 0) from rfl, k, bs]
  unfold stn
  congr 2
  omega

theorem op_stands {tx tm : St} (h : RB tx tm) (a1 a2 : Int32) : ∃ r, x11_stands tx a1 a2 = some r ∧ m_stands tm a1 a2 = some r := by
  unfold x11_stands m_stands
  rcases io a1 0 7 with ⟨p, l1, u1, rfl⟩ | n1
  · have e1 : ∀ t, x11_outside t (jn p) 0 7 = some 0 := oT l1 u1 (by decide)
    have f1 : ∀ t, m_in t (jn p) 0 7 = some 1 := iT l1 u1 (by decide)
    simp only [e1, f1, bs, z0, o0, if_true]
    rcases io a2 0 10000 with ⟨k, l2, u2, rfl⟩ | n2
    · have e2 : ∀ t, x11_outside t (jn k) 0 10000 = some 0 := oT l2 u2 (by decide)
      have f2 : ∀ t, m_in t (jn k) 0 10000 = some 1 := iT l2 u2 (by decide)
      simp only [e2, f2, bs, z0, o0, if_true]
      refine ⟨jn (stn tm p k), ?_, ?_⟩
      · rw [x9_menAt_eq h u1 (by omega), bs]
      · rw [m_standing_eq h u1 (by omega), bs]
    · have e2 : ∀ t, x11_outside t a2 0 10000 = some 1 := oF n2
      have f2 : ∀ t, m_in t a2 0 10000 = some 0 := iF n2
      exact ⟨-2, by simp only [e2, bs, o0, if_true], by simp only [f2, bs, z0, if_true]⟩
  · have e1 : ∀ t, x11_outside t a1 0 7 = some 1 := oF n1
    have f1 : ∀ t, m_in t a1 0 7 = some 0 := iF n1
    exact ⟨-2, by simp only [e1, bs, o0, if_true], by simp only [f1, bs, z0, if_true]⟩

/-- the soonest minute from which a place is free for so long, if there is one -/
def bgQ (tm : St) (p time minute : Nat) (r : Option Nat) : Prop := match r with
  | none => ∀ f, minute ≤ f → f + time ≤ 600 → ¬ ∀ j, j < time → stn tm p (f + j) = 0
  | some f => minute ≤ f ∧ f + time ≤ 600 ∧ (∀ j, j < time → stn tm p (f + j) = 0) ∧ ∀ g, minute ≤ g → g < f → ¬ ∀ j, j < time → stn tm p (g + j) = 0
theorem bgQ_uniq {tm : St} {p time minute : Nat} {r r' : Option Nat} (h : bgQ tm p time minute r) (h' : bgQ tm p time minute r') : r = r' := by
  cases r with
  | none =>
    cases r' with
    | none => rfl
    | some f => exact absurd h'.2.2.1 (h f h'.1 h'.2.1)
  | some f =>
    cases r' with
    | none => exact absurd h.2.2.1 (h' f h.1 h.2.1)
    | some g =>
      rcases Nat.lt_trichotomy f g with q | q | q
      · exact absurd h.2.2.1 (h'.2.2.2 f h.1 q)
      · rw [q]
      · exact absurd h'.2.2.1 (h.2.2.2 g h'.1 q)
theorem bg_m {tx tm : St} (hH : RH tx tm) (h : RB tx tm) {s minute p time : Nat} (hs : s < 16) (hmin : minute ≤ 600) (hp : gA tm 4 s = jn p) (hp7 : p ≤ 7) (ht : gA tm 1 s = jn time) (ht1 : 1 ≤ time) (ht2 : time ≤ 50) : ∃ r, bgQ tm p time minute r ∧ m_beginsAt tm (jn s) (jn minute) = some (match r with | none => -1 | some f => jn f) := by
  have g16 : ∀ {α : Type} (x : Option α), gd (jn s) 16 x = x := fun x => gd_jn hs (by omega)
  have c1 : (jn s).toNatClampNeg = s := jn_cl (by omega)
  have key := lp_wf (b := fun x : Int32 × Int32 => m_beginsAt_B5 tm (jn s) x.1 x.2) (fun x => 60000 - 60 * x.1.toNatClampNeg - x.2.toNatClampNeg)
    (fun x => ∃ f c, minute ≤ f ∧ f ≤ 600 ∧ c < time ∧ x = (jn f, jn c) ∧ (∀ j, j < c → stn tm p (f + j) = 0) ∧ ∀ g, minute ≤ g → g < f → ¬ ∀ j, j < time → stn tm p (g + j) = 0)
    (fun y => ∃ r, bgQ tm p time minute r ∧ y = (match r with | none => .inr () | some f => .inl (jn f))) (by
      rintro x ⟨f, c, hf, hf6, hc, rfl, h1, h2⟩
      dsimp only
      unfold m_beginsAt_B5
      simp only [g16, c1, hp, ht]
      by_cases q : 600 < f + time
      · refine Or.inr ⟨.inr (), ?_, none, ?_, rfl⟩
        · have q' : (600 : Int32) < jn (f + time) := (jn_lt (a := 600) (by omega) (by omega)).mpr q
          rw [jn_add, if_pos q']
        · intro g hg hg6
          exact h2 g hg (by omega)
      · have q' : ¬ (600 : Int32) < jn (f + time) := fun e => q ((jn_lt (a := 600) (by omega) (by omega)).mp e)
        rw [jn_add, jn_add, if_neg q', m_standing_eq h hp7 (by omega), bs]
        have hle := stn_le tm p (f + c)
        by_cases q2 : stn tm p (f + c) = 0
        · rw [q2, if_pos (by decide)]
          simp only [nm, g16]
          rw [show jn c + 1 = jn (c + 1) from jn_add c 1]
          have hfree : ∀ j, j < c + 1 → stn tm p (f + j) = 0 := by
            intro j hj
            by_cases e : j = c
            · rw [e]; exact q2
            · exact h1 j (by omega)
          by_cases q3 : c + 1 = time
          · rw [if_pos (by rw [q3])]
            exact Or.inr ⟨_, rfl, some f, ⟨hf, by omega, by rw [← q3]; exact hfree, h2⟩, rfl⟩
          · rw [if_neg (fun e => q3 ((jn_inj (by omega) (by omega)).mp e))]
            refine Or.inl ⟨_, rfl, ⟨f, c + 1, hf, hf6, by omega, rfl, hfree, h2⟩, ?_⟩
            dsimp only
            rw [jn_cl (by omega), jn_cl (by omega), jn_cl (by omega)]
            omega
        · rw [if_neg (fun e => by have := (jn_le (b := 0) (by omega) (by omega)).mp e; omega)]
          simp only [nm]
          rw [show jn c + 1 = jn (c + 1) from jn_add c 1, jn_add]
          refine Or.inl ⟨_, rfl, ⟨f + (c + 1), 0, by omega, by omega, by omega, rfl, fun j hj => absurd hj (by omega), ?_⟩, ?_⟩
          · intro g hg hg2
            by_cases e : g < f
            · exact h2 g hg e
            · intro hall
              exact q2 (by have := hall (f + c - g) (by omega); rwa [show g + (f + c - g) = f + c by omega] at this)
          · dsimp only
            rw [jn_cl (by omega), jn_cl (by omega), jn_cl (by omega), show (0 : Int32).toNatClampNeg = 0 from rfl]
            omega)
    (jn minute, jn 0) ⟨minute, 0, by omega, hmin, by omega, rfl, fun j hj => absurd hj (by omega), fun g h1 h2 => absurd h1 (by omega)⟩
  obtain ⟨y, k1, r, k2, rfl⟩ := key
  refine ⟨r, k2, ?_⟩
  unfold m_beginsAt
  rw [show (0 : Int32) = jn 0 from rfl, k1]
  cases r <;> rfl
theorem bg_x {tx tm : St} (hH : RH tx tm) (h : RB tx tm) {s minute p time : Nat} (hs : s < 16) (hmin : minute ≤ 600) (hp : gA tm 4 s = jn p) (hp7 : p ≤ 7) (ht : gA tm 1 s = jn time) (ht1 : 1 ≤ time) (ht2 : time ≤ 50) : ∃ r, bgQ tm p time minute r ∧ x9_firstBegin tx (jn s) (jn minute) = some (match r with | none => -1 | some f => jn f) := by
  have key := lp_wf (b := fun x : Int32 × Int32 => x9_firstBegin_B27 tx (jn p) (jn time) x.1 x.2) (fun x => 700 - x.2.toNatClampNeg)
    (fun x => ∃ f c, minute ≤ f ∧ f + c ≤ 600 ∧ c < time ∧ x = (jn c, jn (f + c)) ∧ (∀ j, j < c → stn tm p (f + j) = 0) ∧ ∀ g, minute ≤ g → g < f → ¬ ∀ j, j < time → stn tm p (g + j) = 0)
    (fun y => ∃ r, bgQ tm p time minute r ∧ y = (match r with | none => .inr () | some f => .inl (jn (f + (time - 1))))) (by
      rintro x ⟨f, c, hf, hf6, hc, rfl, h1, h2⟩
      dsimp only
      unfold x9_firstBegin_B27
      by_cases q : 600 ≤ f + c
      · refine Or.inr ⟨.inr (), ?_, none, ?_, rfl⟩
        · have q' : (600 : Int32) ≤ jn (f + c) := (jn_le (a := 600) (by omega) (by omega)).mpr q
          rw [if_pos q']
        · intro g hg hg6
          exact h2 g hg (by omega)
      · have q' : ¬ (600 : Int32) ≤ jn (f + c) := fun e => q ((jn_le (a := 600) (by omega) (by omega)).mp e)
        rw [if_neg q', x9_menAt_eq h hp7 (by omega), bs]
        have hle := stn_le tm p (f + c)
        unfold x9_firstBegin_J53
        by_cases q2 : stn tm p (f + c) = 0
        · rw [q2, if_pos (by decide)]
          rw [show jn c + 1 = jn (c + 1) from jn_add c 1]
          have hfree : ∀ j, j < c + 1 → stn tm p (f + j) = 0 := by
            intro j hj
            by_cases e : j = c
            · rw [e]; exact q2
            · exact h1 j (by omega)
          by_cases q3 : c + 1 = time
          · rw [if_pos (by rw [q3])]
            refine Or.inr ⟨_, rfl, some f, ⟨hf, by omega, by rw [← q3]; exact hfree, h2⟩, ?_⟩
            show Sum.inl (jn (f + c)) = Sum.inl (jn (f + (time - 1)))
            rw [show f + (time - 1) = f + c by omega]
          · rw [if_neg (fun e => q3 ((jn_inj (by omega) (by omega)).mp e))]
            simp only [nm]
            rw [show jn (f + c) + 1 = jn (f + (c + 1)) from jn_add (f + c) 1]
            refine Or.inl ⟨_, rfl, ⟨f, c + 1, hf, by omega, by omega, rfl, hfree, h2⟩, ?_⟩
            dsimp only
            rw [jn_cl (by omega), jn_cl (by omega)]
            omega
        · have q4 : ¬ jn (stn tm p (f + c)) = 0 := fun e => q2 ((jn_inj (b := 0) (by omega) (by omega)).mp e)
          rw [if_neg q4, if_neg (fun e => by have := (jn_inj (a := 0) (by omega) (by omega)).mp e; omega)]
          simp only [nm]
          rw [show jn (f + c) + 1 = jn (f + c + 1 + 0) from jn_add (f + c) 1]
          refine Or.inl ⟨_, rfl, ⟨f + c + 1, 0, by omega, by omega, by omega, rfl, fun j hj => absurd hj (by omega), ?_⟩, ?_⟩
          · intro g hg hg2
            by_cases e : g < f
            · exact h2 g hg e
            · intro hall
              exact q2 (by have := hall (f + c - g) (by omega); rwa [show g + (f + c - g) = f + c by omega] at this)
          · dsimp only
            rw [jn_cl (by omega), jn_cl (by omega)]
            omega)
    (jn 0, jn (minute + 0)) ⟨minute, 0, by omega, by omega, by omega, rfl, fun j hj => absurd hj (by omega), fun g h1 h2 => absurd h1 (by omega)⟩
  obtain ⟨y, k1, r, k2, rfl⟩ := key
  refine ⟨r, k2, ?_⟩
  unfold x9_firstBegin
  rw [show x5_get tx (jn s) 4 = _ from x5_at (w := 4) hH.1 hs (by omega), show x5_get tx (jn s) 1 = _ from x5_at (w := 1) hH.1 hs (by omega), (hH.2 s 4 hs (by omega)).1, (hH.2 s 1 hs (by omega)).1, hp, ht, bs, bs, show ((0 : Int32), jn minute) = (jn 0, jn (minute + 0)) from rfl, k1, bs]
  cases r with
  | none => rfl
  | some f =>
    show some (jn (f + (time - 1)) + 1 - jn time) = some (jn f)
    rw [show jn (f + (time - 1)) + 1 = jn (f + time) from (jn_add (f + (time - 1)) 1).trans (by congr 1; omega), jn_sub (by omega), Nat.add_sub_cancel]
theorem bg_both {tx tm : St} (hH : RH tx tm) (h : RB tx tm) {s minute : Nat} (hs : s < 16) (hmin : minute ≤ 600) : ∃ r p time, gA tm 4 s = jn p ∧ gA tm 1 s = jn time ∧ 1 ≤ time ∧ time ≤ 50 ∧ p ≤ 7 ∧ bgQ tm p time minute r ∧ x9_firstBegin tx (jn s) (jn minute) = some (match r with | none => -1 | some f => jn f) ∧ m_beginsAt tm (jn s) (jn minute) = some (match r with | none => -1 | some f => jn f) := by
  obtain ⟨-, p, -, hp7, hp⟩ := hH.2 s 4 hs (by omega)
  obtain ⟨-, time, ht1, ht2, ht⟩ := hH.2 s 1 hs (by omega)
  obtain ⟨r, q1, k1⟩ := bg_m hH h hs hmin hp hp7 ht ht1 ht2
  obtain ⟨r', q2, k2⟩ := bg_x hH h hs hmin hp hp7 ht ht1 ht2
  have e := bgQ_uniq q1 q2
  subst e
  exact ⟨r, p, time, hp, ht, ht1, ht2, hp7, q1, k2, k1⟩

theorem op_begins {tx tm : St} (hH : RH tx tm) (h : RB tx tm) (a1 a2 : Int32) : ∃ r, x11_begins tx a1 a2 = some r ∧ m_begins tm a1 a2 = some r := by
  unfold x11_begins m_begins x11_noStep m_isStep
  rcases io a1 0 15 with ⟨s, l1, u1, rfl⟩ | n1
  · have e1 : ∀ t, x11_outside t (jn s) 0 15 = some 0 := oT l1 u1 (by decide)
    have f1 : ∀ t, m_in t (jn s) 0 15 = some 1 := iT l1 u1 (by decide)
    simp only [e1, f1, bs, z0, o0, if_true]
    rcases io a2 0 600 with ⟨k, l2, u2, rfl⟩ | n2
    · have e2 : ∀ t, x11_outside t (jn k) 0 600 = some 0 := oT l2 u2 (by decide)
      have f2 : ∀ t, m_in t (jn k) 0 600 = some 1 := iT l2 u2 (by decide)
      simp only [e2, f2, bs, z0, o0, if_true]
      obtain ⟨r, p, time, -, -, -, -, -, -, k1, k2⟩ := bg_both hH h (s := s) (minute := k) (by omega) u2
      generalize (match r with | none => (-1 : Int32) | some f => jn f) = v at k1 k2
      exact ⟨v, by rw [k1, bs], by rw [k2, bs]⟩
    · have e2 : ∀ t, x11_outside t a2 0 600 = some 1 := oF n2
      have f2 : ∀ t, m_in t a2 0 600 = some 0 := iF n2
      exact ⟨-2, by simp only [e2, bs, o0, if_true], by simp only [f2, bs, z0, if_true]⟩
  · have e1 : ∀ t, x11_outside t a1 0 15 = some 1 := oF n1
    have f1 : ∀ t, m_in t a1 0 15 = some 0 := iF n1
    exact ⟨-2, by simp only [e1, bs, o0, if_true], by simp only [f1, bs, z0, if_true]⟩
