/-! Where the class's steps may end. -/
/-- for how long a place is free from a minute on, before 600 -/
def rl (tm : St) (p : Nat) : Nat → Nat
  | 0 => 0
  | k + 1 => if stn tm p (599 - k) = 0 then rl tm p k + 1 else 0
theorem rl_spec (tm : St) (p : Nat) : ∀ k, k ≤ 600 → rl tm p k ≤ k ∧ (∀ j, j < rl tm p k → stn tm p (600 - k + j) = 0) ∧ (rl tm p k < k → ¬ stn tm p (600 - k + rl tm p k) = 0)
  | 0, _ => ⟨Nat.le_refl _, fun j hj => absurd hj (by show ¬ j < 0; omega), fun h => absurd h (by show ¬ 0 < 0; omega)⟩
  | k + 1, hk => by
    obtain ⟨h1, h2, h3⟩ := rl_spec tm p k (by omega)
    have e0 : 600 - (k + 1) = 599 - k := by omega
    unfold rl
    by_cases q : stn tm p (599 - k) = 0
    · rw [if_pos q]
      refine ⟨by omega, ?_, ?_⟩
      · intro j hj
        by_cases e : j = 0
        · subst e; rw [e0]; exact q
        · have := h2 (j - 1) (by omega)
          rw [show 600 - k + (j - 1) = 600 - (k + 1) + j by omega] at this
          exact this
      · intro h
        have := h3 (by omega)
        rw [show 600 - k + rl tm p k = 600 - (k + 1) + (rl tm p k + 1) by omega] at this
        exact this
    · rw [if_neg q]
      exact ⟨by omega, fun j hj => absurd hj (by omega), fun _ => by rw [e0]; exact q⟩
theorem rl_iff (tm : St) (p : Nat) {k time : Nat} (hk : k ≤ 600) : time ≤ rl tm p k ↔ (600 - k + time ≤ 600 ∧ ∀ j, j < time → stn tm p (600 - k + j) = 0) := by
  obtain ⟨h1, h2, h3⟩ := rl_spec tm p k hk
  constructor
  · intro h
    exact ⟨by omega, fun j hj => h2 j (by omega)⟩
  · rintro ⟨a, b⟩
    by_cases q : time ≤ rl tm p k
    · exact q
    · exact absurd (b (rl tm p k) (by omega)) (h3 (by omega))
theorem Eb_step {tx tm : St} (hH : RH tx tm) (hB : RB tx tm) {s p time k : Nat} (hs : s < 16) (hp : gA tm 4 s = jn p) (hp7 : p ≤ 7) (ht : gA tm 1 s = jn time) (ht1 : 1 ≤ time) (ht2 : time ≤ 50) (hk : k + 1 ≤ 600) : Eb tm s (599 - k) = if time ≤ rl tm p (k + 1) then 599 - k + time else Eb tm s (600 - k) := by
  obtain ⟨r, p', time', a1, a2, a3, a4, a5, a6, -, a8⟩ := Eb_spec hH hB hs (show 599 - k ≤ 600 by omega)
  obtain ⟨r2, p2, time2, b1, b2, b3, b4, b5, b6, -, b8⟩ := Eb_spec hH hB hs (show 600 - k ≤ 600 by omega)
  have e1 : p' = p := by rw [hp] at a1; exact ((jn_inj (by omega) (by omega)).mp a1).symm
  have e2 : time' = time := by rw [ht] at a2; exact ((jn_inj (by omega) (by omega)).mp a2).symm
  have e3 : p2 = p := by rw [hp] at b1; exact ((jn_inj (by omega) (by omega)).mp b1).symm
  have e4 : time2 = time := by rw [ht] at b2; exact ((jn_inj (by omega) (by omega)).mp b2).symm
  subst e1 e2 e3 e4
  have ri := rl_iff tm p2 (k := k + 1) (time := time2) hk
  rw [show 600 - (k + 1) = 599 - k by omega] at ri
  by_cases q : time2 ≤ rl tm p2 (k + 1)
  · rw [if_pos q, a8]
    obtain ⟨c1, c2⟩ := ri.mp q
    cases r with
    | none => exact absurd c2 (a6 (599 - k) (Nat.le_refl _) c1)
    | some f =>
      obtain ⟨d1, d2, d3, d4⟩ := a6
      dsimp only
      by_cases e : f = 599 - k
      · rw [e]
      · exact absurd c2 (d4 (599 - k) (Nat.le_refl _) (by omega))
  · rw [if_neg q, a8, b8]
    have nq : ¬ (599 - k + time2 ≤ 600 ∧ ∀ j, j < time2 → stn tm p2 (599 - k + j) = 0) := fun e => q (ri.mpr e)
    have hr : bgQ tm p2 time2 (600 - k) r := by
      cases r with
      | none => exact fun f h1 h2 => a6 f (by omega) h2
      | some f =>
        obtain ⟨d1, d2, d3, d4⟩ := a6
        have hf : ¬ f = 599 - k := fun e => by subst e; exact nq ⟨d2, d3⟩
        exact ⟨by omega, d2, d3, fun g h1 h2 => d4 g (by omega) h2⟩
    rw [bgQ_uniq hr b6]
theorem Eb_600 {tx tm : St} (hH : RH tx tm) (hB : RB tx tm) {s : Nat} (hs : s < 16) : Eb tm s 600 = 601 := by
  obtain ⟨r, p, time, -, -, a3, -, -, a6, -, a8⟩ := Eb_spec hH hB hs (Nat.le_refl 600)
  rw [a8]
  cases r with
  | none => rfl
  | some f => obtain ⟨d1, d2, -⟩ := a6; omega
theorem x_findEnds {tx tm : St} (hH : RH tx tm) (hB : RB tx tm) {u : St} {c s minute n : Nat} (hm : minute ≤ 600) (hs : s < 16) (hc : c < n) (hn7 : n ≤ 7) (h500 : gA u 500 = gA tx 500) (n500 : gN u 500 = gN tx 500) (h904 : gA u 904 c = jn s) (n904 : gN u 904 = 7) (n903 : gN u 903 = 600) (n906 : 601 * n ≤ gN u 906) (m906 : gN u 906 ≤ 100000) (hw : ∀ a, minute ≤ a → a < 600 → gA u 903 a = jn (wmask tm a 4)) : ∃ u', x9_findEnds u (jn c) (jn minute) = some u' ∧ fx [906] [] u u' ∧ (∀ a, minute ≤ a → a ≤ 600 → gA u' 906 (601 * c + a) = jn (Eb tm s a)) ∧ ∀ j, ¬ (601 * c ≤ j ∧ j < 601 * c + 601) → gA u' 906 j = gA u 906 j := by
  obtain ⟨-, p, -, hp7, hp⟩ := hH.2 s 4 hs (by omega)
  obtain ⟨-, time, ht1, ht2, ht⟩ := hH.2 s 1 hs (by omega)
  have hp7 : p ≤ 7 := hp7
  have ht1 : 1 ≤ time := ht1
  have ht2 : time ≤ 50 := ht2
  have n80 : gN u 500 = 80 := n500.trans hH.1
  have x4 : x5_get u (jn s) 4 = some (jn p) := by
    rw [show x5_get u (jn s) 4 = _ from x5_at (w := 4) n80 hs (by omega), h500, (hH.2 s 4 hs (by omega)).1, hp]
  have x1 : x5_get u (jn s) 1 = some (jn time) := by
    rw [show x5_get u (jn s) 1 = _ from x5_at (w := 1) n80 hs (by omega), h500, (hH.2 s 1 hs (by omega)).1, ht]
  have g7 : ∀ {α : Type} (x : Option α), gd (jn c) 7 x = x := fun x => gd_jn (by omega) (by omega)
  have em1 : ∀ k, k < 600 → jn (k + 1) + -1 = jn k := fun k hk => by
    rw [show jn (k + 1) = jn k + 1 from (jn_add k 1).symm, Int32.add_assoc]
    exact Int32.add_zero _
  -- the loop, from minute 599 - k down
  have loop : ∀ m k (v : St), k + m = 600 - minute → fx [906] [] u v → (∀ a, 600 - k ≤ a → a ≤ 600 → gA v 906 (601 * c + a) = jn (Eb tm s a)) → (∀ j, ¬ (601 * c ≤ j ∧ j < 601 * c + 601) → gA v 906 j = gA u 906 j) → ∃ u', lp (fun x : Int32 × Int32 × St => x9_findEnds_B56 (jn c) (jn minute) (jn p) (jn time) x.1 x.2.1 x.2.2) (jn (rl tm p k), jn (600 - k) + -1, v) = some u' ∧ fx [906] [] u u' ∧ (∀ a, minute ≤ a → a ≤ 600 → gA u' 906 (601 * c + a) = jn (Eb tm s a)) ∧ ∀ j, ¬ (601 * c ≤ j ∧ j < 601 * c + 601) → gA u' 906 j = gA u 906 j := by
    intro m
    induction m with
    | zero =>
      intro k v hk hf h1 h2
      refine ⟨v, lp_r ?_, hf, fun a ha => h1 a (by omega), h2⟩
      dsimp only
      unfold x9_findEnds_B56
      have e : 600 - k = minute := by omega
      rw [e, if_pos]
      by_cases z : minute = 0
      · subst z; decide
      · rw [show minute = minute - 1 + 1 by omega, em1 _ (by omega)]
        exact (jn_lt (by omega) (by omega)).mpr (by omega)
    | succ m ih =>
      intro k v hk hf h1 h2
      have hk6 : k + 1 ≤ 600 := by omega
      have ew : jn (600 - k) + -1 = jn (599 - k) := by
        rw [show 600 - k = 599 - k + 1 by omega]
        exact em1 _ (by omega)
      have nlt : ¬ jn (599 - k) < jn minute := fun e => by have := (jn_lt (by omega) (by omega)).mp e; omega
      have hwm := hw (599 - k) (by omega) (by omega)
      have hwlt : wmask tm (599 - k) 4 < 2 ^ 8 := orr_lt fun i hi => wbit_lt hB hi
      have e903 : gA v 903 = gA u 903 := (hf.1 903 rfl).2.2.1
      have n6 : gN v 906 = gN u 906 := hf.2 906 rfl
      have h600 : 600 - (k + 1) = 599 - k := by omega
      -- the counter
      have bd : (fun x : Int32 × Int32 × St => x9_findEnds_B56 (jn c) (jn minute) (jn p) (jn time) x.1 x.2.1 x.2.2) (jn (rl tm p k), jn (600 - k) + -1, v) = x9_findEnds_J84 v (jn c) (jn minute) (jn p) (jn time) (jn (599 - k)) (jn (rl tm p (k + 1))) := by
        dsimp only
        unfold x9_findEnds_B56
        rw [ew, if_neg nlt, (hf.2 903 rfl).trans n903, gd_jn (by omega) (by omega), jn_cl (by omega), e903, hwm]
        have wb := wmask_bit hB (t := 599 - k) (p := p) hp7
        by_cases q : stn tm p (599 - k) = 0
        · have hb : (wmask tm (599 - k) 4).testBit p = false := by
            cases e : (wmask tm (599 - k) 4).testBit p with
            | false => rfl
            | true => exact absurd q (wb.mp e)
          rw [if_pos ((bit_iff0 (by omega) (by omega)).mpr hb)]
          have ec : rl tm p (k + 1) = rl tm p k + 1 := if_pos q
          rw [ec, jn_s]
        · have hb : (wmask tm (599 - k) 4).testBit p = true := wb.mpr q
          rw [if_neg (fun e => by rw [(bit_iff0 (by omega) (by omega)).mp e] at hb; cases hb)]
          have ec : rl tm p (k + 1) = 0 := if_neg q
          rw [ec, show (0 : Int32) = jn 0 from rfl]
      have es := Eb_step hH hB hs hp hp7 ht ht1 ht2 hk6
      have hj : x9_findEnds_J84 v (jn c) (jn minute) (jn p) (jn time) (jn (599 - k)) (jn (rl tm p (k + 1))) = some (.inl (jn (rl tm p (k + 1)), jn (599 - k) + -1, sA v 906 (jn (601 * c + (599 - k))) (jn (Eb tm s (599 - k))))) := by
        unfold x9_findEnds_J84 x9_findEnds_J128
        obtain ⟨r1, -, -⟩ := rl_spec tm p (k + 1) hk6
        rw [show (601 : Int32) = jn 601 from rfl, jn_mul, jn_add, show c * 601 + (599 - k) = 601 * c + (599 - k) by omega]
        by_cases q : time ≤ rl tm p (k + 1)
        · rw [if_neg (fun e => by have := (jn_lt (by omega) (by omega)).mp e; omega), n6, gd_jn (by omega) (by omega), jn_add, es, if_pos q]
          simp only [nm]
        · rw [if_pos ((jn_lt (by omega) (by omega)).mpr (by omega)), show jn (601 * c + (599 - k)) + 1 = jn (601 * c + (600 - k)) from (jn_add _ 1).trans (by congr 1; omega), n6, gd_jn (by omega) (by omega), gd_jn (by omega) (by omega), jn_cl (by omega), h1 (600 - k) (by omega) (by omega), es, if_neg q]
          simp only [nm]
      rw [hj] at bd
      rw [lp_l (b := fun x : Int32 × Int32 × St => x9_findEnds_B56 (jn c) (jn minute) (jn p) (jn time) x.1 x.2.1 x.2.2) bd]
      have := ih (k + 1) (sA v 906 (jn (601 * c + (599 - k))) (jn (Eb tm s (599 - k)))) (by omega) (hf.trans (fx_sA rfl)) (fun a ha1 ha2 => by
        rw [gA_sA, jn_cl (by omega)]
        by_cases e : a = 599 - k
        · subst e; rw [upd_at]
        · rw [upd_ne (by omega)]; exact h1 a (by omega) ha2) (fun j hj => by
        rw [gA_sA, jn_cl (by omega), upd_ne (by omega)]
        exact h2 j hj)
      rw [h600] at this
      exact this
  have st := loop (600 - minute) 0 (sA u 906 (jn (601 * c + 600)) 601) (by omega) (fx_sA rfl) (fun a ha1 ha2 => by
      have : a = 600 := by omega
      subst this
      rw [gA_sA, jn_cl (by omega), upd_at, Eb_600 hH hB hs]
      rfl) (fun j hj => by rw [gA_sA, jn_cl (by omega), upd_ne (by omega)])
  obtain ⟨u', k, k1, k2, k3⟩ := st
  refine ⟨u', ?_, k1, k2, k3⟩
  unfold x9_findEnds
  rw [n904, g7, jn_cl (by omega), h904, x4, bs, g7, x1, bs, show (601 : Int32) = jn 601 from rfl, show (600 : Int32) = jn 600 from rfl, jn_mul, jn_add, show c * 601 + 600 = 601 * c + 600 by omega, gd_jn (by omega) (by omega)]
  simp only [nm]
  rw [show ((0 : Int32), (599 : Int32), sA u 906 (jn (601 * c + 600)) (jn 601)) = (jn (rl tm p 0), jn (600 - 0) + -1, sA u 906 (jn (601 * c + 600)) 601) from rfl, k, bs]
/-- the class's tables for a set of steps -/
def xtab (tm u : St) (set minute : Nat) : Prop := gI u 905 = jn (csL set 16).length ∧ gN u 904 = 7 ∧ gN u 907 = 128 ∧ 601 * (csL set 16).length ≤ gN u 906 ∧ gN u 906 ≤ 8414 ∧ ∀ c, c < (csL set 16).length → gA u 904 c = jn ((csL set 16).getD c 0) ∧ ∀ a, minute ≤ a → a ≤ 600 → gA u 906 (601 * c + a) = jn (Eb tm ((csL set 16).getD c 0) a)
theorem x_prepare {tx tm : St} (hH : RH tx tm) (hB : RB tx tm) (hW : RW tx) {minute set : Nat} (hm : minute ≤ 600) (hset : set < 65536) (h7 : (csL set 16).length ≤ 7) : ∃ tx', x9_prepare tx (jn set) (jn minute) = some tx' ∧ xtab tm tx' set minute := by
  obtain ⟨w3, w4, w7, w6⟩ := hW
  obtain ⟨t1, k, kf, k5, k4⟩ := x_chosen w4 (jn minute) hset h7
  unfold x9_prepare
  simp only [nm]
  rw [show ((0 : Int32), sI tx 905 0) = (jn 0, sI tx 905 0) from rfl, k, bs, k5, show (601 : Int32) = jn 601 from rfl, jn_mul, show (csL set 16).length * 601 = 601 * (csL set 16).length by omega]
  have n6 : gN t1 906 = gN tx 906 := kf.2 906 rfl
  obtain ⟨t2, g, g1, g2, g3⟩ := grw_eq (t := t1) (k := 906) (N := 601 * (csL set 16).length) (by omega) (by omega) (by omega) (fun t23 : St => x9_prepare_J76 t23 (jn minute))
  rw [g]
  have f2 := g3 [906] [906, 9000, 9001] rfl rfl rfl rfl
  -- from a state that has been looked round
  have fin : ∀ t3 : St, fx [903, 906] [906, 9000, 9001] t1 t3 → 601 * (csL set 16).length ≤ gN t3 906 → gN t3 906 ≤ 8414 → ((csL set 16).length = 0 ∨ ∀ a, minute ≤ a → a < 600 → gA t3 903 a = jn (wmask tm a 4)) → ∃ tx', x9_prepare_J88 t3 (jn minute) = some tx' ∧ xtab tm tx' set minute := by
    intro t3 f3 l3 u3 hw
    have h := lp_cnt (b := fun x : Int32 × St => x9_prepare_B90 (jn minute) x.1 x.2) (fun i s => (jn i, s)) (csL set 16).length
      (fun m s => fx [906] [] t3 s ∧ ∀ c, c < m → ∀ a, minute ≤ a → a ≤ 600 → gA s 906 (601 * c + a) = jn (Eb tm ((csL set 16).getD c 0) a))
      (fun s => fx [906] [] t3 s ∧ ∀ c, c < (csL set 16).length → ∀ a, minute ≤ a → a ≤ 600 → gA s 906 (601 * c + a) = jn (Eb tm ((csL set 16).getD c 0) a)) (by
        rintro c s hc ⟨hf, h1⟩
        dsimp only
        unfold x9_prepare_B90
        have e5 : gI s 905 = jn (csL set 16).length := (hf.1 905 rfl).1.trans ((f3.1 905 rfl).1.trans k5)
        rw [e5, if_neg (nle hc (by omega))]
        rcases hw with hw | hw
        · omega
        obtain ⟨u', j, j1, j2, j3⟩ := x_findEnds hH hB (u := s) (c := c) (s := (csL set 16).getD c 0) (n := (csL set 16).length) hm (csL_getlt set c) hc h7 ((hf.1 500 rfl).2.2.1.trans ((f3.1 500 rfl).2.2.1.trans (kf.1 500 rfl).2.2.1)) ((hf.2 500 rfl).trans ((f3.2 500 rfl).trans (kf.2 500 rfl))) (by rw [(hf.1 904 rfl).2.2.1, (f3.1 904 rfl).2.2.1]; exact k4 c hc) ((hf.2 904 rfl).trans ((f3.2 904 rfl).trans ((kf.2 904 rfl).trans w4))) ((hf.2 903 rfl).trans ((f3.2 903 rfl).trans ((kf.2 903 rfl).trans w3))) (by rw [hf.2 906 rfl]; exact l3) (by rw [hf.2 906 rfl]; omega) (fun a h1 h2 => by rw [(hf.1 903 rfl).2.2.1]; exact hw a h1 h2)
        rw [j, bs]
        simp only [nm, jn_s]
        refine ⟨u', rfl, hf.trans j1, ?_⟩
        intro c1 hc1 a ha1 ha2
        by_cases e : c1 = c
        · subst e; exact j2 a ha1 ha2
        · rw [j3 _ (by omega)]; exact h1 c1 (by omega) a ha1 ha2) (by
        rintro s ⟨hf, hs⟩
        have e5 : gI s 905 = jn (csL set 16).length := (hf.1 905 rfl).1.trans ((f3.1 905 rfl).1.trans k5)
        exact ⟨s, by dsimp only; unfold x9_prepare_B90; rw [e5, if_pos (lee (by omega))], hf, hs⟩) 0 t3 (by omega) ⟨fx.rfl, fun c hc => absurd hc (by omega)⟩
    obtain ⟨s, j, j1, j2⟩ := h
    refine ⟨s, by unfold x9_prepare_J88; rw [show (0 : Int32) = jn 0 from rfl, j, bs], ?_, ?_, ?_, ?_, ?_, ?_⟩
    · exact (j1.1 905 rfl).1.trans ((f3.1 905 rfl).1.trans k5)
    · exact (j1.2 904 rfl).trans ((f3.2 904 rfl).trans ((kf.2 904 rfl).trans w4))
    · exact (j1.2 907 rfl).trans ((f3.2 907 rfl).trans ((kf.2 907 rfl).trans w7))
    · rw [j1.2 906 rfl]; exact l3
    · rw [j1.2 906 rfl]; exact u3
    · intro c hc
      refine ⟨?_, fun a h1 h2 => j2 c hc a h1 h2⟩
      rw [(j1.1 904 rfl).2.2.1, (f3.1 904 rfl).2.2.1]
      exact k4 c hc
  unfold x9_prepare_J76
  have e5 : gI t2 905 = jn (csL set 16).length := (f2.1 905 rfl).1.trans k5
  have u6 : gN t2 906 ≤ 8414 := by rcases g2 with g2 | g2 <;> omega
  rw [e5]
  by_cases q : (csL set 16).length = 0
  · rw [q, if_pos (by decide)]
    exact fin t2 (f2.wk rfl rfl) g1 u6 (Or.inl q)
  · have q1 : ¬ jn (csL set 16).length ≤ 0 := fun e => by have := (jn_le (b := 0) (by omega) (by omega)).mp e; omega
    rw [if_neg q1]
    obtain ⟨t3, j, j1, j2⟩ := x_look hB (u := t2) ((f2.1 902 rfl).2.2.1.trans (kf.1 902 rfl).2.2.1) ((f2.1 901 rfl).2.2.1.trans (kf.1 901 rfl).2.2.1) ((f2.2 902 rfl).trans (kf.2 902 rfl)) ((f2.2 901 rfl).trans (kf.2 901 rfl)) ((f2.2 903 rfl).trans ((kf.2 903 rfl).trans w3)) hm
    rw [j, bs]
    exact fin t3 ((f2.wk rfl rfl).trans (j1.wk rfl rfl)) (by rw [j1.2 906 rfl]; exact g1) (by rw [j1.2 906 rfl]; exact u6) (Or.inr j2)
