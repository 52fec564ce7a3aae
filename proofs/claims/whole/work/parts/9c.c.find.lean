/-! The reference's list of ways. -/
def Need (tm : St) (K j : Nat) : Prop := ∀ S : Nat → Prop, S K → (∀ u i, S u → kS tm u ≠ 0 → i < kN tm u → S (kP tm u i)) → S j
theorem Need.top {tm : St} {K : Nat} : Need tm K K := fun _ h _ => h
theorem Need.part {tm : St} {K u i : Nat} (h : Need tm K u) (q : kS tm u ≠ 0) (hi : i < kN tm u) : Need tm K (kP tm u i) := fun S h1 h2 => h2 u i (h S h1 h2) q hi
theorem Need.ind {tm : St} {K j : Nat} (h : Need tm K j) (P : Nat → Prop) (h1 : P K) (h2 : ∀ u i, Need tm K u → P u → kS tm u ≠ 0 → i < kN tm u → P (kP tm u i)) : P j := (h (fun j => Need tm K j ∧ P j) ⟨Need.top, h1⟩ (fun u i hu q hi => ⟨hu.1.part q hi, h2 u i hu.1 hu.2 q hi⟩)).2
/-- some knot of the net has too many least sets -/
def Over (tm : St) (K : Nat) : Prop := ∃ i, Need tm K i ∧ 200 < cnw tm i
theorem Need.le {tx tm : St} (hK : RK tx tm) {K : Nat} (hk : K < nK tm) {j : Nat} (h : Need tm K j) : j ≤ K := by
  exact h.ind (fun j => j ≤ K) (Nat.le_refl _) fun u i h1 ih h2 h3 => Nat.le_trans (Nat.le_of_lt (kP_lt hK (by omega) h2 h3)) ih
theorem RR.fr {S T S' T' : List Nat} {tx tm tx' tm' : St} (h : RR tx tm) (hm : fx S' T' tm tm') (h3 : (S'.elem 7 || S'.elem 8 || S'.elem 9 || S'.elem 10 || S'.elem 11 || S'.elem 12 || S'.elem 14 || S'.elem 17) = false := by rfl) : RR tx' tm' := by
  simp only [Bool.or_eq_false_iff] at h3
  obtain ⟨⟨⟨⟨⟨⟨⟨a7, a8⟩, a9⟩, a10⟩, a11⟩, a12⟩, a14⟩, a17⟩ := h3
  intro k w j hk hw hj
  rw [nK_fr hm a7] at hk
  rw [(hm.1 17 a17).2.2.2, rch_to (hm.1 8 a8).2.2.1 (hm.1 9 a9).2.2.1 (hm.1 10 a10).2.2.1 (hm.1 11 a11).2.2.1 (hm.1 12 a12).2.2.1 (hm.1 14 a14).2.2.1]
  exact h k w j hk hw hj
/-- down to the place before the first -/
def dn (m : Nat) : Int32 := if m = 0 then -1 else jn (m - 1)
theorem dn_pred (m : Nat) : jn m + (-1) = dn m := by
  cases m with
  | zero => decide
  | succ m =>
    show jn (m + 1) + (-1) = jn m
    rw [← jn_s, Int32.add_assoc]
    exact Int32.add_zero _
theorem mark_eq {tx tm s : St} (hK : RK tx tm) {K u : Nat} (hu : u < nK tm) (hf : fx [18, 28, 29] [] tm s) : ∃ s', lp (fun y : Int32 × St => m_findWays_B59 (jn K) (jn u) y.1 y.2) (0, s) = some s' ∧ fx [29] [] s s' ∧ ∀ j, gA s' 29 j = if ∃ i, i < kN tm u ∧ kP tm u i = j then 1 else gA s 29 j := by
  have h250 := nK_lt hK
  have hP := hK.2.2.1.2.1
  obtain ⟨s1, s2, s3, d1, d2, d3, h1, h2, h3, m1, m2, q1, q2⟩ := hK.2.2.2 u hu
  have g4 : ∀ {α : Type} (x : Option α), gd (jn u) 400 x = x := fun x => gd_jn (by omega) (by omega)
  have ck : (jn u).toNatClampNeg = u := jn_cl (by omega)
  refine lp_cnt (b := fun y : Int32 × St => m_findWays_B59 (jn K) (jn u) y.1 y.2) (fun i s => (jn i, s)) (kN tm u)
    (fun n z => fx [29] [] s z ∧ ∀ j, gA z 29 j = if ∃ i, i < n ∧ kP tm u i = j then 1 else gA s 29 j)
    (fun z => fx [29] [] s z ∧ ∀ j, gA z 29 j = if ∃ i, i < kN tm u ∧ kP tm u i = j then 1 else gA s 29 j) ?_ ?_ 0 s (by omega) ⟨fx.rfl, fun j => by rw [if_neg (by rintro ⟨i, h, -⟩; omega)]⟩
  · rintro i z hi ⟨f1, v1⟩
    have q : kS tm u ≠ 0 := fun e => by have := (q1 e).2.2.2.1; omega
    obtain ⟨e1, e2, e3, e4, e5, e7, e8, e6, -⟩ := q2 q
    obtain ⟨w1, w2, w3⟩ := e6 i hi
    have ft : fx [18, 28, 29] [] tm z := hf.trans (f1.wk rfl rfl)
    refine ⟨sA z 29 (jn (kP tm u i)) (vp_nar .boolean 1), ?_, f1.trans (fx_sA rfl), fun j => ?_⟩
    · dsimp only
      unfold m_findWays_B59
      rw [g4, ck, (ft.1 12 rfl).2.2.1, m1, if_neg (nle hi (by omega)), g4, (ft.1 11 rfl).2.2.1, e3, jn_add, gd_jn (by omega) (by omega), jn_cl (by omega), (ft.1 14 rfl).2.2.1, w2, gd_jn (by omega) (by omega)]
      simp only [nm, jn_s]
    · rw [gA_sA, jn_cl (by omega)]
      by_cases e : j = kP tm u i
      · subst e
        rw [upd_at, if_pos ⟨i, by omega, rfl⟩]
        rfl
      · rw [upd_ne e, v1]
        by_cases z2 : ∃ i, i < kN tm u ∧ i < i ∧ kP tm u i = j
        · obtain ⟨i', -, h, -⟩ := z2
          omega
        · by_cases z3 : ∃ x, x < i ∧ kP tm u x = j
          · rw [if_pos z3]
            obtain ⟨x, x1, x2⟩ := z3
            rw [if_pos ⟨x, by omega, x2⟩]
          · rw [if_neg z3, if_neg]
            rintro ⟨x, x1, x2⟩
            by_cases y : x = i
            · subst y; exact e x2.symm
            · exact z3 ⟨x, by omega, x2⟩
  · rintro z ⟨f1, v1⟩
    refine ⟨z, ?_, f1, v1⟩
    have ft : fx [18, 28, 29] [] tm z := hf.trans (f1.wk rfl rfl)
    dsimp only
    unfold m_findWays_B59
    rw [g4, ck, (ft.1 12 rfl).2.2.1, m1, if_pos (lee (by omega))]
/-- marked: needed; and the parts of what is marked above m are marked -/
def Mk (tm : St) (K m : Nat) (f : Nat → Int32) : Prop := f K = 1 ∧ (∀ j, j ≤ K → f j = 0 ∨ (f j = 1 ∧ Need tm K j)) ∧ ∀ u, m ≤ u → u ≤ K → f u = 1 → cnw tm u ≤ 200 ∧ ∀ i, kS tm u ≠ 0 → i < kN tm u → f (kP tm u i) = 1
theorem Mk.all {tx tm : St} (hK : RK tx tm) {K : Nat} (hk : K < nK tm) {f : Nat → Int32} (h : Mk tm K 0 f) {j : Nat} (n : Need tm K j) : f j = 1 := by
  exact n.ind (fun j => f j = 1) h.1 fun u i n1 ih h2 h3 => (h.2.2 _ (Nat.zero_le _) (n1.le hK hk) ih).2 _ h2 h3
theorem marks_eq {tx tm : St} (hK : RK tx tm) (hR : RR tx tm) {K : Nat} (hk : K < nK tm) : ∀ m s, m ≤ K + 1 → fx [18, 28, 29] [] tm s → RC s → (m ≤ K → gA s 18 K = jn (cnw tm K)) → Mk tm K m (gA s 29) → (∃ s', lp (fun y : Int32 × St => m_findWays_B31 (jn K) y.1 y.2) (dn m, s) = some (.inl s') ∧ fx [18, 28, 29] [] tm s' ∧ RC s' ∧ Over tm K) ∨ ∃ s', lp (fun y : Int32 × St => m_findWays_B31 (jn K) y.1 y.2) (dn m, s) = some (.inr s') ∧ fx [18, 28, 29] [] tm s' ∧ RC s' ∧ gA s' 18 K = jn (cnw tm K) ∧ ¬ Over tm K := by
  have h250 := nK_lt hK
  intro m
  induction m with
  | zero =>
    intro s _ hf hC h18 hM
    refine Or.inr ⟨s, lp_r (by dsimp only; unfold m_findWays_B31; rw [if_pos (show dn 0 < 0 by decide)]), hf, hC, h18 (Nat.zero_le _), ?_⟩
    rintro ⟨i, h1, h2⟩
    have := (hM.2.2 i (Nat.zero_le _) (h1.le hK hk) (hM.all hK hk h1)).1
    omega
  | succ m ih =>
    intro s hm hf hC h18 hM
    have dm : dn (m + 1) = jn m := rfl
    have g4 : ∀ {α : Type} (x : Option α), gd (jn m) 400 x = x := fun x => gd_jn (by omega) (by omega)
    have ck : (jn m).toNatClampNeg = m := jn_cl (by omega)
    rw [dm]
    rcases hM.2.1 m (by omega) with e | ⟨e, nd⟩
    · rw [lp_l (x := (jn m, s)) (x' := (dn m, s)) (by
        dsimp only
        unfold m_findWays_B31
        rw [if_neg (jn_neg (by omega)), g4, ck, if_pos e]
        simp only [nm, dn_pred])]
      refine ih s (by omega) hf hC (fun h => h18 (by
        by_cases z : m = K
        · subst z; rw [hM.1] at e; exact absurd e (by decide)
        · omega)) ⟨hM.1, hM.2.1, fun u h1 h2 h3 => hM.2.2 u ?_ h2 h3⟩
      by_cases z : u = m
      · subst z; rw [e] at h3; exact absurd h3 (by decide)
      · omega
    · obtain ⟨s2, k1, f1, hC2, v18⟩ := countWays_eq (tx := tx) (tm := s) (hK.fr (fx.rfl (S := []) (T := [])) hf) (RR.fr (S := []) (T := []) hR hf) hC (k := m) (by rw [nK_fr hf]; omega)
      have ec : cnw s m = cnw tm m := cnw_to (rch_fx hf) m
      have cl := cnw_le tm m
      rw [ec] at k1
      have f2 : fx [18, 28, 29] [] tm s2 := hf.trans (f1.wk rfl rfl)
      by_cases c : cnw tm m ≤ 200
      · obtain ⟨s3, k2, f3, v3⟩ := mark_eq hK (K := K) (u := m) (by omega) f2
        rw [lp_l (x := (jn m, s)) (x' := (dn m, s3)) (by
          dsimp only
          unfold m_findWays_B31
          rw [if_neg (jn_neg (by omega)), g4, ck, if_neg (by rw [e]; decide), k1, bs]
          dsimp only
          rw [if_pos (jle (x := 200) 200 rfl c (by omega)), k2, bs]
          simp only [nm, dn_pred])]
        have e29 : gA s2 29 = gA s 29 := (f1.1 29 rfl).2.2.1
        rw [e29] at v3
        refine ih s3 (by omega) (f2.trans (f3.wk rfl rfl)) (fun k hk2 => ?_) (fun _ => ?_) ⟨?_, fun j hj => ?_, fun u h1 h2 h3 => ?_⟩
        · rw [nK_fr f3] at hk2
          rw [(f3.1 18 rfl).2.2.1, cnw_to (rch_fx f3)]
          exact hC2 k hk2
        · rw [(f3.1 18 rfl).2.2.1, v18]
          by_cases z : K = m
          · rw [if_pos z, ec, z]
          · rw [if_neg z]; exact h18 (by omega)
        · rw [v3]; split
          · rfl
          · exact hM.1
        · rw [v3]
          by_cases z : ∃ i, i < kN tm m ∧ kP tm m i = j
          · rw [if_pos z]
            obtain ⟨i, i1, rfl⟩ := z
            have q : kS tm m ≠ 0 := fun e => by have := ((hK.2.2.2 m (by omega)).2.2.2.2.2.2.2.2.2.2.2.1 e).2.2.2.1; omega
            exact Or.inr ⟨rfl, nd.part q i1⟩
          · rw [if_neg z]
            exact hM.2.1 j hj
        · by_cases z : u = m
          · subst z
            refine ⟨c, fun i h4 h5 => ?_⟩
            rw [v3, if_pos ⟨i, h5, rfl⟩]
          · rw [v3] at h3
            have n1 : ¬ ∃ i, i < kN tm m ∧ kP tm m i = u := by
              rintro ⟨i, i1, i2⟩
              have q : kS tm m ≠ 0 := fun e => by have := ((hK.2.2.2 m (by omega)).2.2.2.2.2.2.2.2.2.2.2.1 e).2.2.2.1; omega
              have := kP_lt hK (show m < nK tm by omega) q i1
              omega
            rw [if_neg n1] at h3
            obtain ⟨y1, y2⟩ := hM.2.2 u (by omega) h2 h3
            refine ⟨y1, fun i h4 h5 => ?_⟩
            rw [v3]
            split
            · rfl
            · exact y2 i h4 h5
      · refine Or.inl ⟨s2, lp_r ?_, f2, hC2, m, nd, by omega⟩
        dsimp only
        unfold m_findWays_B31
        rw [if_neg (jn_neg (by omega)), g4, ck, if_neg (by rw [e]; decide), k1, bs]
        dsimp only
        rw [if_neg (jnle (x := 200) 200 rfl (by omega) (by omega))]
/-- what of a list stands in a row -/
def LsIs (t : St) (l : List Nat) : Prop := gI t 31 = jn l.length ∧ l.length ≤ 200 ∧ ∀ i, i < l.length → gA t 30 i = jn (l.getD i 0)
theorem LsIs.add {t : St} {l : List Nat} (h : LsIs t l) (hl : l.length < 200) (x : Nat) : LsIs (sI (sA t 30 (jn l.length) (jn x)) 31 (jn (l.length + 1))) (l ++ [x]) := by
  refine ⟨?_, by rw [List.length_append]; show l.length + 1 ≤ 200; omega, fun i hi => ?_⟩
  · rw [List.length_append]; rfl
  · show gA (sA t 30 (jn l.length) (jn x)) 30 i = _
    rw [gA_sA, jn_cl (by omega)]
    rw [List.length_append] at hi
    by_cases e : i = l.length
    · subst e
      rw [upd_at, getD_r]
    · have : i < l.length := by
        have : i < l.length + 1 := hi
        omega
      rw [upd_ne e, h.2.2 i this, getD_l this]
theorem bit_loop (t : St) (v1 v2 v3 : Int32) {x : Int64} {b : Nat} (hb : b < 64) (h1 : wb x b = true) (h2 : ∀ j, j < b → wb x j = false) : lp (fun y => m_findWays_B175 t v1 v2 v3 x y) 0 = some (jn b) := by
  have := lp_cnt (b := fun y => m_findWays_B175 t v1 v2 v3 x y) (fun i (_ : Unit) => jn i) b (fun _ _ => True) (fun y => y = jn b) (by
    rintro i _ hi -
    refine ⟨(), ?_, trivial⟩
    unfold m_findWays_B175
    rw [bit64 (by omega), h2 i hi, if_pos (show lg_cmp (if false = true then (1 : Int64) else 0) 0 = 0 by rw [lcmp_iff]; rfl)]
    simp only [nm, jn_s]) (by
    rintro _ -
    refine ⟨jn b, ?_, rfl⟩
    unfold m_findWays_B175
    rw [bit64 hb, h1, if_neg (fun e => by rw [lcmp_iff] at e; exact absurd e (by decide))]) 0 () (by omega) trivial
  obtain ⟨y, k1, rfl⟩ := this
  exact k1
theorem wlS_skip {P : Nat → Bool} {a : Nat} : ∀ d, (∀ x, a ≤ x → x < a + d → P x = false) → wlS P (a + d) = wlS P a := by
  intro d
  induction d with
  | zero => intro _; rfl
  | succ d ih =>
    intro h
    show (if P (a + d) then _ else _) = _
    rw [h (a + d) (by omega) (by omega), if_neg (by decide)]
    exact ih fun x h1 h2 => h x h1 (by omega)
theorem wlS_pre {P : Nat → Bool} {a : Nat} : ∀ d, ∃ l, wlS P (a + d) = wlS P a ++ l := by
  intro d
  induction d with
  | zero => exact ⟨[], (List.append_nil _).symm⟩
  | succ d ih =>
    obtain ⟨l, hl⟩ := ih
    show ∃ l, (if P (a + d) then wlS P (a + d) ++ [a + d] else wlS P (a + d)) = _
    rw [hl]
    split
    · exact ⟨l ++ [a + d], by rw [List.append_assoc]⟩
    · exact ⟨l, rfl⟩
theorem wlA_mono (P : Nat → Bool) {a b : Nat} (h : a ≤ b) : (wlA P a).length ≤ (wlA P b).length := by
  rw [wlA_len, wlA_len]
  refine cntB_mono fun i _ hi => ?_
  simp only [Bool.and_eq_true, decide_eq_true_eq] at hi ⊢
  exact ⟨hi.1, by omega⟩
theorem word_list {tm : St} {K size w : Nat} (hs : size ≤ 16) (hw : w < 1024) (hT : cnw tm K ≤ 200) {x : Int64} (hx : leastRow tm K x w) : ∀ n v c s, wcn v = n → c ≤ 64 → (∀ j, j < 64 → wb v j = (decide (c ≤ j) && wb x j)) → LsIs s (wlA (mw tm K) size ++ wlS (fun y => mw tm K y && decide (popc 16 y = size)) (64 * w + c)) → ∃ s', lp (fun y : Int64 × St => m_findWays_B165 (jn K) (jn size) (jn w) y.1 y.2) (v, s) = some s' ∧ fx [30, 31] [] s s' ∧ LsIs s' (wlA (mw tm K) size ++ wlS (fun y => mw tm K y && decide (popc 16 y = size)) (64 * w + 64)) := by
  intro n
  induction n with
  | zero =>
    intro v c s hn hc hv hl
    have h0 : lg_cmp v 0 = 0 := by
      by_cases q : lg_cmp v 0 = 0
      · exact q
      · obtain ⟨b, hb, h1, -, h3⟩ := low_bit q
        have := wcn_less hb h1 h3
        omega
    refine ⟨s, lp_r (by dsimp only; unfold m_findWays_B165; rw [if_pos h0]), fx.rfl, ?_⟩
    rw [show 64 * w + 64 = 64 * w + c + (64 - c) by omega, wlS_skip]
    · exact hl
    · intro y h1 h2
      obtain ⟨j, rfl⟩ : ∃ j, y = 64 * w + j := ⟨y - 64 * w, by omega⟩
      have hj : j < 64 := by omega
      have := hv j hj
      rw [none_bit h0, decide_eq_true (show c ≤ j by omega), Bool.true_and, hx j hj] at this
      show (mw tm K (64 * w + j) && _) = false
      rw [← this, Bool.false_and]
  | succ n ih =>
    intro v c s hn hc hv hl
    have q : ¬ lg_cmp v 0 = 0 := fun e => by have := wcn_0 e; omega
    obtain ⟨b, hb, h1, h2, h3⟩ := low_bit q
    have hw2 := wcn_less hb h1 h3
    have hcb : c ≤ b := by
      have := hv b hb
      rw [h1] at this
      by_cases z : c ≤ b
      · exact z
      · rw [decide_eq_false z, Bool.false_and] at this; cases this
    have mb : mw tm K (64 * w + b) = true := by
      have := hv b hb
      rw [h1, decide_eq_true hcb, Bool.true_and, hx b hb] at this
      exact this.symm
    have sk : wlS (fun y => mw tm K y && decide (popc 16 y = size)) (64 * w + b) = wlS (fun y => mw tm K y && decide (popc 16 y = size)) (64 * w + c) := by
      rw [show 64 * w + b = 64 * w + c + (b - c) by omega]
      refine wlS_skip _ fun y y1 y2 => ?_
      obtain ⟨j, rfl⟩ : ∃ j, y = 64 * w + j := ⟨y - 64 * w, by omega⟩
      have := hv j (by omega)
      rw [h2 j (by omega), decide_eq_true (show c ≤ j by omega), Bool.true_and, hx j (by omega)] at this
      show (mw tm K (64 * w + j) && _) = false
      rw [← this, Bool.false_and]
    have hv2 : ∀ j, j < 64 → wb (v &&& (v - 1)) j = (decide (b + 1 ≤ j) && wb x j) := by
      intro j hj
      rw [h3, hv j hj]
      by_cases y1 : j < b
      · have := hv j hj
        rw [h2 j y1] at this
        rw [← this, decide_eq_false (show ¬ b + 1 ≤ j by omega)]
        rfl
      · by_cases y2 : j = b
        · rw [decide_eq_true y2, decide_eq_false (show ¬ b + 1 ≤ j by omega)]
          simp
        · rw [decide_eq_false y2, decide_eq_true (show b + 1 ≤ j by omega), decide_eq_true (show c ≤ j by omega)]
          simp
    have sz : m_sizeOf s (64 * jn w + jn b) = some (jn (popc 16 (64 * w + b))) := by
      rw [show (64 : Int32) = jn 64 from rfl, jn_mul, jn_add]
      exact m_sizeOf_pc s (by omega)
    have stp2 : wlS (fun y => mw tm K y && decide (popc 16 y = size)) (64 * w + (b + 1)) = if popc 16 (64 * w + b) = size then wlS (fun y => mw tm K y && decide (popc 16 y = size)) (64 * w + c) ++ [64 * w + b] else wlS (fun y => mw tm K y && decide (popc 16 y = size)) (64 * w + c) := by
      rw [show 64 * w + (b + 1) = 64 * w + b + 1 from rfl, wlS_s, sk, mb, Bool.true_and]
      by_cases z : popc 16 (64 * w + b) = size
      · rw [if_pos (decide_eq_true z), if_pos z]
      · rw [if_neg (by rw [decide_eq_false z]; decide), if_neg z]
    by_cases z : popc 16 (64 * w + b) = size
    · rw [if_pos z] at stp2
      have len : (wlA (mw tm K) size ++ wlS (fun y => mw tm K y && decide (popc 16 y = size)) (64 * w + c)).length < 200 := by
        have h17 := wlA_mono (mw tm K) (show size + 1 ≤ 17 by omega)
        have hlen : (wlA (mw tm K) 17).length = cnw tm K := wyl_len tm K
        obtain ⟨l, hl2⟩ := wlS_pre (P := fun y => mw tm K y && decide (popc 16 y = size)) (a := 64 * w + (b + 1)) (65536 - (64 * w + (b + 1)))
        rw [show 64 * w + (b + 1) + (65536 - (64 * w + (b + 1))) = 65536 by omega] at hl2
        have : (wlA (mw tm K) (size + 1)).length = (wlA (mw tm K) size ++ wlS (fun y => mw tm K y && decide (popc 16 y = size)) 65536).length := rfl
        rw [hl2, stp2] at this
        simp only [List.length_append, List.length_cons, List.length_nil] at this ⊢
        omega
      have ha := hl.add len (64 * w + b)
      generalize hs2 : sI (sA s 30 (jn (wlA (mw tm K) size ++ wlS (fun y => mw tm K y && decide (popc 16 y = size)) (64 * w + c)).length) (jn (64 * w + b))) 31 (jn ((wlA (mw tm K) size ++ wlS (fun y => mw tm K y && decide (popc 16 y = size)) (64 * w + c)).length + 1)) = s2 at ha
      have f2 : fx [30, 31] [] s s2 := by subst hs2; exact (fx_sA rfl).trans (fx_sI rfl)
      obtain ⟨s', j1, j2, j3⟩ := ih (v &&& (v - 1)) (b + 1) s2 (by omega) (by omega) hv2 (by rw [stp2, ← List.append_assoc]; exact ha)
      refine ⟨s', ?_, f2.trans j2, j3⟩
      rw [← j1]
      refine lp_l ?_
      dsimp only
      unfold m_findWays_B165
      rw [if_neg q, bit_loop s (jn K) (jn size) (jn w) hb h1 h2, bs, sz, bs, z, if_pos rfl, hl.1, gd_jn len (by omega), show (64 : Int32) = jn 64 from rfl, jn_mul, jn_add]
      simp only [nm]
      rw [show gI (sA s 30 (jn (wlA (mw tm K) size ++ wlS (fun y => mw tm K y && decide (popc 16 y = size)) (64 * w + c)).length) (jn (64 * w + b))) 31 = gI s 31 from rfl, hl.1, jn_s, hs2]
      unfold m_findWays_J233
      simp only [nm]
    · rw [if_neg z] at stp2
      obtain ⟨s', j1, j2, j3⟩ := ih (v &&& (v - 1)) (b + 1) s (by omega) (by omega) hv2 (by rw [stp2]; exact hl)
      refine ⟨s', ?_, j2, j3⟩
      rw [← j1]
      refine lp_l ?_
      have pl := popc_le 16 (64 * w + b)
      dsimp only
      unfold m_findWays_B165
      rw [if_neg q, bit_loop s (jn K) (jn size) (jn w) hb h1 h2, bs, sz, bs, if_neg (fun e => z ((jn_inj (by omega) (by omega)).mp e))]
      unfold m_findWays_J233
      simp only [nm]
theorem size_list {tx tm t : St} (hK : RK tx tm) {K size : Nat} (hk : K < nK tm) (hs : size ≤ 16) (hT : cnw tm K ≤ 200) (h18 : gA t 18 K = jn (cnw tm K)) (hrow : ∀ w, w < 1024 → leastRow tm K (gB t 17 (1024 * K + w) &&& (gB t 28 w ^^^ (-1))) w) {s : St} (hf : fx [30, 31] [] t s) (hl : LsIs s (wlA (mw tm K) size)) : ∃ s', lp (fun y : Int32 × St => m_findWays_B120 (jn K) (jn size) y.1 y.2) (0, s) = some s' ∧ fx [30, 31] [] t s' ∧ LsIs s' (wlA (mw tm K) (size + 1)) := by
  have h250 := nK_lt hK
  have g : ∀ {α : Type} (x : Option α), gd (jn K) 250 x = x := fun x => gd_jn (by omega) (by omega)
  have ck : (jn K).toNatClampNeg = K := jn_cl (by omega)
  have key : ∀ d w s, d + w = 1024 → fx [30, 31] [] t s → LsIs s (wlA (mw tm K) size ++ wlS (fun y => mw tm K y && decide (popc 16 y = size)) (64 * w)) → ∃ s', lp (fun y : Int32 × St => m_findWays_B120 (jn K) (jn size) y.1 y.2) (jn w, s) = some s' ∧ fx [30, 31] [] t s' ∧ LsIs s' (wlA (mw tm K) (size + 1)) := by
    intro d
    induction d with
    | zero =>
      intro w s hw hf hl
      have : w = 1024 := by omega
      subst this
      exact ⟨s, lp_r (by dsimp only; unfold m_findWays_B120; rw [if_pos (by decide)]), hf, hl⟩
    | succ d ih =>
      intro w s hw hf hl
      have n1 : ¬ (1024 : Int32) ≤ jn w := fun e => by have := (jn_le (a := 1024) (by omega) (by omega)).mp e; omega
      by_cases c : cnw tm K ≤ (wlA (mw tm K) size ++ wlS (fun y => mw tm K y && decide (popc 16 y = size)) (64 * w)).length
      · have h17 := wlA_mono (mw tm K) (show size + 1 ≤ 17 by omega)
        have hlen : (wlA (mw tm K) 17).length = cnw tm K := wyl_len tm K
        obtain ⟨l, hl2⟩ := wlS_pre (P := fun y => mw tm K y && decide (popc 16 y = size)) (a := 64 * w) (65536 - 64 * w)
        rw [show 64 * w + (65536 - 64 * w) = 65536 by omega] at hl2
        have e1 : wlA (mw tm K) (size + 1) = wlA (mw tm K) size ++ wlS (fun y => mw tm K y && decide (popc 16 y = size)) 65536 := rfl
        have l0 : l = [] := by
          have := congrArg List.length e1
          rw [hl2] at this
          simp only [List.length_append] at this c
          exact List.length_eq_zero_iff.mp (by omega)
        refine ⟨s, lp_r ?_, hf, ?_⟩
        · dsimp only
          unfold m_findWays_B120
          rw [if_neg n1, g, ck, (hf.1 18 rfl).2.2.1, h18, hl.1, if_pos ((jn_le (by omega) (by have := hl.2.1; omega)).mpr c)]
        · rw [e1, hl2, l0, List.append_nil]
          exact hl
      · obtain ⟨s2, k1, f1, l2⟩ := word_list hs (show w < 1024 by omega) hT (hrow w (by omega)) _ _ 0 s rfl (by omega) (fun j _ => by rw [decide_eq_true (Nat.zero_le _), Bool.true_and]) hl
        rw [lp_l (x := (jn w, s)) (x' := (jn (w + 1), s2)) (by
          dsimp only
          unfold m_findWays_B120
          rw [if_neg n1, g, ck, (hf.1 18 rfl).2.2.1, h18, hl.1, if_neg (fun e => c ((jn_le (by omega) (by have := hl.2.1; omega)).mp e)), show (1024 : Int32) = jn 1024 from rfl, jn_mul, jn_add, gd_jn (by omega) (by omega), gd_jn (by omega) (by omega), jn_cl (by omega), jn_cl (by omega), (hf.1 17 rfl).2.2.2, (hf.1 28 rfl).2.2.2]
          simp only [nm]
          rw [k1, bs, jn_s])]
        exact ih (w + 1) s2 (by omega) (hf.trans f1) (by rw [show 64 * (w + 1) = 64 * w + 64 by omega]; exact l2)
  exact key 1024 0 s (by omega) hf (by
    have : wlS (fun y => mw tm K y && decide (popc 16 y = size)) (64 * 0) = [] := rfl
    rw [this, List.append_nil]
    exact hl)
theorem findWays_eq {tx tm : St} (hK : RK tx tm) (hR : RR tx tm) (hC : RC tm) {K : Nat} (hk : K < nK tm) : (∃ t', m_findWays tm (jn K) = some (0, t') ∧ fx [18, 28, 29, 30, 31] [] tm t' ∧ RC t' ∧ Over tm K) ∨ ∃ t', m_findWays tm (jn K) = some (1, t') ∧ fx [18, 28, 29, 30, 31] [] tm t' ∧ RC t' ∧ ¬ Over tm K ∧ LsIs t' (wyl tm K) := by
  have h250 := nK_lt hK
  have l := lp_cnt (b := fun y : Int32 × St => m_findWays_B2 (jn K) y.1 y.2) (fun i s => (jn i, s)) (K + 1)
    (fun i s => fx [29] [] tm s ∧ ∀ j, j < i → gA s 29 j = if j = K then 1 else 0)
    (fun s => fx [29] [] tm s ∧ ∀ j, j < K + 1 → gA s 29 j = if j = K then 1 else 0) (by
      rintro i s hi ⟨f1, v1⟩
      have put : ∀ v : Int32, v = (if i = K then 1 else 0) → ∃ s', m_findWays_J22 s (jn K) (jn i) (jn i) v = some (.inl (jn (i + 1), s')) ∧ fx [29] [] tm s' ∧ ∀ j, j < i + 1 → gA s' 29 j = if j = K then 1 else 0 := by
        intro v hv
        refine ⟨sA s 29 (jn i) (vp_nar .boolean v), ?_, f1.trans (fx_sA rfl), fun j hj => ?_⟩
        · unfold m_findWays_J22
          rw [gd_jn (by omega) (by omega)]
          simp only [nm, jn_s]
        · rw [gA_sA, jn_cl (by omega)]
          by_cases e : j = i
          · subst e
            rw [upd_at, hv]
            split <;> rfl
          · rw [upd_ne e]; exact v1 j (by omega)
      dsimp only
      unfold m_findWays_B2
      rw [if_neg (fun e => by have := (jn_lt (by omega) (by omega)).mp e; omega)]
      by_cases e : i = K
      · subst e
        rw [if_pos rfl]
        exact put 1 (by rw [if_pos rfl])
      · rw [if_neg (fun z => e ((jn_inj (by omega) (by omega)).mp z))]
        exact put 0 (by rw [if_neg e])) (by
      rintro s hs
      exact ⟨s, by dsimp only; unfold m_findWays_B2; rw [if_pos ((jn_lt (by omega) (by omega)).mpr (by omega))], hs⟩) 0 tm (by omega) ⟨fx.rfl, fun j hj => absurd hj (by omega)⟩
  obtain ⟨s, k1, f1, v1⟩ := l
  have hC1 : RC s := fun k hk2 => by
    rw [nK_fr f1] at hk2
    rw [(f1.1 18 rfl).2.2.1, cnw_to (rch_fx f1)]
    exact hC k hk2
  have M := marks_eq hK hR hk (K + 1) s (Nat.le_refl _) (f1.wk rfl rfl) hC1 (fun h => by omega) ⟨by rw [v1 K (by omega), if_pos rfl], fun j hj => by
    rw [v1 j (by omega)]
    by_cases e : j = K
    · subst e; rw [if_pos rfl]; exact Or.inr ⟨rfl, Need.top⟩
    · rw [if_neg e]; exact Or.inl rfl, fun u h1 h2 => by omega⟩
  rw [show dn (K + 1) = jn K from rfl] at M
  unfold m_findWays
  rw [show (0 : Int32) = jn 0 from rfl, k1, bs]
  rcases M with ⟨u, k2, f2, hC2, ov⟩ | ⟨u, k2, f2, hC2, h18, ov⟩
  · left
    rw [k2, bs]
    exact ⟨u, rfl, f2.wk rfl rfl, hC2, ov⟩
  · right
    have hT : cnw tm K ≤ 200 := by
      by_cases c : cnw tm K ≤ 200
      · exact c
      · exact absurd ⟨K, Need.top, by omega⟩ ov
    have hR2 := RR.fr (S := []) (T := []) (tx' := tx) hR f2
    have hK2 : RK tx u := hK.fr (fx.rfl (S := []) (T := [])) f2
    have ek : nK u = nK tm := nK_fr f2
    have er : rch u = rch tm := rch_fx f2
    obtain ⟨v, k3, f3, v3⟩ := findLesser_eq hK2 hR2 (show K < nK u by omega)
    have f32 : fx [18, 28, 29] [] tm v := f2.trans (f3.wk rfl rfl)
    rw [k2, bs]
    dsimp only [Sum.elim]
    rw [k3, bs]
    simp only [nm]
    generalize ht : sI v 31 (jn 0) = t
    have ft : fx [31] [] v t := by subst ht; exact fx_sI rfl
    have t31 : gI t 31 = jn 0 := by subst ht; rfl
    have ftm : fx [18, 28, 29, 30, 31] [] tm t := (f32.wk rfl rfl).trans (ft.wk rfl rfl)
    have hrow : ∀ w, w < 1024 → leastRow tm K (gB t 17 (1024 * K + w) &&& (gB t 28 w ^^^ (-1))) w := by
      intro w hw
      refine lw_word (fun j hj => ?_) (fun j hj => ?_)
      · rw [(ftm.1 17 rfl).2.2.2]; exact hR K w j hk hw hj
      · rw [(ft.1 28 rfl).2.2.2, v3 w j hw hj]
        unfold lss
        rw [er]
    have t18 : gA t 18 K = jn (cnw tm K) := by rw [(ft.1 18 rfl).2.2.1, (f3.1 18 rfl).2.2.1]; exact h18
    have l2 := lp_cnt (b := fun y : Int32 × St => m_findWays_B112 (jn K) y.1 y.2) (fun i s => (jn i, s)) 17
      (fun i s => fx [30, 31] [] t s ∧ LsIs s (wlA (mw tm K) i))
      (fun s => fx [30, 31] [] t s ∧ LsIs s (wlA (mw tm K) 17)) (by
        rintro i s hi ⟨f4, h4⟩
        obtain ⟨s', j1, j2, j3⟩ := size_list hK hk (show i ≤ 16 by omega) hT t18 hrow f4 h4
        refine ⟨s', ?_, j2, j3⟩
        dsimp only
        unfold m_findWays_B112
        rw [if_neg (show ¬ (16 : Int32) < jn i from fun e => by have := (jn_lt (a := 16) (by omega) (by omega)).mp e; omega), j1, bs]
        simp only [nm, jn_s]) (by
        rintro s hs
        exact ⟨s, by dsimp only; unfold m_findWays_B112; rw [if_pos (by decide)], hs⟩) 0 t (by omega) ⟨fx.rfl, t31, Nat.zero_le _, fun i hi => absurd hi (Nat.not_lt_zero i)⟩
    obtain ⟨z, k4, f4, h4⟩ := l2
    rw [k4, bs]
    have ftz : fx [18, 28, 29, 30, 31] [] tm z := ftm.trans (f4.wk rfl rfl)
    refine ⟨z, rfl, ftz, fun k hk2 => ?_, ov, h4⟩
    rw [nK_fr ftz] at hk2
    rw [(f4.1 18 rfl).2.2.1, (ft.1 18 rfl).2.2.1, (f3.1 18 rfl).2.2.1, cnw_to (rch_fx ftz)]
    have := hC2 k (by omega)
    rw [cnw_to er] at this
    exact this
