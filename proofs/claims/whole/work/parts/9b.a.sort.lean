/-! Rows put in rising order: what stands at a place of them. -/
def Kth (f : Nat → Int32) (n j : Nat) (w : Int32) : Prop := cntB (fun i => decide (f i < w)) n ≤ j ∧ j < cntB (fun i => decide (f i ≤ w)) n
theorem il_lt {x y : Int32} : x < y ↔ x.toInt < y.toInt := Int32.lt_iff_toInt_lt
theorem il_le {x y : Int32} : x ≤ y ↔ x.toInt ≤ y.toInt := Int32.le_iff_toInt_le
theorem cntB_mono {f g : Nat → Bool} {n : Nat} (h : ∀ i, i < n → f i = true → g i = true) : cntB f n ≤ cntB g n := by
  induction n with
  | zero => exact Nat.le_refl _
  | succ n ih =>
    have := ih (fun i hi => h i (by omega))
    show smm _ n + (if f n then 1 else 0) ≤ smm _ n + (if g n then 1 else 0)
    have e : (if f n then 1 else 0) ≤ (if g n then 1 else 0 : Nat) := by
      cases hf : f n
      · simp
      · rw [h n (by omega) hf]; simp
    unfold cntB at this
    omega
theorem kth_uniq {f : Nat → Int32} {n j : Nat} {w w' : Int32} (h : Kth f n j w) (h' : Kth f n j w') : w = w' := by
  have key : ∀ {a b : Int32}, Kth f n j a → Kth f n j b → ¬ a < b := by
    intro a b ha hb hlt
    have : cntB (fun i => decide (f i ≤ a)) n ≤ cntB (fun i => decide (f i < b)) n := cntB_mono fun i _ h => by
      have := of_decide_eq_true h
      rw [il_le] at this
      rw [il_lt] at hlt
      exact decide_eq_true (by rw [il_lt]; omega)
    have := ha.2
    have := hb.1
    omega
  have h1 := key h h'
  have h2 := key h' h
  rw [il_lt] at h1 h2
  exact Int32.toInt_inj.mp (by omega)
theorem kth_cong {f g : Nat → Int32} {n j : Nat} {w : Int32} (e : ∀ i, i < n → f i = g i) (h : Kth f n j w) : Kth g n j w := by
  unfold Kth at *
  rw [cntB_cong (g := fun i => decide (f i < w)) (fun i hi => by rw [e i hi]), cntB_cong (f := fun i => decide (g i ≤ w)) (g := fun i => decide (f i ≤ w)) (fun i hi => by rw [e i hi])]
  exact h
/-- as many of each sort -/
def SameC (f g : Nat → Int32) (n : Nat) : Prop := ∀ P : Int32 → Bool, cntB (fun i => P (f i)) n = cntB (fun i => P (g i)) n
theorem SameC.kth {f g : Nat → Int32} {n j : Nat} {w : Int32} (h : SameC f g n) (k : Kth f n j w) : Kth g n j w := by
  unfold Kth at *
  rw [← h (fun x => decide (x < w)), ← h (fun x => decide (x ≤ w))]
  exact k
theorem smm_swap {f : Nat → Nat} {n a : Nat} (ha : a + 1 < n) : smm (fun i => if i = a then f (a + 1) else if i = a + 1 then f a else f i) n = smm f n := by
  induction n with
  | zero => omega
  | succ n ih =>
    show smm _ n + _ = smm f n + f n
    by_cases e : a + 1 = n
    · subst e
      show smm _ a + _ + _ = smm f a + f a + f (a + 1)
      rw [smm_cong (n := a) (g := f) (fun i hi => by rw [if_neg (by omega), if_neg (by omega)])]
      simp only [if_true, if_neg (show ¬ a + 1 = a by omega)]
      omega
    · rw [ih (by omega)]
      dsimp only
      rw [if_neg (by omega), if_neg (by omega)]
theorem same_swap {f : Nat → Int32} {n a : Nat} {v : Int32} (ha : a + 1 < n) : SameC (upd (upd f (a + 1) (f a)) a v) (upd f (a + 1) v) n := by
  intro P
  have key : ∀ F : Int32 → Nat, smm (fun i => F (upd (upd f (a + 1) (f a)) a v i)) n = smm (fun i => F (upd f (a + 1) v i)) n := by
    intro F
    rw [← smm_swap (f := fun i => F (upd f (a + 1) v i)) ha]
    refine smm_cong fun i hi => ?_
    by_cases e : i = a
    · subst e
      rw [upd_at, if_pos rfl, upd_at]
    · by_cases e2 : i = a + 1
      · subst e2
        rw [upd_ne (show a + 1 ≠ a by omega), upd_at, if_neg (show ¬ a + 1 = a by omega), if_pos rfl, upd_ne (show a ≠ a + 1 by omega)]
      · rw [upd_ne e, upd_ne e2, if_neg e, if_neg e2, upd_ne e2]
  exact key fun x => if P x then 1 else 0
theorem cntB_up {g : Nat → Bool} {n m : Nat} (h : m ≤ n) (hg : ∀ i, i < m → g i = true) : m ≤ cntB g n := by
  induction n with
  | zero => omega
  | succ n ih =>
    show m ≤ smm _ n + (if g n then 1 else 0)
    by_cases e : m = n + 1
    · subst e
      have : n ≤ cntB g n := by
        clear ih
        have : ∀ k, k ≤ n → k ≤ cntB g k := by
          intro k
          induction k with
          | zero => intro _; exact Nat.zero_le _
          | succ k ih2 =>
            intro hk
            have := ih2 (by omega)
            show k + 1 ≤ smm _ k + (if g k then 1 else 0)
            rw [hg k (by omega), if_pos rfl]
            unfold cntB at this
            omega
        exact this n (Nat.le_refl _)
      rw [hg n (by omega), if_pos rfl]
      unfold cntB at this
      omega
    · have := ih (by omega)
      unfold cntB at this
      omega
theorem cntB_dn {g : Nat → Bool} {n m : Nat} (hg : ∀ i, m ≤ i → i < n → g i = false) : cntB g n ≤ m := by
  induction n with
  | zero => exact Nat.zero_le _
  | succ n ih =>
    show smm _ n + (if g n then 1 else 0) ≤ m
    have h1 := ih (fun i h1 h2 => hg i h1 (by omega))
    unfold cntB at h1
    by_cases e : m ≤ n
    · rw [hg n e (by omega)]
      exact h1
    · have := cntB_le g n
      unfold cntB at this
      split <;> omega
def Rise (f : Nat → Int32) (n : Nat) : Prop := ∀ a b, a < b → b < n → f a ≤ f b
theorem rise_kth {f : Nat → Int32} {n j : Nat} (h : Rise f n) (hj : j < n) : Kth f n j (f j) := by
  constructor
  · refine cntB_dn fun i h1 h2 => decide_eq_false ?_
    by_cases e : i = j
    · subst e
      rw [il_lt]; omega
    · have := h j i (by omega) h2
      rw [il_le] at this
      rw [il_lt]; omega
  · refine cntB_up (m := j + 1) (by omega) fun i hi => decide_eq_true ?_
    by_cases e : i = j
    · subst e
      rw [il_le]; omega
    · exact h i j (by omega) hj
/-- the way in which they put a row in order -/
def srtB (r : Nat) (N : St → Nat) (v4 : Int32) (v5 : Int32) (t : St) : Option ((Int32 × St) ⊕ (Int32 × St)) :=
  if v5 ≤ 0 then (some (.inr (v5, t))) else (gd (v5 - (1 : Int32)) (N t) (if (gA t r ((v5 - (1 : Int32))).toNatClampNeg) ≤ v4 then (some (.inr (v5, t))) else (gd (v5 - (1 : Int32)) (N t) (gd v5 (N t) (nm (sA t r v5 (gA t r ((v5 - (1 : Int32))).toNatClampNeg)) (fun t6 : St => nm (v5 + (-1 : Int32)) (fun x7 : Int32 => some (.inl (x7, t6)))))))))
noncomputable def srtA (r : Nat) (N : St → Nat) (v1 : Int32) (v3 : Int32) (t : St) : Option ((Int32 × St) ⊕ (St)) :=
  if v1 ≤ v3 then (some (.inr t)) else (gd v3 (N t) (nm (gA t r (v3).toNatClampNeg) (fun x10 : Int32 => (lp (fun x : Int32 × St => srtB r N x10 x.1 x.2) (v3, t)).bind (fun y11 => gd y11.1 (N y11.2) (nm (sA y11.2 r y11.1 x10) (fun t15 : St => nm (v3 + (1 : Int32)) (fun x16 : Int32 => some (.inl (x16, t15)))))))))
theorem srtB_eq {r : Nat} {N : St → Nat} {L n i : Nat} {t : St} (hN : ∀ s, fx [r] [] t s → N s = L) (hn : n ≤ L) (hL : L ≤ 1000) (hi : i < n) (v : Int32) (f0 : Nat → Int32) : ∀ k s, k ≤ i → fx [r] [] t s → Rise (gA s r) k → (∀ a b, a < b → b ≤ i → a ≠ k → b ≠ k → gA s r a ≤ gA s r b) → (∀ b, k < b → b ≤ i → v ≤ gA s r b) → SameC (upd (gA s r) k v) f0 n → ∃ k' s', lp (fun x : Int32 × St => srtB r N v x.1 x.2) (jn k, s) = some (jn k', s') ∧ k' ≤ i ∧ fx [r] [] t s' ∧ Rise (upd (gA s' r) k' v) (i + 1) ∧ SameC (upd (gA s' r) k' v) f0 n := by
  intro k
  induction k with
  | zero =>
    intro s _ hf h1 h2 h3 h4
    refine ⟨0, s, lp_r (by dsimp only; unfold srtB; rw [if_pos (by decide)]), by omega, hf, ?_, h4⟩
    intro a b hab hb
    by_cases e : a = 0
    · subst e
      rw [upd_at, upd_ne (by omega)]
      exact h3 b hab (by omega)
    · rw [upd_ne e, upd_ne (by omega)]
      exact h2 a b hab (by omega) e (by omega)
  | succ k ih =>
    intro s hk hf h1 h2 h3 h4
    have e1 : jn (k + 1) - 1 = jn k := jn_sub (a := k + 1) (b := 1) (by omega)
    have g0 : ¬ jn (k + 1) ≤ (0 : Int32) := fun e => by have := (jn_le (b := 0) (by omega) (by omega)).mp e; omega
    by_cases q : gA s r k ≤ v
    · refine ⟨k + 1, s, lp_r ?_, hk, hf, ?_, h4⟩
      · dsimp only
        unfold srtB
        rw [if_neg g0, e1, hN s hf, gd_jn (by omega) (by omega), jn_cl (by omega), if_pos q]
      · intro a b hab hb
        by_cases ea : a = k + 1
        · subst ea
          rw [upd_at, upd_ne (by omega)]
          exact h3 b hab (by omega)
        · rw [upd_ne ea]
          by_cases eb : b = k + 1
          · subst eb
            rw [upd_at]
            by_cases e : a = k
            · rw [e]; exact q
            · have := h1 a k (by omega) (by omega)
              rw [il_le] at this q ⊢
              omega
          · rw [upd_ne eb]
            exact h2 a b hab (by omega) ea eb
    · have e2 : jn (k + 1) + (-1) = jn k := by
        rw [← jn_s]
        rw [Int32.add_assoc]
        exact Int32.add_zero _
      have b : (fun x : Int32 × St => srtB r N v x.1 x.2) (jn (k + 1), s) = some (.inl (jn k, sA s r (jn (k + 1)) (gA s r k))) := by
        dsimp only
        unfold srtB
        rw [if_neg g0, e1, hN s hf, gd_jn (by omega) (by omega), jn_cl (by omega), if_neg q, gd_jn (by omega) (by omega), gd_jn (by omega) (by omega)]
        simp only [nm, e2]
      rw [lp_l b]
      have ga : gA (sA s r (jn (k + 1)) (gA s r k)) r = upd (gA s r) (k + 1) (gA s r k) := by rw [gA_sA, jn_cl (by omega)]
      have qv : v ≤ gA s r k := by
        rw [il_le] at q ⊢
        omega
      refine ih (sA s r (jn (k + 1)) (gA s r k)) (by omega) (hf.trans (fx_sA (by simp [List.elem]))) ?_ ?_ ?_ ?_
      · intro a b hab hb
        rw [ga, upd_ne (by omega), upd_ne (by omega)]
        exact h1 a b hab (by omega)
      · intro a b hab hb ha hb2
        rw [ga]
        by_cases ea : a = k + 1
        · subst ea
          rw [upd_at, upd_ne (by omega)]
          exact h2 k b (by omega) hb (by omega) (by omega)
        · rw [upd_ne ea]
          by_cases eb : b = k + 1
          · subst eb
            rw [upd_at]
            exact h1 a k (by omega) (by omega)
          · rw [upd_ne eb]
            exact h2 a b hab hb ea eb
      · intro b hb hb2
        rw [ga]
        by_cases eb : b = k + 1
        · subst eb
          rw [upd_at]; exact qv
        · rw [upd_ne eb]
          exact h3 b (by omega) hb2
      · rw [ga]
        intro P
        rw [same_swap (f := gA s r) (a := k) (v := v) (by omega) P]
        exact h4 P
theorem srtA_eq {r : Nat} {N : St → Nat} {L n : Nat} {t : St} (hN : ∀ s, fx [r] [] t s → N s = L) (hn : n ≤ L) (hL : L ≤ 1000) : ∃ t', lp (fun x : Int32 × St => srtA r N (jn n) x.1 x.2) (1, t) = some t' ∧ fx [r] [] t t' ∧ ∀ j, j < n → Kth (gA t r) n j (gA t' r j) := by
  by_cases h0 : n = 0
  · subst h0
    exact ⟨t, lp_r (by dsimp only; unfold srtA; rw [if_pos (by decide)]), fx.rfl, fun j hj => absurd hj (by omega)⟩
  have k := lp_cnt (b := fun x : Int32 × St => srtA r N (jn n) x.1 x.2) (fun i s => (jn i, s)) n
    (fun i s => fx [r] [] t s ∧ Rise (gA s r) i ∧ SameC (gA s r) (gA t r) n)
    (fun s => fx [r] [] t s ∧ Rise (gA s r) n ∧ SameC (gA s r) (gA t r) n) (by
      rintro i s hi ⟨hf, h1, h2⟩
      have up : upd (gA s r) i (gA s r i) = gA s r := by
        funext j
        by_cases e : j = i
        · subst e; rw [upd_at]
        · rw [upd_ne e]
      obtain ⟨k', s', k1, k2, k3, k4, k5⟩ := srtB_eq hN hn hL hi (gA s r i) (gA t r) i s (Nat.le_refl _) hf h1 (fun a b hab hb ha hb2 => h1 a b hab (by omega)) (fun b hb hb2 => by omega) (by rw [up]; exact h2)
      refine ⟨sA s' r (jn k') (gA s r i), ?_, k3.trans (fx_sA (by simp [List.elem])), ?_, ?_⟩
      · dsimp only
        unfold srtA
        rw [if_neg (nle hi (by omega)), hN s hf, gd_jn (by omega) (by omega)]
        simp only [nm]
        rw [jn_cl (by omega), k1, bs]
        dsimp only
        rw [hN s' k3, gd_jn (by omega) (by omega), jn_s]
      · rw [gA_sA, jn_cl (by omega)]; exact k4
      · rw [gA_sA, jn_cl (by omega)]; exact k5) (by
      rintro s hs
      refine ⟨s, ?_, hs⟩
      dsimp only
      unfold srtA
      rw [if_pos (lee (by omega))]) 1 t (by omega) ⟨fx.rfl, fun a b hab hb => by omega, fun _ => rfl⟩
  obtain ⟨t', k1, k2, k3, k4⟩ := k
  exact ⟨t', k1, k2, fun j hj => k4.kth (rise_kth k3 hj)⟩
theorem m_sorted_eq {t : St} {n : Nat} (hn : n ≤ 40) {w : Nat} (hw : w < n) : ∃ v t', m_sorted t (jn n) (jn w) = some (v, t') ∧ fx [33] [] t t' ∧ Kth (gA t 33) n w v := by
  obtain ⟨t', k1, k2, k3⟩ := srtA_eq (r := 33) (N := fun _ => 40) (L := 40) (n := n) (t := t) (fun _ _ => rfl) hn (by omega)
  refine ⟨gA t' 33 w, t', ?_, k2, k3 w hw⟩
  have k4 : lp (fun x : Int32 × St => m_sorted_B2 (jn n) (jn w) x.1 x.2) (1, t) = some t' := k1
  unfold m_sorted
  rw [k4, bs, gd_jn (by omega) (by omega), jn_cl (by omega)]
theorem rising613_eq {t : St} {n : Nat} (hn : n ≤ 8) (hN : gN t 613 = 8) {w : Nat} (hw : w < n) : ∃ v t', x6_risingAt_613 t (jn n) (jn (w + 1)) = some (v, t') ∧ fx [613] [] t t' ∧ Kth (gA t 613) n w v := by
  obtain ⟨t', k1, k2, k3⟩ := srtA_eq (r := 613) (N := fun s => gN s 613) (L := 8) (n := n) (t := t) (fun s f => (f.2 613 rfl).trans hN) hn (by omega)
  refine ⟨gA t' 613 w, t', ?_, k2, k3 w hw⟩
  have k4 : lp (fun x : Int32 × St => x6_risingAt_613_B2 (jn n) (jn (w + 1)) x.1 x.2) (1, t) = some t' := k1
  unfold x6_risingAt_613
  rw [k4, bs, show jn (w + 1) - 1 = jn w from jn_sub (a := w + 1) (b := 1) (by omega), (k2.2 613 rfl).trans hN, gd_jn (by omega) (by omega), jn_cl (by omega)]
theorem rising107_eq {t : St} {n : Nat} (hn : n ≤ 8) (hN : gN t 107 = 8) {w : Nat} (hw : w < n) : ∃ v t', x6_risingAt_107 t (jn n) (jn (w + 1)) = some (v, t') ∧ fx [107] [] t t' ∧ Kth (gA t 107) n w v := by
  obtain ⟨t', k1, k2, k3⟩ := srtA_eq (r := 107) (N := fun s => gN s 107) (L := 8) (n := n) (t := t) (fun s f => (f.2 107 rfl).trans hN) hn (by omega)
  refine ⟨gA t' 107 w, t', ?_, k2, k3 w hw⟩
  have k4 : lp (fun x : Int32 × St => x6_risingAt_107_B2 (jn n) (jn (w + 1)) x.1 x.2) (1, t) = some t' := k1
  unfold x6_risingAt_107
  rw [k4, bs, show jn (w + 1) - 1 = jn w from jn_sub (a := w + 1) (b := 1) (by omega), (k2.2 107 rfl).trans hN, gd_jn (by omega) (by omega), jn_cl (by omega)]
