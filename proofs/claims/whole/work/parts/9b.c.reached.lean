/-! The event at which a net is reached. -/
def fe (tm : St) (T : Nat) : Nat → Nat → Nat
  | 0, _ => 99
  | m + 1, p => if gA tm 57 p = jn T then p else fe tm T m (p + 1)
def fk (f : Nat → Nat) (n j : Nat) : Nat → Nat → Nat
  | 0, w => w
  | m + 1, w => if j < cntB (fun i => decide (f i ≤ w)) n then w else fk f n j m (w + 1)
def foz (op : Nat → Nat → Nat) (z : Nat) (f : Nat → Nat) : Nat → Nat
  | 0 => z
  | n + 1 => op (foz op z f n) (f n)
def chn (g : Nat → Nat → Nat) (p : Nat) : Nat → Nat
  | 0 => p
  | i + 1 => g i (chn g p i) + 1
def evF (tm : St) (E : Nat) : Nat → Nat → Nat → Nat
  | 0, _, _ => 99
  | f + 1, k, p => if kS tm k = 0 then fe tm (kT tm k) (E - p) p else if kS tm k = 1 then foz min 99 (fun i => evF tm E f (kP tm k i) p) (kN tm k) else if kS tm k = 2 then chn (fun i q => if E < q then 99 else evF tm E f (kP tm k i) q) p (kN tm k) - 1 else if kS tm k = 3 then foz max 0 (fun i => evF tm E f (kP tm k i) p) (kN tm k) else fk (fun i => evF tm E f (kP tm k i) p) (kN tm k) (kD tm k - 1) 99 0
def ev (tm : St) (E k p : Nat) : Nat := evF tm E (k + 1) k p
theorem foz_cong {op : Nat → Nat → Nat} {z : Nat} {f g : Nat → Nat} {n : Nat} (h : ∀ i, i < n → f i = g i) : foz op z f n = foz op z g n := by
  induction n with
  | zero => rfl
  | succ n ih =>
    show op _ _ = op _ _
    rw [ih (fun i hi => h i (by omega)), h n (by omega)]
theorem chn_cong {g h : Nat → Nat → Nat} {p n : Nat} (e : ∀ i q, i < n → g i q = h i q) : chn g p n = chn h p n := by
  induction n with
  | zero => rfl
  | succ n ih =>
    show g n _ + 1 = h n _ + 1
    rw [ih (fun i q hi => e i q (by omega)), e n _ (by omega)]
theorem fk_cong {f g : Nat → Nat} {n j : Nat} (h : ∀ i, i < n → f i = g i) : ∀ m w, fk f n j m w = fk g n j m w := by
  intro m
  induction m with
  | zero => intro w; rfl
  | succ m ih =>
    intro w
    show (if _ then _ else _) = (if _ then _ else _)
    rw [cntB_cong (g := fun i => decide (g i ≤ w)) (fun i hi => by rw [h i hi]), ih]
theorem evF_eq {tx tm : St} (h : RK tx tm) (E : Nat) : ∀ f k p, k < f → k < nK tm → evF tm E f k p = ev tm E k p := by
  have key : ∀ k, ∀ f p, k < f → k < nK tm → evF tm E f k p = evF tm E (k + 1) k p := by
    intro k
    induction k using Nat.strongRecOn with
    | _ k ih =>
      intro f p hf hk
      cases f with
      | zero => omega
      | succ f =>
        by_cases q : kS tm k = 0
        · unfold evF
          rw [if_pos q, if_pos q]
        · have e : ∀ i p, i < kN tm k → evF tm E f (kP tm k i) p = evF tm E k (kP tm k i) p := fun i p hi => by
            have hp := kP_lt h hk q hi
            rw [ih _ hp f p (by omega) (by omega), ih _ hp k p hp (by omega)]
          unfold evF
          rw [if_neg q, if_neg q, foz_cong (fun i hi => e i p hi), chn_cong (h := fun i q => if E < q then 99 else evF tm E k (kP tm k i) q) (fun i q hi => by rw [e i q hi]), foz_cong (op := max) (fun i hi => e i p hi), fk_cong (fun i hi => e i p hi)]
  exact fun f k p h1 h2 => key k f p h1 h2
theorem ev_eq {tx tm : St} (h : RK tx tm) {E k : Nat} (hk : k < nK tm) (p : Nat) : ev tm E k p = if kS tm k = 0 then fe tm (kT tm k) (E - p) p else if kS tm k = 1 then foz min 99 (fun i => ev tm E (kP tm k i) p) (kN tm k) else if kS tm k = 2 then chn (fun i q => if E < q then 99 else ev tm E (kP tm k i) q) p (kN tm k) - 1 else if kS tm k = 3 then foz max 0 (fun i => ev tm E (kP tm k i) p) (kN tm k) else fk (fun i => ev tm E (kP tm k i) p) (kN tm k) (kD tm k - 1) 99 0 := by
  show evF tm E (k + 1) k p = _
  by_cases q : kS tm k = 0
  · unfold evF
    rw [if_pos q, if_pos q]
  · have e : ∀ i p, i < kN tm k → evF tm E k (kP tm k i) p = ev tm E (kP tm k i) p := fun i p hi => by
      have hp := kP_lt h hk q hi
      exact evF_eq h E k _ p hp (by omega)
    unfold evF
    rw [if_neg q, if_neg q, foz_cong (fun i hi => e i p hi), chn_cong (h := fun i q => if E < q then 99 else ev tm E (kP tm k i) q) (fun i q hi => by rw [e i q hi]), foz_cong (op := max) (fun i hi => e i p hi), fk_cong (fun i hi => e i p hi)]
/-- an event is told, or 99 -/
def EvV (E x : Nat) : Prop := x < E ∨ x = 99
theorem fe_V (tm : St) (T : Nat) : ∀ m p, EvV (p + m) (fe tm T m p) := by
  intro m
  induction m with
  | zero => intro p; exact Or.inr rfl
  | succ m ih =>
    intro p
    unfold fe
    split
    · exact Or.inl (by omega)
    · have := ih (p + 1)
      rw [show p + 1 + m = p + (m + 1) by omega] at this
      exact this
theorem fozmin_V {E : Nat} {f : Nat → Nat} {n : Nat} (h : ∀ i, i < n → EvV E (f i)) : EvV E (foz min 99 f n) := by
  induction n with
  | zero => exact Or.inr rfl
  | succ n ih =>
    have h1 := ih (fun i hi => h i (by omega))
    have h2 := h n (by omega)
    show EvV E (min _ _)
    unfold EvV at *
    omega
theorem fozmax_V {E : Nat} {f : Nat → Nat} {n : Nat} (hn : 1 ≤ n) (hE : E ≤ 40) (h : ∀ i, i < n → EvV E (f i)) : EvV E (foz max 0 f n) := by
  have key : ∀ m, m ≤ n → m = 0 ∨ EvV E (foz max 0 f m) := by
    intro m
    induction m with
    | zero => intro _; exact Or.inl rfl
    | succ m ih =>
      intro hm
      right
      have h2 := h m (by omega)
      show EvV E (max _ _)
      rcases ih (by omega) with e | e
      · subst e
        show EvV E (max 0 (f 0))
        unfold EvV at *
        omega
      · unfold EvV at *
        omega
  rcases key n (Nat.le_refl _) with e | e
  · omega
  · exact e
theorem chn_V {E p : Nat} {g : Nat → Nat → Nat} {n : Nat} (hn : 1 ≤ n) (h : ∀ i q, i < n → EvV E (g i q)) : EvV E (chn g p n - 1) := by
  cases n with
  | zero => omega
  | succ n => exact h n _ (by omega)
theorem fk_spec {f : Nat → Nat} {n j : Nat} (hj : j < n) (hf : ∀ i, i < n → f i ≤ 99) : cntB (fun i => decide (f i < fk f n j 99 0)) n ≤ j ∧ j < cntB (fun i => decide (f i ≤ fk f n j 99 0)) n ∧ fk f n j 99 0 ≤ 99 := by
  have key : ∀ m w, m + w = 99 → cntB (fun i => decide (f i < w)) n ≤ j → cntB (fun i => decide (f i < fk f n j m w)) n ≤ j ∧ j < cntB (fun i => decide (f i ≤ fk f n j m w)) n ∧ fk f n j m w ≤ 99 := by
    intro m
    induction m with
    | zero =>
      intro w hw h
      have : w = 99 := by omega
      subst this
      refine ⟨h, ?_, Nat.le_refl _⟩
      have := cntB_up (g := fun i => decide (f i ≤ 99)) (n := n) (Nat.le_refl n) (fun i hi => decide_eq_true (hf i hi))
      show j < cntB (fun i => decide (f i ≤ 99)) n
      omega
    | succ m ih =>
      intro w hw h
      unfold fk
      by_cases q : j < cntB (fun i => decide (f i ≤ w)) n
      · simp only [if_pos q]
        exact ⟨h, q, by omega⟩
      · simp only [if_neg q]
        refine ih (w + 1) (by omega) ?_
        rw [cntB_cong (g := fun i => decide (f i ≤ w)) (fun i _ => decide_eq_decide.mpr Nat.lt_succ_iff)]
        omega
  exact key 99 0 (by omega) (cntB_dn fun i _ _ => decide_eq_false (by omega))
theorem fk_V {E : Nat} {f : Nat → Nat} {n j : Nat} (hj : j < n) (hE : E ≤ 40) (hf : ∀ i, i < n → EvV E (f i)) : EvV E (fk f n j 99 0) := by
  obtain ⟨h1, h2, h3⟩ := fk_spec (f := f) hj (fun i hi => by have := hf i hi; unfold EvV at this; omega)
  by_cases q : fk f n j 99 0 < E
  · exact Or.inl q
  · by_cases q2 : fk f n j 99 0 = 99
    · exact Or.inr q2
    · exfalso
      rw [cntB_cong (f := fun i => decide (f i ≤ fk f n j 99 0)) (g := fun i => decide (f i < fk f n j 99 0)) (fun i hi => by
        have := hf i hi
        unfold EvV at this
        by_cases z : f i < fk f n j 99 0
        · rw [decide_eq_true z, decide_eq_true (by omega)]
        · rw [decide_eq_false z, decide_eq_false (by omega)])] at h2
      omega
theorem ev_V {tx tm : St} (h : RK tx tm) {E : Nat} (hE : E ≤ 40) : ∀ k p, k < nK tm → p ≤ E → EvV E (ev tm E k p) := by
  intro k
  induction k using Nat.strongRecOn with
  | _ k ih =>
    intro p hk hp
    rw [ev_eq h hk]
    obtain ⟨s1, s2, s3, d1, d2, d3, g1, g2, g3, m1, m2, q1, q2⟩ := h.2.2.2 k hk
    by_cases q : kS tm k = 0
    · rw [if_pos q]
      have := fe_V tm (kT tm k) (E - p) p
      rw [show p + (E - p) = E by omega] at this
      exact this
    · obtain ⟨e1, e2, e3, e4, e5, e7, e8, e6, -⟩ := q2 q
      have hp1 : ∀ i, i < kN tm k → EvV E (ev tm E (kP tm k i) p) := fun i hi => ih _ (e6 i hi).2.2 p (by have := (e6 i hi).2.2; omega) hp
      rw [if_neg q]
      by_cases a1 : kS tm k = 1
      · rw [if_pos a1]; exact fozmin_V hp1
      · rw [if_neg a1]
        by_cases a2 : kS tm k = 2
        · rw [if_pos a2]
          refine chn_V e2 fun i x hi => ?_
          split
          · exact Or.inr rfl
          · exact ih _ (e6 i hi).2.2 x (by have := (e6 i hi).2.2; omega) (by omega)
        · rw [if_neg a2]
          by_cases a3 : kS tm k = 3
          · rw [if_pos a3]; exact fozmax_V e2 hE hp1
          · rw [if_neg a3]
            exact fk_V (by have := e7 (by omega); omega) hE hp1
theorem fk_kth {f : Nat → Nat} {n j : Nat} (hj : j < n) (hf : ∀ i, i < n → f i ≤ 99) : Kth (fun i => jn (f i)) n j (jn (fk f n j 99 0)) := by
  obtain ⟨h1, h2, h3⟩ := fk_spec hj hf
  unfold Kth
  rw [cntB_cong (g := fun i => decide (f i < fk f n j 99 0)) (fun i hi => by
    have := hf i hi
    have e := jn_lt (a := f i) (b := fk f n j 99 0) (by omega) (by omega)
    by_cases z : f i < fk f n j 99 0
    · rw [decide_eq_true z, decide_eq_true (e.mpr z)]
    · rw [decide_eq_false z, decide_eq_false (fun y => z (e.mp y))]), cntB_cong (f := fun i => decide (jn (f i) ≤ jn (fk f n j 99 0))) (g := fun i => decide (f i ≤ fk f n j 99 0)) (fun i hi => by
    have := hf i hi
    have e := jn_le (a := f i) (b := fk f n j 99 0) (by omega) (by omega)
    by_cases z : f i ≤ fk f n j 99 0
    · rw [decide_eq_true z, decide_eq_true (e.mpr z)]
    · rw [decide_eq_false z, decide_eq_false (fun y => z (e.mp y))])]
  exact ⟨h1, h2⟩
