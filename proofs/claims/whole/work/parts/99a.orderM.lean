/-! The reference's orders. -/
theorem getD_set {l : List Nat} {a v j : Nat} (ha : a < l.length) : (l.set a v).getD j 0 = if j = a then v else l.getD j 0 := by
  rw [List.getD_eq_getElem?_getD, List.getD_eq_getElem?_getD, List.getElem?_set]
  by_cases e : j = a
  · subst e
    rw [if_pos rfl, if_pos rfl, if_pos ha]
    rfl
  · rw [if_neg (fun e2 => e e2.symm), if_neg e]
theorem getD_lt {l : List Nat} {n j : Nat} (h : ∀ x ∈ l, x < n) (hn : 0 < n) : l.getD j 0 < n := by
  rw [List.getD_eq_getElem?_getD]
  cases e : l[j]? with
  | none => exact hn
  | some x => exact h x (List.mem_of_getElem? e)
def rowIs (t : St) (l : List Nat) (n : Nat) : Prop := ∀ j, j < n → gA t 63 j = jn (l.getD j 0)
def okL (l : List Nat) (n : Nat) : Prop := l.length = n ∧ ∀ x ∈ l, x < n
theorem okL.set {l : List Nat} {n a v : Nat} (h : okL l n) (hv : v < n) : okL (l.set a v) n := ⟨by rw [List.length_set]; exact h.1, fun x hx => by
  rcases List.mem_or_eq_of_mem_set hx with hx | hx
  · exact h.2 x hx
  · omega⟩
theorem okL.get {l : List Nat} {n j : Nat} (h : okL l n) (hn : 0 < n) : l.getD j 0 < n := getD_lt h.2 hn
theorem rowIs.set {t : St} {l : List Nat} {n a v : Nat} (h : rowIs t l n) (hl : l.length = n) (ha : a < n) (h7 : n ≤ 7) : rowIs (sA t 63 (jn a) (jn v)) (l.set a v) n := by
  intro j hj
  rw [gA_sA, jn_cl (by omega), getD_set (by omega)]
  by_cases e : j = a
  · subst e
    rw [upd_at, if_pos rfl]
  · rw [upd_ne e, if_neg e]
    exact h j hj
theorem next_I {t : St} {l : List Nat} {n : Nat} (h : rowIs t l n) (ho : okL l n) (h7 : n ≤ 7) (v1 : Int32) : ∀ i, i + 1 ≤ n → lp (fun x => m_next_B4 t v1 x) (jn i - 1) = some (match nxI l i with | some i' => jn i' | none => -1) := by
  intro i
  induction i with
  | zero =>
    intro _
    exact lp_r (by unfold m_next_B4; rw [if_pos (by decide)]; rfl)
  | succ i ih =>
    intro hi
    have e : jn (i + 1) - 1 = jn i := jn_sub (a := i + 1) (b := 1) (by omega)
    rw [e]
    have b : m_next_B4 t v1 (jn i) = if l.getD i 0 ≤ l.getD (i + 1) 0 then some (.inr (jn i)) else some (.inl (jn i - 1)) := by
      have a1 := ho.get (j := i) (by omega)
      have a2 := ho.get (j := i + 1) (by omega)
      unfold m_next_B4
      rw [if_neg (jn_neg (by omega)), gd_jn (by omega) (by omega), show jn i + 1 = jn (i + 1) from jn_add i 1, gd_jn (by omega) (by omega), jn_cl (by omega), jn_cl (by omega), h i (by omega), h (i + 1) (by omega)]
      by_cases q : l.getD i 0 ≤ l.getD (i + 1) 0
      · rw [if_pos q, if_pos ((jn_le (by omega) (by omega)).mpr q)]
      · rw [if_neg q, if_neg (fun e => q ((jn_le (by omega) (by omega)).mp e))]
        simp only [nm]
        rw [show jn i - 1 = jn i + -1 from Int32.sub_eq_add_neg ..]
    unfold nxI
    by_cases q : l.getD i 0 ≤ l.getD (i + 1) 0
    · rw [if_pos q] at b
      rw [if_pos q]
      exact lp_r b
    · rw [if_neg q] at b
      rw [if_neg q, lp_l b]
      exact ih (by omega)
theorem next_K {t : St} {l : List Nat} {n i : Nat} (h : rowIs t l n) (ho : okL l n) (h7 : n ≤ 7) (v1 : Int32) (hq : l.getD i 0 ≤ l.getD (i + 1) 0) : ∀ k, i + 1 ≤ k → k + 1 ≤ n → lp (fun x => m_next_B41 t v1 (jn i) x) (jn k) = some (jn (nxK l (l.getD i 0) k)) ∧ nxK l (l.getD i 0) k ≤ k ∧ i + 1 ≤ nxK l (l.getD i 0) k := by
  intro k
  induction k with
  | zero =>
    intro h1 _
    exact absurd h1 (by omega)
  | succ k ih =>
    intro h1 h2
    have b : m_next_B41 t v1 (jn i) (jn (k + 1)) = if l.getD i 0 ≤ l.getD (k + 1) 0 then some (.inr (jn (k + 1))) else some (.inl (jn k)) := by
      have a1 := ho.get (j := i) (by omega)
      have a2 := ho.get (j := k + 1) (by omega)
      unfold m_next_B41
      rw [gd_jn (by omega) (by omega), gd_jn (by omega) (by omega), jn_cl (by omega), jn_cl (by omega), h i (by omega), h (k + 1) (by omega)]
      by_cases q : l.getD i 0 ≤ l.getD (k + 1) 0
      · rw [if_pos q, if_pos ((jn_le (by omega) (by omega)).mpr q)]
      · rw [if_neg q, if_neg (fun e => q ((jn_le (by omega) (by omega)).mp e))]
        have : jn (k + 1) + -1 = jn k := by
          rw [show jn (k + 1) = jn k + 1 from (jn_add k 1).symm, Int32.add_assoc]
          exact Int32.add_zero _
        simp only [nm, this]
    unfold nxK
    by_cases q : l.getD i 0 ≤ l.getD (k + 1) 0
    · rw [if_pos q] at b
      rw [if_pos q]
      exact ⟨lp_r b, Nat.le_refl _, h1⟩
    · rw [if_neg q] at b
      rw [if_neg q, lp_l b]
      have hk : i + 1 ≤ k := by
        by_cases e : i = k
        · subst e
          exact absurd hq q
        · omega
      obtain ⟨k1, k2, k3⟩ := ih hk (by omega)
      exact ⟨k1, by omega, k3⟩
theorem next_R {n : Nat} (h7 : n ≤ 7) : ∀ (f a b : Nat) (t : St) (l : List Nat), rowIs t l n → okL l n → b < n → a ≤ 8 → b - a < f → ∃ t', lp (fun x : Int32 × Int32 × St => m_next_B100 x.1 x.2.1 x.2.2) (jn a, jn b, t) = some t' ∧ rowIs t' (nxR f a b l) n ∧ okL (nxR f a b l) n ∧ fx [63] [] t t' := by
  intro f
  induction f with
  | zero =>
    intro a b t l _ _ _ _ h
    exact absurd h (by omega)
  | succ f ih =>
    intro a b t l h ho hb ha8 hf
    unfold nxR
    by_cases q : a < b
    · rw [if_pos q]
      have a1 := ho.get (j := a) (by omega)
      have a2 := ho.get (j := b) (by omega)
      have r1 := h.set (a := a) (v := l.getD b 0) ho.1 (by omega) h7
      have o1 := ho.set (a := a) (v := l.getD b 0) a2
      have r2 := r1.set (a := b) (v := l.getD a 0) o1.1 hb h7
      have o2 := o1.set (a := b) (v := l.getD a 0) a1
      have bd : m_next_B100 (jn a) (jn b) t = some (.inl (jn (a + 1), jn (b - 1), sA (sA t 63 (jn a) (jn (l.getD b 0))) 63 (jn b) (jn (l.getD a 0)))) := by
        unfold m_next_B100
        have q1 : ¬ jn b ≤ jn a := fun e => by have := (jn_le (by omega) (by omega)).mp e; omega
        have ga : ∀ {α : Type} (x : Option α), gd (jn a) 7 x = x := fun x => gd_jn (by omega) (by omega)
        have gb : ∀ {α : Type} (x : Option α), gd (jn b) 7 x = x := fun x => gd_jn (by omega) (by omega)
        rw [if_neg q1]
        simp only [ga, gb, nm]
        rw [jn_cl (by omega), jn_cl (by omega), h a (by omega), h b hb, show jn a + 1 = jn (a + 1) from jn_add a 1]
        have e2 : jn b + -1 = jn (b - 1) := by
          rw [show jn b = jn (b - 1) + 1 from by rw [show jn (b - 1) + 1 = jn (b - 1 + 1) from jn_add (b - 1) 1, show b - 1 + 1 = b by omega], Int32.add_assoc]
          exact Int32.add_zero _
        rw [e2]
      rw [lp_l (b := fun x : Int32 × Int32 × St => m_next_B100 x.1 x.2.1 x.2.2) bd]
      by_cases q2 : f = 0
      · exfalso
        omega
      obtain ⟨t', k, k1, k2, k3⟩ := ih (a + 1) (b - 1) _ _ r2 o2 (by omega) (by omega) (by omega)
      exact ⟨t', k, k1, k2, ((fx_sA rfl).trans (fx_sA rfl)).trans k3⟩
    · rw [if_neg q]
      exact ⟨t, lp_r (by dsimp only; unfold m_next_B100; rw [if_pos ((jn_le (by omega) (by omega)).mpr (by omega))]), h, ho, fx.rfl⟩
theorem m_next_eq {t : St} {l : List Nat} {n : Nat} (h : rowIs t l n) (ho : okL l n) (h7 : n ≤ 7) : match nextL n l with | none => m_next t (jn n) = some (0, t) | some l' => ∃ t', m_next t (jn n) = some (1, t') ∧ rowIs t' l' n ∧ okL l' n ∧ fx [63] [] t t' := by
  by_cases n0 : n = 0
  · subst n0
    show m_next t (jn 0) = some (0, t)
    unfold m_next
    simp only [nm]
    rw [show lp (fun x => m_next_B4 t (jn 0) x) (jn 0 - 2) = some (-2) from lp_r (by unfold m_next_B4; rw [if_pos (by decide)]; rfl), bs, if_neg (by decide)]
  · have i1 := next_I h ho h7 (jn n) (n - 1) (by omega)
    have en : jn n - 2 = jn (n - 1) - 1 := by
      rw [show jn n - 2 = jn n - jn 2 from rfl, show jn (n - 1) - 1 = jn (n - 1) - jn 1 from rfl]
      by_cases e : n = 1
      · subst e; decide
      · rw [jn_sub (by omega), jn_sub (by omega)]
        congr 1
    unfold nextL
    unfold m_next
    simp only [nm]
    rw [en, i1, bs]
    cases hI : nxI l (n - 1) with
    | none =>
      dsimp only
      rw [if_neg (by decide)]
    | some i =>
      dsimp only
      have hi : ∀ m, nxI l m = some i → i < m ∧ l.getD i 0 ≤ l.getD (i + 1) 0 := by
        intro m
        induction m with
        | zero => intro e; cases e
        | succ m ih =>
          intro e
          unfold nxI at e
          by_cases q : l.getD m 0 ≤ l.getD (m + 1) 0
          · rw [if_pos q] at e
            cases e
            exact ⟨by omega, q⟩
          · rw [if_neg q] at e
            obtain ⟨e1, e2⟩ := ih e
            exact ⟨by omega, e2⟩
      obtain ⟨hi1, hi2⟩ := hi _ hI
      obtain ⟨k1, k2, k3⟩ := next_K h ho h7 (jn n) hi2 (n - 1) (by omega) (by omega)
      have gi : ∀ {α : Type} (x : Option α), gd (jn i) 7 x = x := fun x => gd_jn (by omega) (by omega)
      have gk : ∀ {α : Type} (x : Option α), gd (jn (nxK l (l.getD i 0) (n - 1))) 7 x = x := fun x => gd_jn (by omega) (by omega)
      have a1 := ho.get (j := i) (by omega)
      have a2 := ho.get (j := nxK l (l.getD i 0) (n - 1)) (by omega)
      have r1 := h.set (a := i) (v := l.getD (nxK l (l.getD i 0) (n - 1)) 0) ho.1 (by omega) h7
      have o1 := ho.set (a := i) (v := l.getD (nxK l (l.getD i 0) (n - 1)) 0) a2
      have r2 := r1.set (a := nxK l (l.getD i 0) (n - 1)) (v := l.getD i 0) o1.1 (by omega) h7
      have o2 := o1.set (a := nxK l (l.getD i 0) (n - 1)) (v := l.getD i 0) a1
      obtain ⟨t', j, j1, j2, j3⟩ := next_R h7 7 (i + 1) (n - 1) _ _ r2 o2 (by omega) (by omega) (by omega)
      refine ⟨t', ?_, j1, j2, ((fx_sA rfl).trans (fx_sA rfl)).trans j3⟩
      rw [if_pos (jn_nn (by omega)), show jn n - 1 = jn (n - 1) from jn_sub (a := n) (b := 1) (by omega), k1, bs]
      simp only [gi, gk]
      rw [jn_cl (by omega), jn_cl (by omega), h i (by omega), h _ (by omega), show jn i + 1 = jn (i + 1) from jn_add i 1, j, bs]

