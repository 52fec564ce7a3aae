/-! Diagrams: the cells by which a node is found again. -/
theorem least_k {P : Nat → Prop} {n : Nat} (h : P n) : ∃ k, k ≤ n ∧ P k ∧ ∀ j, j < k → ¬ P j := by
  induction n using Nat.strongRecOn with
  | _ n ih =>
    by_cases c : ∃ j, j < n ∧ P j
    · obtain ⟨j, hj, hp⟩ := c
      obtain ⟨k, k1, k2, k3⟩ := ih j hj hp
      exact ⟨k, by omega, k2, k3⟩
    · exact ⟨n, Nat.le_refl _, h, fun j hj hp => c ⟨j, hj, hp⟩⟩
def PrbOk (E : Int32) (C : Nat) (cel : Nat → Int32) (key : Nat → Nat) (lo hi : Nat) : Prop :=
  (∀ c, c < C → cel c = E ∨ ∃ i, lo ≤ i ∧ i < hi ∧ cel c = jn (i + 2)) ∧
  (∀ i, lo ≤ i → i < hi → ∃ k, k < C ∧ cel ((key i + k) % C) = jn (i + 2) ∧ ∀ j, j < k → cel ((key i + j) % C) ≠ E) ∧
  cntB (fun c => decide (cel c ≠ E)) C ≤ hi - lo
theorem mod_reach {C h c : Nat} (hc : c < C) : ∃ k, k < C ∧ (h + k) % C = c := by
  have hC : 0 < C := by omega
  have l := Nat.mod_lt h hC
  have e := Nat.div_add_mod h C
  refine ⟨if h % C ≤ c then c - h % C else c + C - h % C, by split <;> omega, ?_⟩
  by_cases q : h % C ≤ c
  · rw [if_pos q, show h + (c - h % C) = C * (h / C) + c by omega, Nat.mul_add_mod, Nat.mod_eq_of_lt hc]
  · rw [if_neg q, show h + (c + C - h % C) = C * (h / C + 1) + c by rw [Nat.mul_add]; omega, Nat.mul_add_mod, Nat.mod_eq_of_lt hc]
/-- where the search ends -/
theorem probe {E : Int32} {C : Nat} {cel : Nat → Int32} {key : Nat → Nat} {lo hi h : Nat} (H : PrbOk E C cel key lo hi) (hC : hi - lo < C) (hE : ∀ i, i < hi → jn (i + 2) ≠ E) (hb : hi < 100000) {M : Nat → Prop} (hM : (∃ i0, lo ≤ i0 ∧ i0 < hi ∧ key i0 % C = h % C ∧ M i0 ∧ ∀ i, lo ≤ i → i < hi → M i → i = i0) ∨ ∀ i, lo ≤ i → i < hi → ¬ M i) : ∃ k, k < C ∧ (∀ j, j < k → ∃ i, lo ≤ i ∧ i < hi ∧ cel ((h + j) % C) = jn (i + 2) ∧ ¬ M i) ∧ ((∃ i0, lo ≤ i0 ∧ i0 < hi ∧ M i0 ∧ cel ((h + k) % C) = jn (i0 + 2)) ∨ ((∀ i, lo ≤ i → i < hi → ¬ M i) ∧ cel ((h + k) % C) = E)) := by
  obtain ⟨h1, h2, h3⟩ := H
  have hC0 : 0 < C := by omega
  rcases hM with ⟨i0, i1, i2, i3, i4, i5⟩ | no
  · obtain ⟨k, k1, k2, k3⟩ := h2 i0 i1 i2
    have ek : ∀ j, (key i0 + j) % C = (h + j) % C := fun j => by rw [Nat.add_mod, i3, ← Nat.add_mod]
    rw [ek] at k2
    obtain ⟨k', l1, l2, l3⟩ := least_k (P := fun k => cel ((h + k) % C) = jn (i0 + 2)) k2
    refine ⟨k', by omega, fun j hj => ?_, Or.inl ⟨i0, i1, i2, i4, l2⟩⟩
    have := k3 j (by omega)
    rw [ek] at this
    rcases h1 _ (Nat.mod_lt (h + j) hC0) with e | ⟨i, a1, a2, a3⟩
    · exact absurd e this
    · refine ⟨i, a1, a2, a3, fun m => ?_⟩
      have := i5 i a1 a2 m
      subst this
      exact l3 j hj a3
  · have ex : ∃ c, c < C ∧ cel c = E := by
      by_cases q : ∃ c, c < C ∧ cel c = E
      · exact q
      · have := cntB_all (g := fun c => decide (cel c ≠ E)) (n := C) (fun c hc => decide_eq_true fun e => q ⟨c, hc, e⟩)
        omega
    obtain ⟨c, c1, c2⟩ := ex
    obtain ⟨k, k1, k2⟩ := mod_reach (h := h) c1
    obtain ⟨k', l1, l2, l3⟩ := least_k (P := fun k => cel ((h + k) % C) = E) (n := k) (by rw [k2]; exact c2)
    refine ⟨k', by omega, fun j hj => ?_, Or.inr ⟨no, l2⟩⟩
    rcases h1 _ (Nat.mod_lt (h + j) hC0) with e | ⟨i, a1, a2, a3⟩
    · exact absurd e (l3 j hj)
    · exact ⟨i, a1, a2, a3, no i a1 a2⟩
theorem PrbOk.put {E : Int32} {C : Nat} {cel : Nat → Int32} {key key' : Nat → Nat} {lo hi h k : Nat} (H : PrbOk E C cel key lo hi) (hk : k < C) (hlo : lo ≤ hi) (hE : ∀ i, i < hi + 1 → jn (i + 2) ≠ E) (hp : ∀ j, j < k → cel ((h + j) % C) ≠ E) (he : cel ((h + k) % C) = E) (ho : ∀ i, i < hi → key' i = key i) (hn : key' hi = h) : PrbOk E C (upd cel ((h + k) % C) (jn (hi + 2))) key' lo (hi + 1) := by
  obtain ⟨h1, h2, h3⟩ := H
  have nE : jn (hi + 2) ≠ E := hE hi (by omega)
  refine ⟨fun c hc => ?_, fun i i1 i2 => ?_, ?_⟩
  · by_cases e : c = (h + k) % C
    · subst e; rw [upd_at]; exact Or.inr ⟨hi, hlo, by omega, rfl⟩
    · rw [upd_ne e]
      rcases h1 c hc with e | ⟨i, a1, a2, a3⟩
      · exact Or.inl e
      · exact Or.inr ⟨i, a1, by omega, a3⟩
  · have nz : ∀ c, cel c ≠ E → upd cel ((h + k) % C) (jn (hi + 2)) c ≠ E := fun c hc => by
      by_cases e : c = (h + k) % C
      · subst e; rw [upd_at]; exact nE
      · rw [upd_ne e]; exact hc
    by_cases e : i = hi
    · subst e
      rw [hn]
      exact ⟨k, hk, upd_at .., fun j hj => nz _ (hp j hj)⟩
    · obtain ⟨q, q1, q2, q3⟩ := h2 i i1 (by omega)
      rw [ho i (by omega)]
      refine ⟨q, q1, ?_, fun j hj => nz _ (q3 j hj)⟩
      have : (key i + q) % C ≠ (h + k) % C := fun z => by
        rw [z, he] at q2
        exact hE i (by omega) q2.symm
      rw [upd_ne this]
      exact q2
  · have m := cntB_mono (f := fun c => decide (upd cel ((h + k) % C) (jn (hi + 2)) c ≠ E)) (g := fun c => decide (c = (h + k) % C) || decide (cel c ≠ E)) (n := C) (fun c _ hb => by
      by_cases e : c = (h + k) % C
      · rw [decide_eq_true e, Bool.true_or]
      · rw [upd_ne e] at hb
        rw [hb, Bool.or_true])
    have o := cnt_or (fun c => decide (c = (h + k) % C)) (fun c => decide (cel c ≠ E)) C
    have one := cnt_one ((h + k) % C) C
    omega
theorem PrbOk.nil {E : Int32} {C : Nat} {cel : Nat → Int32} {key : Nat → Nat} {lo : Nat} (h : ∀ c, c < C → cel c = E) : PrbOk E C cel key lo lo := ⟨fun c hc => Or.inl (h c hc), fun i h1 h2 => by omega, by
  rw [Nat.sub_self]
  exact cntB_dn (m := 0) fun c _ hc => decide_eq_false fun z => z (h c hc)⟩
