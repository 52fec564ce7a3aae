/-! Diagrams: nodes as a list of (level, low, high), numbered from 2. -/
def ixn : List (Nat × Nat × Nat) → Nat × Nat × Nat → Nat
  | [], _ => 0
  | a :: l, x => if a = x then 0 else ixn l x + 1
theorem ixn_mem {N : List (Nat × Nat × Nat)} {x : Nat × Nat × Nat} (h : x ∈ N) : ixn N x < N.length ∧ N.getD (ixn N x) (0, 0, 0) = x := by
  induction N with
  | nil => exact absurd h List.not_mem_nil
  | cons a l ih =>
    unfold ixn
    by_cases c : a = x
    · rw [if_pos c]
      exact ⟨Nat.succ_pos _, c⟩
    · rw [if_neg c]
      have := ih (by rcases List.mem_cons.mp h with e | e; exact absurd e.symm c; exact e)
      exact ⟨Nat.succ_lt_succ this.1, this.2⟩
theorem ixn_not {N : List (Nat × Nat × Nat)} {x : Nat × Nat × Nat} (h : x ∉ N) : ixn N x = N.length := by
  induction N with
  | nil => rfl
  | cons a l ih =>
    unfold ixn
    rw [if_neg (fun e => h (by rw [e]; exact List.mem_cons_self)), ih (fun e => h (List.mem_cons_of_mem _ e))]
    rfl
theorem ixn_app {N M : List (Nat × Nat × Nat)} {x : Nat × Nat × Nat} (h : x ∈ N) : ixn (N ++ M) x = ixn N x := by
  induction N with
  | nil => exact absurd h List.not_mem_nil
  | cons a l ih =>
    show (if a = x then 0 else ixn (l ++ M) x + 1) = if a = x then 0 else ixn l x + 1
    by_cases c : a = x
    · rw [if_pos c, if_pos c]
    · rw [if_neg c, if_neg c, ih (by rcases List.mem_cons.mp h with e | e; exact absurd e.symm c; exact e)]
theorem ixn_app_not {N : List (Nat × Nat × Nat)} {x y : Nat × Nat × Nat} (h : x ∉ N) : ixn (N ++ [x]) x = N.length := by
  induction N with
  | nil =>
    show (if x = x then 0 else _) = 0
    rw [if_pos rfl]
  | cons a l ih =>
    show (if a = x then 0 else ixn (l ++ [x]) x + 1) = l.length + 1
    rw [if_neg (fun e => h (by rw [e]; exact List.mem_cons_self)), ih (fun e => h (List.mem_cons_of_mem _ e))]
theorem getD_app {N M : List (Nat × Nat × Nat)} {i : Nat} (h : i < N.length) : (N ++ M).getD i (0, 0, 0) = N.getD i (0, 0, 0) := by
  rw [List.getD_eq_getElem?_getD, List.getD_eq_getElem?_getD, List.getElem?_append_left h]
theorem getD_last {N : List (Nat × Nat × Nat)} {x : Nat × Nat × Nat} : (N ++ [x]).getD N.length (0, 0, 0) = x := by
  rw [List.getD_eq_getElem?_getD, List.getElem?_append_right (Nat.le_refl _), Nat.sub_self]
  rfl
theorem getD_memN {N : List (Nat × Nat × Nat)} {i : Nat} (h : i < N.length) : N.getD i (0, 0, 0) ∈ N := by
  rw [List.getD_eq_getElem?_getD, List.getElem?_eq_getElem h]
  exact List.getElem_mem h
/-- a node's number -/
def lk (N : List (Nat × Nat × Nat)) (r a b : Nat) : Nat := if a = b then a else 2 + ixn N (r, a, b)
def addN (N : List (Nat × Nat × Nat)) (r a b : Nat) : List (Nat × Nat × Nat) := if a = b ∨ (r, a, b) ∈ N then N else N ++ [(r, a, b)]
def lvN (N : List (Nat × Nat × Nat)) (r w : Nat) (g : Nat → Nat) : Nat → List (Nat × Nat × Nat)
  | 0 => N
  | n + 1 => addN (lvN N r w g n) r (g n) (g (n + w))
def Ext (N M : List (Nat × Nat × Nat)) : Prop := ∃ L, M = N ++ L
theorem Ext.rfl {N : List (Nat × Nat × Nat)} : Ext N N := ⟨[], (List.append_nil _).symm⟩
theorem Ext.trans {N M P : List (Nat × Nat × Nat)} (h : Ext N M) (g : Ext M P) : Ext N P := by
  obtain ⟨L, rfl⟩ := h
  obtain ⟨K, rfl⟩ := g
  exact ⟨L ++ K, List.append_assoc _ _ _⟩
theorem Ext.len {N M : List (Nat × Nat × Nat)} (h : Ext N M) : N.length ≤ M.length := by
  obtain ⟨L, rfl⟩ := h
  rw [List.length_append]; omega
theorem Ext.at {N M : List (Nat × Nat × Nat)} (h : Ext N M) {i : Nat} (hi : i < N.length) : M.getD i (0, 0, 0) = N.getD i (0, 0, 0) := by
  obtain ⟨L, rfl⟩ := h
  exact getD_app hi
theorem addN_ext (N : List (Nat × Nat × Nat)) (r a b : Nat) : Ext N (addN N r a b) := by
  unfold addN
  split
  · exact Ext.rfl
  · exact ⟨_, Eq.refl _⟩
theorem lvN_ext (N : List (Nat × Nat × Nat)) (r w : Nat) (g : Nat → Nat) {n m : Nat} (h : n ≤ m) : Ext (lvN N r w g n) (lvN N r w g m) := by
  obtain ⟨d, rfl⟩ : ∃ d, m = n + d := ⟨m - n, by omega⟩
  induction d with
  | zero => exact Ext.rfl
  | succ d ih => exact (ih (by omega)).trans (addN_ext _ _ _ _)
theorem addN_mem {N : List (Nat × Nat × Nat)} {r a b : Nat} (h : a ≠ b) : (r, a, b) ∈ addN N r a b := by
  unfold addN
  by_cases c : a = b ∨ (r, a, b) ∈ N
  · rw [if_pos c]
    rcases c with c | c
    · exact absurd c h
    · exact c
  · rw [if_neg c]
    exact List.mem_append_right _ (List.mem_singleton.mpr rfl)
theorem lvN_mem {N : List (Nat × Nat × Nat)} {r w : Nat} {g : Nat → Nat} {n s : Nat} (hs : s < n) (h : g s ≠ g (s + w)) : (r, g s, g (s + w)) ∈ lvN N r w g n := by
  obtain ⟨L, e⟩ := lvN_ext N r w g (show s + 1 ≤ n by omega)
  rw [e]
  exact List.mem_append_left _ (addN_mem h)
/-- what is found stays found -/
theorem lk_ext {N M : List (Nat × Nat × Nat)} (h : Ext N M) {r a b : Nat} (hm : a = b ∨ (r, a, b) ∈ N) : lk M r a b = lk N r a b := by
  unfold lk
  by_cases c : a = b
  · rw [if_pos c, if_pos c]
  · rw [if_neg c, if_neg c]
    obtain ⟨L, rfl⟩ := h
    rw [ixn_app (by rcases hm with e | e; exact absurd e c; exact e)]
theorem lk_add (N : List (Nat × Nat × Nat)) (r a b : Nat) : lk (addN N r a b) r a b = lk N r a b := by
  unfold addN
  by_cases c : a = b ∨ (r, a, b) ∈ N
  · rw [if_pos c]
  · rw [if_neg c]
    have c1 : a ≠ b := fun e => c (Or.inl e)
    have c2 : (r, a, b) ∉ N := fun e => c (Or.inr e)
    unfold lk
    rw [if_neg c1, if_neg c1, ixn_app_not (y := (0, 0, 0)) c2, ixn_not c2]
theorem lvN_lk {N : List (Nat × Nat × Nat)} {r w : Nat} {g : Nat → Nat} {n s : Nat} (hs : s < n) : lk (lvN N r w g n) r (g s) (g (s + w)) = lk (lvN N r w g s) r (g s) (g (s + w)) := by
  rw [← lk_add (lvN N r w g s)]
  refine lk_ext (lvN_ext N r w g (show s + 1 ≤ n by omega)) ?_
  by_cases c : g s = g (s + w)
  · exact Or.inl c
  · exact Or.inr (addN_mem c)
/-- the levels, from the last up: d of m are done -/
def dg (f : Nat → Bool) (m : Nat) : Nat → List (Nat × Nat × Nat) × (Nat → Nat)
  | 0 => ([], fun s => if f s then 1 else 0)
  | d + 1 => (lvN (dg f m d).1 (m - 1 - d) (2 ^ (m - 1 - d)) (dg f m d).2 (2 ^ (m - 1 - d)), fun s => lk (lvN (dg f m d).1 (m - 1 - d) (2 ^ (m - 1 - d)) (dg f m d).2 (2 ^ (m - 1 - d))) (m - 1 - d) ((dg f m d).2 s) ((dg f m d).2 (s + 2 ^ (m - 1 - d))))
theorem dg_s (f : Nat → Bool) (m d : Nat) : dg f m (d + 1) = (lvN (dg f m d).1 (m - 1 - d) (2 ^ (m - 1 - d)) (dg f m d).2 (2 ^ (m - 1 - d)), fun s => lk (lvN (dg f m d).1 (m - 1 - d) (2 ^ (m - 1 - d)) (dg f m d).2 (2 ^ (m - 1 - d))) (m - 1 - d) ((dg f m d).2 s) ((dg f m d).2 (s + 2 ^ (m - 1 - d)))) := rfl
def dgN (f : Nat → Bool) (m : Nat) : List (Nat × Nat × Nat) := (dg f m m).1
def dgTop (f : Nat → Bool) (m : Nat) : Nat := (dg f m m).2 0
theorem addN_len (N : List (Nat × Nat × Nat)) (r a b : Nat) : (addN N r a b).length ≤ N.length + 1 := by
  unfold addN
  split
  · omega
  · rw [List.length_append]; exact Nat.le_refl _
theorem lvN_len (N : List (Nat × Nat × Nat)) (r w : Nat) (g : Nat → Nat) (n : Nat) : (lvN N r w g n).length ≤ N.length + n := by
  induction n with
  | zero => exact Nat.le_refl _
  | succ n ih =>
    have := addN_len (lvN N r w g n) r (g n) (g (n + w))
    show (addN (lvN N r w g n) r (g n) (g (n + w))).length ≤ _
    omega
/-- no node twice -/
theorem addN_nd {N : List (Nat × Nat × Nat)} (h : N.Nodup) (r a b : Nat) : (addN N r a b).Nodup := by
  unfold addN
  by_cases c : a = b ∨ (r, a, b) ∈ N
  · rw [if_pos c]; exact h
  · rw [if_neg c]
    refine List.nodup_append.mpr ⟨h, by simp, fun x hx y hy => ?_⟩
    rw [List.mem_singleton.mp hy]
    intro e
    subst e
    exact c (Or.inr hx)
theorem lvN_nd {N : List (Nat × Nat × Nat)} (h : N.Nodup) (r w : Nat) (g : Nat → Nat) (n : Nat) : (lvN N r w g n).Nodup := by
  induction n with
  | zero => exact h
  | succ n ih => exact addN_nd ih _ _ _
theorem dg_nd (f : Nat → Bool) (m d : Nat) : (dg f m d).1.Nodup := by
  induction d with
  | zero => exact List.nodup_nil
  | succ d ih => exact lvN_nd ih _ _ _ _
theorem nd_at {N : List (Nat × Nat × Nat)} (h : N.Nodup) {i j : Nat} (hi : i < N.length) (hj : j < N.length) (e : N.getD i (0, 0, 0) = N.getD j (0, 0, 0)) : i = j := by
  rw [List.getD_eq_getElem?_getD, List.getD_eq_getElem?_getD, List.getElem?_eq_getElem hi, List.getElem?_eq_getElem hj] at e
  exact (List.getElem_inj h).mp e
theorem ixn_at {N : List (Nat × Nat × Nat)} (h : N.Nodup) {i : Nat} (hi : i < N.length) : ixn N (N.getD i (0, 0, 0)) = i := by
  obtain ⟨h1, h2⟩ := ixn_mem (getD_memN hi)
  exact nd_at h h1 hi h2
/-- parts of nodes are nodes before them -/
def Wf (N : List (Nat × Nat × Nat)) : Prop := ∀ i, i < N.length → (N.getD i (0, 0, 0)).2.1 < i + 2 ∧ (N.getD i (0, 0, 0)).2.2 < i + 2 ∧ (N.getD i (0, 0, 0)).2.1 ≠ (N.getD i (0, 0, 0)).2.2
theorem addN_wf {N : List (Nat × Nat × Nat)} (h : Wf N) {r a b : Nat} (ha : a < N.length + 2) (hb : b < N.length + 2) : Wf (addN N r a b) := by
  unfold addN
  by_cases c : a = b ∨ (r, a, b) ∈ N
  · rw [if_pos c]; exact h
  · rw [if_neg c]
    intro i hi
    rw [List.length_append] at hi
    by_cases e : i < N.length
    · rw [getD_app e]; exact h i e
    · have : i = N.length := by
        have : [(r, a, b)].length = 1 := rfl
        omega
      subst this
      rw [getD_last]
      exact ⟨ha, hb, fun e => c (Or.inl e)⟩
theorem lvN_wf {N : List (Nat × Nat × Nat)} (h : Wf N) {r w : Nat} {g : Nat → Nat} {n : Nat} (hg : ∀ s, s < n → g s < N.length + 2 ∧ g (s + w) < N.length + 2) : Wf (lvN N r w g n) := by
  induction n with
  | zero => exact h
  | succ n ih =>
    have l := (lvN_ext N r w g (Nat.zero_le n)).len
    have l0 : (lvN N r w g 0).length = N.length := rfl
    have := hg n (by omega)
    exact addN_wf (ih fun s hs => hg s (by omega)) (by omega) (by omega)
theorem lk_lt {N : List (Nat × Nat × Nat)} {r a b : Nat} (h : a = b ∨ (r, a, b) ∈ N) (ha : a < N.length + 2) : lk N r a b < N.length + 2 := by
  unfold lk
  by_cases c : a = b
  · rw [if_pos c]; exact ha
  · rw [if_neg c]
    have := (ixn_mem (by rcases h with e | e; exact absurd e c; exact e)).1
    omega
theorem dg_ok (f : Nat → Bool) {m d : Nat} (hd : d ≤ m) : Wf (dg f m d).1 ∧ ∀ s, s < 2 ^ (m - d) → (dg f m d).2 s < (dg f m d).1.length + 2 := by
  induction d with
  | zero =>
    refine ⟨fun i hi => absurd hi (Nat.not_lt_zero i), fun s _ => ?_⟩
    show (if f s then 1 else 0) < 0 + 2
    split <;> omega
  | succ d ih =>
    obtain ⟨h1, h2⟩ := ih (by omega)
    have e2 : 2 ^ (m - d) = 2 ^ (m - 1 - d) + 2 ^ (m - 1 - d) := by
      rw [show m - d = (m - 1 - d) + 1 by omega, Nat.pow_succ]; omega
    rw [dg_s]
    have hg : ∀ s, s < 2 ^ (m - 1 - d) → (dg f m d).2 s < (dg f m d).1.length + 2 ∧ (dg f m d).2 (s + 2 ^ (m - 1 - d)) < (dg f m d).1.length + 2 := fun s hs => ⟨h2 s (by omega), h2 _ (by omega)⟩
    refine ⟨lvN_wf h1 hg, fun s hs => ?_⟩
    rw [show m - (d + 1) = m - 1 - d by omega] at hs
    dsimp only
    have l : (dg f m d).1.length ≤ (lvN (dg f m d).1 (m - 1 - d) (2 ^ (m - 1 - d)) (dg f m d).2 (2 ^ (m - 1 - d))).length := (lvN_ext (dg f m d).1 (m - 1 - d) (2 ^ (m - 1 - d)) (dg f m d).2 (Nat.zero_le (2 ^ (m - 1 - d)))).len
    refine lk_lt ?_ (by have := (hg s hs).1; omega)
    by_cases c : (dg f m d).2 s = (dg f m d).2 (s + 2 ^ (m - 1 - d))
    · exact Or.inl c
    · exact Or.inr (lvN_mem hs c)
