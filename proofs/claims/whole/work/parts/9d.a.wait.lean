/-! What waits while a text is read: no more than the pool of rows can hold. -/
theorem lp_inv {X Y : Type} {b : X → Option (X ⊕ Y)} (I : X → Prop) (Q : Y → Prop) (hl : ∀ x x', I x → b x = some (.inl x') → I x') (hr : ∀ x y, I x → b x = some (.inr y) → Q y) {x : X} {y : Y} (h : lp b x = some y) (hI : I x) : Q y := by
  obtain ⟨n, hn⟩ := lp_to h
  clear h
  induction n generalizing x with
  | zero => cases hn
  | succ n ih =>
    have hn2 : (b x).bind (fun o => Sum.elim (fun x' => lpn b n x') (fun y => some y) o) = some y := hn
    cases hb : b x with
    | none => rw [hb] at hn2; cases hn2
    | some r =>
      rw [hb] at hn2
      cases r with
      | inl x' => exact ih (hl x x' hI hb) hn2
      | inr y' =>
        have : y' = y := Option.some.inj hn2
        subst this
        exact hr x y' hI hb
/-- a knot that waits weighs 4 if it is a new row, else 2 -/
def wtK (K0 : Nat) (t : St) (j : Nat) : Nat := if K0 ≤ j ∧ kS t j ≠ 0 then 4 else 2
def psL (f : Nat → Nat) : List Nat → Nat
  | [] => 0
  | a :: l => f a + psL f l
theorem psL_app (f : Nat → Nat) (l m : List Nat) : psL f (l ++ m) = psL f l + psL f m := by
  induction l with
  | nil => exact (Nat.zero_add _).symm
  | cons a l ih =>
    show f a + psL f (l ++ m) = f a + psL f l + psL f m
    rw [ih, Nat.add_assoc]
theorem psL_cong {f g : Nat → Nat} {l : List Nat} (h : ∀ x ∈ l, f x = g x) : psL f l = psL g l := by
  induction l with
  | nil => rfl
  | cons a l ih =>
    show f a + psL f l = g a + psL g l
    rw [h a List.mem_cons_self, ih fun x hx => h x (List.mem_cons_of_mem _ hx)]
theorem psL_ge {f : Nat → Nat} {l : List Nat} (h : ∀ x ∈ l, 2 ≤ f x) : 2 * l.length ≤ psL f l := by
  induction l with
  | nil => exact Nat.le_refl _
  | cons a l ih =>
    have h1 := h a List.mem_cons_self
    have h2 := ih fun x hx => h x (List.mem_cons_of_mem _ hx)
    show 2 * (l.length + 1) ≤ f a + psL f l
    omega
theorem wtK_ge (K0 : Nat) (t : St) (j : Nat) : 2 ≤ wtK K0 t j ∧ wtK K0 t j ≤ 4 := by
  unfold wtK; split <;> omega
def WB (n : Nat) (R : Nat → List Nat) (fl : List Nat) (j : Nat) : Prop := j ∈ fl ∨ ∃ x, x < n ∧ j ∈ R x
def potN (f : Nat → Nat) (n : Nat) (R : Nat → List Nat) (fl : List Nat) : Nat := psL f fl + smm (fun x => psL f (R x)) n
def entN (n : Nat) (R : Nat → List Nat) (fl : List Nat) : Nat := fl.length + smm (fun x => (R x).length) n
def sqN (t : St) (L : Nat) : Nat := smm (fun l => if gA t 24 l = 1 then 1 else 0) (L + 1)
theorem cnt_or (f g : Nat → Bool) (n : Nat) : cntB (fun j => f j || g j) n ≤ cntB f n + cntB g n := by
  induction n with
  | zero => exact Nat.le_refl _
  | succ n ih =>
    show cntB _ n + (if (f n || g n) then 1 else 0) ≤ cntB f n + (if f n then 1 else 0) + (cntB g n + (if g n then 1 else 0))
    cases f n <;> cases g n <;> simp <;> omega
theorem cnt_one (a n : Nat) : cntB (fun j => decide (j = a)) n ≤ 1 := by
  by_cases c : a < n
  · exact Nat.le_of_eq (Eq.trans (smm_cong (g := fun j => if j = a then 1 else 0) fun j _ => by by_cases e : j = a <;> simp [e]) (smm_one1 c))
  · exact Nat.le_trans (cntB_dn (m := 0) fun j _ hj => decide_eq_false (by omega)) (Nat.zero_le _)
/-- so many new rows wait at most -/
theorem wait_list (K0 : Nat) (t : St) (K : Nat) : ∀ l : List Nat, ∃ D : Nat → Bool, (∀ j, K0 ≤ j → kS t j ≠ 0 → j ∈ l → D j = true) ∧ 4 * cntB D K ≤ psL (wtK K0 t) l := by
  intro l
  induction l with
  | nil => exact ⟨fun _ => false, fun j _ _ h => absurd h List.not_mem_nil, by have := cntB_dn (g := fun _ => false) (n := K) (m := 0) (fun _ _ _ => rfl); show _ ≤ 0; omega⟩
  | cons a l ih =>
    obtain ⟨D, h1, h2⟩ := ih
    have w := wtK_ge K0 t a
    by_cases c : K0 ≤ a ∧ kS t a ≠ 0
    · refine ⟨fun j => decide (j = a) || D j, fun j j1 j2 j3 => ?_, ?_⟩
      · rcases List.mem_cons.mp j3 with e | e
        · simp [e]
        · simp [h1 j j1 j2 e]
      · have h3 := cnt_or (fun j => decide (j = a)) D K
        have h4 := cnt_one a K
        have wa : wtK K0 t a = 4 := if_pos c
        show _ ≤ wtK K0 t a + psL (wtK K0 t) l
        omega
    · refine ⟨D, fun j j1 j2 j3 => ?_, ?_⟩
      · rcases List.mem_cons.mp j3 with e | e
        · subst e; exact absurd ⟨j1, j2⟩ c
        · exact h1 j j1 j2 e
      · show _ ≤ wtK K0 t a + psL (wtK K0 t) l
        omega
theorem wait_all (K0 : Nat) (t : St) (K : Nat) (R : Nat → List Nat) (fl : List Nat) : ∀ n, ∃ D : Nat → Bool, (∀ j, K0 ≤ j → kS t j ≠ 0 → WB n R fl j → D j = true) ∧ 4 * cntB D K ≤ potN (wtK K0 t) n R fl := by
  intro n
  induction n with
  | zero =>
    obtain ⟨D, h1, h2⟩ := wait_list K0 t K fl
    refine ⟨D, fun j j1 j2 j3 => ?_, h2⟩
    rcases j3 with h | ⟨x, hx, -⟩
    · exact h1 j j1 j2 h
    · omega
  | succ n ih =>
    obtain ⟨D, h1, h2⟩ := ih
    obtain ⟨D2, g1, g2⟩ := wait_list K0 t K (R n)
    refine ⟨fun j => D j || D2 j, fun j j1 j2 j3 => ?_, ?_⟩
    · rcases j3 with h | ⟨x, hx, h⟩
      · simp [h1 j j1 j2 (Or.inl h)]
      · by_cases e : x = n
        · subst e; simp [g1 j j1 j2 h]
        · simp [h1 j j1 j2 (Or.inr ⟨x, by omega, h⟩)]
    · have := cnt_or D D2 K
      have e : potN (wtK K0 t) (n + 1) R fl = potN (wtK K0 t) n R fl + psL (wtK K0 t) (R n) := by
        show psL _ fl + (smm _ n + _) = psL _ fl + smm _ n + _
        rw [Nat.add_assoc]
      omega
def RowsAre (t : St) (n : Nat) (R : Nat → List Nat) : Prop := ∀ x, x < n → gA t 20 x = jn (R x).length ∧ ∀ i, i < (R x).length → gA t 21 (50 * x + i) = jn ((R x).getD i 0)
/-- used by a knot from K on -/
def Usd (t : St) (K j : Nat) : Prop := ∃ u, K ≤ u ∧ u < nK t ∧ PartOf t u j
def Cor (t0 : St) (A : Nat) (t : St) (L : Nat) (R : Nat → List Nat) (fl : List Nat) : Prop :=
  (gI t 19 = jn L ∧ L ≤ 8 ∧ RowsAre t (4 * (L + 1)) R) ∧
  (gI t 7 = jn (nK t) ∧ gI t 13 = jn (nP t) ∧ nK t0 ≤ nK t ∧ nK t0 ≤ 250 ∧ nP t0 ≤ 10000 ∧ A ≤ 81) ∧
  (∀ u, u < nK t → (kS t u ≠ 0 → kF t u + kN t u ≤ nP t) ∧ (nK t0 ≤ u → ∀ j, PartOf t u j → j < nK t0 → rootB t0 j = true)) ∧
  (∀ j, WB (4 * (L + 1)) R fl j → j < nK t ∧ (j < nK t0 → rootB t0 j = true)) ∧
  (potN (wtK (nK t0) t) (4 * (L + 1)) R fl + 2 * sqN t L ≤ A ∧ nK t + entN (4 * (L + 1)) R fl ≤ nK t0 + A ∧ nP t + 2 * entN (4 * (L + 1)) R fl ≤ nP t0 + 2 * A) ∧
  ∀ K, nK t0 ≤ K → K ≤ nK t → ∃ D : Nat → Bool, (∀ j, nK t0 ≤ j → j < K → kS t j ≠ 0 → (Usd t K j ∨ WB (4 * (L + 1)) R fl j) → D j = true) ∧ cntB D K ≤ 20
theorem smm_at {f g : Nat → Nat} {n x : Nat} (hx : x < n) (h : ∀ i, i < n → i ≠ x → f i = g i) : smm f n + g x = smm g n + f x := by
  induction n with
  | zero => omega
  | succ n ih =>
    show smm f n + f n + g x = smm g n + g n + f x
    by_cases e : x = n
    · subst e
      rw [smm_cong fun i hi => h i (by omega) (by omega)]
      omega
    · have := ih (by omega) fun i hi => h i (by omega)
      have := h n (by omega) fun z => e z.symm
      omega
def setR (R : Nat → List Nat) (x : Nat) (l : List Nat) : Nat → List Nat := fun y => if y = x then l else R y
theorem setR_at {R : Nat → List Nat} {x : Nat} {l : List Nat} : setR R x l x = l := if_pos rfl
theorem setR_ne {R : Nat → List Nat} {x y : Nat} {l : List Nat} (h : y ≠ x) : setR R x l y = R y := if_neg h
theorem pot_set {f : Nat → Nat} {n x : Nat} {R : Nat → List Nat} {l fl fl' : List Nat} (hx : x < n) : potN f n (setR R x l) fl' + psL f (R x) + psL f fl = potN f n R fl + psL f l + psL f fl' := by
  unfold potN
  have := smm_at (f := fun y => psL f (setR R x l y)) (g := fun y => psL f (R y)) hx (fun i _ hi => by rw [setR_ne hi])
  rw [setR_at] at this
  omega
theorem ent_set {n x : Nat} {R : Nat → List Nat} {l fl fl' : List Nat} (hx : x < n) : entN n (setR R x l) fl' + (R x).length + fl.length = entN n R fl + l.length + fl'.length := by
  unfold entN
  have := smm_at (f := fun y => (setR R x l y).length) (g := fun y => (R y).length) hx (fun i _ hi => by rw [setR_ne hi])
  rw [setR_at] at this
  omega
theorem pot_cong {f g : Nat → Nat} {n : Nat} {R : Nat → List Nat} {fl : List Nat} (h : ∀ j, WB n R fl j → f j = g j) : potN f n R fl = potN g n R fl := by
  unfold potN
  rw [psL_cong fun j hj => h j (Or.inl hj)]
  congr 1
  exact smm_cong fun x hx => psL_cong fun j hj => h j (Or.inr ⟨x, hx, hj⟩)
theorem ent_ge {n x : Nat} {R : Nat → List Nat} {fl : List Nat} (hx : x < n) : (R x).length ≤ entN n R fl := by
  have : ∀ n, x < n → (R x).length ≤ smm (fun x => (R x).length) n := by
    intro n
    induction n with
    | zero => intro h; omega
    | succ n ih =>
      intro h
      show _ ≤ smm _ n + (R n).length
      by_cases e : x = n
      · subst e; omega
      · have := ih (by omega); omega
  have := this n hx
  unfold entN
  omega
theorem Cor.len {t0 : St} {A : Nat} {t : St} {L : Nat} {R : Nat → List Nat} {fl : List Nat} (h : Cor t0 A t L R fl) {x : Nat} (hx : x < 4 * (L + 1)) : (R x).length ≤ 40 := by
  obtain ⟨-, ⟨-, -, -, -, -, hA⟩, -, -, ⟨hp, -, -⟩, -⟩ := h
  have e := psL_ge (f := wtK (nK t0) t) (l := R x) (fun j _ => (wtK_ge _ _ j).1)
  have : psL (wtK (nK t0) t) (R x) ≤ potN (wtK (nK t0) t) (4 * (L + 1)) R fl := by
    have h2 := pot_set (f := wtK (nK t0) t) (n := 4 * (L + 1)) (x := x) (R := R) (l := []) (fl := fl) (fl' := fl) hx
    have : psL (wtK (nK t0) t) [] = 0 := rfl
    omega
  omega
