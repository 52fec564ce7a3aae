/-! Orders of steps: least over all orders, told by the first or by the last, and the first order that has it. -/
def mnF (f : Nat → Nat) : List Nat → Nat
  | [] => 601
  | c :: l => min (f c) (mnF f l)
theorem mnF_cap (f : Nat → Nat) (l : List Nat) : mnF f l ≤ 601 := by
  induction l with
  | nil => exact Nat.le_refl _
  | cons c l ih => exact Nat.le_trans (Nat.min_le_right _ _) ih
theorem mnF_le {f : Nat → Nat} {l : List Nat} {c : Nat} (h : c ∈ l) : mnF f l ≤ f c := by
  induction l with
  | nil => cases h
  | cons d l ih =>
    cases h with
    | head => exact Nat.min_le_left _ _
    | tail _ h => exact Nat.le_trans (Nat.min_le_right _ _) (ih h)
theorem mnF_ge {f : Nat → Nat} {l : List Nat} {v : Nat} (h : ∀ c ∈ l, v ≤ f c) (hv : v ≤ 601) : v ≤ mnF f l := by
  induction l with
  | nil => exact hv
  | cons d l ih => exact Nat.le_min.mpr ⟨h d List.mem_cons_self, ih fun c hc => h c (List.mem_cons_of_mem _ hc)⟩
theorem mnF_cong {f g : Nat → Nat} {l : List Nat} (h : ∀ c ∈ l, f c = g c) : mnF f l = mnF g l := by
  induction l with
  | nil => rfl
  | cons d l ih =>
    show min (f d) (mnF f l) = min (g d) (mnF g l)
    rw [h d List.mem_cons_self, ih fun c hc => h c (List.mem_cons_of_mem _ hc)]
/-- ends grow with beginnings; 601 is never -/
def EM (E : Nat → Nat → Nat) : Prop := (∀ c t t', t ≤ t' → E c t ≤ E c t') ∧ (∀ c t, E c t ≤ 601) ∧ (∀ c, E c 601 = 601) ∧ ∀ c t, t ≤ 601 → t ≤ E c t
theorem EM_mnF {E : Nat → Nat → Nat} (h : EM E) (d : Nat) (f : Nat → Nat) (l : List Nat) : E d (mnF f l) = mnF (fun c => E d (f c)) l := by
  induction l with
  | nil => exact h.2.2.1 d
  | cons c l ih =>
    show E d (min (f c) (mnF f l)) = min (E d (f c)) _
    rw [← ih]
    rcases Nat.le_total (f c) (mnF f l) with q | q
    · rw [Nat.min_eq_left q, Nat.min_eq_left (h.1 _ _ _ q)]
    · rw [Nat.min_eq_right q, Nat.min_eq_right (h.1 _ _ _ q)]
def mfe (E : Nat → Nat → Nat) : Nat → List Nat → Nat → Nat
  | 0, _, t => t
  | n + 1, l, t => mnF (fun c => mfe E n (l.erase c) (E c t)) l
def mla (E : Nat → Nat → Nat) : Nat → List Nat → Nat → Nat
  | 0, _, t => t
  | n + 1, l, t => mnF (fun c => E c (mla E n (l.erase c) t)) l
theorem mla_cap {E : Nat → Nat → Nat} : ∀ n l t, t ≤ 601 → mla E n l t ≤ 601
  | 0, _, _, h => h
  | _ + 1, l, _, _ => mnF_cap _ l
theorem mfe_mla {E : Nat → Nat → Nat} (h : EM E) : ∀ (n : Nat) (l : List Nat) (t : Nat), l.Nodup → l.length = n → mfe E n l t = mla E n l t
  | 0, _, _, _, _ => rfl
  | 1, l, t, _, hl => by
    show mnF (fun c => E c t) l = mnF (fun c => E c t) l
    rfl
  | n + 2, l, t, hn, hl => by
    have ln : ∀ c ∈ l, (l.erase c).length = n + 1 := fun c hc => by rw [List.length_erase_of_mem hc]; omega
    have nd : ∀ c, (l.erase c).Nodup := fun c => hn.erase c
    have ln2 : ∀ c ∈ l, ∀ d ∈ l.erase c, ((l.erase c).erase d).length = n := fun c hc d hd => by rw [List.length_erase_of_mem hd, ln c hc]; omega
    have e1 : mfe E (n + 2) l t = mnF (fun c => mnF (fun d => E d (mla E n ((l.erase c).erase d) (E c t))) (l.erase c)) l := mnF_cong fun c hc => mfe_mla h (n + 1) (l.erase c) (E c t) (nd c) (ln c hc)
    have e2 : mla E (n + 2) l t = mnF (fun d => mnF (fun c => E d (mla E n ((l.erase d).erase c) (E c t))) (l.erase d)) l := mnF_cong fun d hd => by
      rw [← mfe_mla h (n + 1) (l.erase d) t (nd d) (ln d hd)]
      show E d (mnF (fun c => mfe E n ((l.erase d).erase c) (E c t)) (l.erase d)) = _
      rw [EM_mnF h]
      exact mnF_cong fun c hc => by rw [mfe_mla h n _ _ ((nd d).erase c) (ln2 d hd c hc)]
    rw [e1, e2]
    have sw : ∀ c d, c ∈ l → d ∈ l.erase c → d ∈ l ∧ c ∈ l.erase d := fun c d hc hd => by
      rw [hn.mem_erase_iff] at hd
      exact ⟨hd.2, hn.mem_erase_iff.mpr ⟨fun e => hd.1 e.symm, hc⟩⟩
    apply Nat.le_antisymm
    · refine mnF_ge (fun d hd => mnF_ge (fun c hc => ?_) (mnF_cap _ _)) (mnF_cap _ _)
      obtain ⟨hc1, hd1⟩ := sw d c hd hc
      refine Nat.le_trans (mnF_le hc1) (Nat.le_trans (mnF_le hd1) ?_)
      rw [List.erase_comm]
      exact Nat.le_refl _
    · refine mnF_ge (fun d hd => mnF_ge (fun c hc => ?_) (mnF_cap _ _)) (mnF_cap _ _)
      obtain ⟨hc1, hd1⟩ := sw d c hd hc
      refine Nat.le_trans (mnF_le hc1) (Nat.le_trans (mnF_le hd1) ?_)
      rw [List.erase_comm]
      exact Nat.le_refl _
theorem mfe_ge {E : Nat → Nat → Nat} (h : EM E) : ∀ n l t, t ≤ 601 → t ≤ mfe E n l t
  | 0, _, _, _ => Nat.le_refl _
  | n + 1, l, t, ht => mnF_ge (fun c _ => Nat.le_trans (h.2.2.2 c t ht) (mfe_ge h n _ _ (h.2.1 c t))) ht
theorem mfe_cap {E : Nat → Nat → Nat} : ∀ n l t, t ≤ 601 → mfe E n l t ≤ 601
  | 0, _, _, h => h
  | _ + 1, l, _, _ => mnF_cap _ l
/-- the orders of a row, as they come -/
def lexP : Nat → List Nat → List (List Nat)
  | 0, _ => [[]]
  | n + 1, l => l.flatMap fun c => (lexP n (l.erase c)).map (c :: ·)
def endL (E : Nat → Nat → Nat) : List Nat → Nat → Nat
  | [], t => t
  | c :: l, t => endL E l (E c t)
/-- the first order that has the value v -/
def grd (E : Nat → Nat → Nat) : Nat → List Nat → Nat → Nat → List Nat
  | 0, _, _, _ => []
  | n + 1, l, t, v => match l.find? (fun c => mfe E n (l.erase c) (E c t) == v) with
    | some c => c :: grd E n (l.erase c) (E c t) v
    | none => []
def stp (val : List Nat → Nat) (s : Nat × List Nat) (p : List Nat) : Nat × List Nat := if val p < s.1 then (val p, p) else s
theorem fold_grd {E : Nat → Nat → Nat} (h : EM E) (val : List Nat → Nat) : ∀ (n : Nat) (l : List Nat) (t : Nat) (pre : List Nat) (b : Nat) (B : List Nat), t ≤ 601 → b ≤ 601 → (∀ p, val (pre ++ p) = endL E p t) → ((lexP n l).map (pre ++ ·)).foldl (stp val) (b, B) = if mfe E n l t < b then (mfe E n l t, pre ++ grd E n l t (mfe E n l t)) else (b, B)
  | 0, l, t, pre, b, B, ht, hb, hv => by
    show stp val (b, B) (pre ++ []) = _
    unfold stp
    rw [hv []]
    rfl
  | n + 1, l0, t, pre, b, B, ht, hb, hv => by
    -- over the rest of the row
    have key : ∀ (l : List Nat) (b : Nat) (B : List Nat), b ≤ 601 → ((l.flatMap fun c => (lexP n (l0.erase c)).map (c :: ·)).map (pre ++ ·)).foldl (stp val) (b, B) = if mnF (fun c => mfe E n (l0.erase c) (E c t)) l < b then (mnF (fun c => mfe E n (l0.erase c) (E c t)) l, pre ++ (match l.find? (fun c => mfe E n (l0.erase c) (E c t) == mnF (fun c => mfe E n (l0.erase c) (E c t)) l) with | some c => c :: grd E n (l0.erase c) (E c t) (mnF (fun c => mfe E n (l0.erase c) (E c t)) l) | none => [])) else (b, B) := by
      intro l
      induction l with
      | nil =>
        intro b B hb
        show (b, B) = if (601 : Nat) < b then _ else (b, B)
        rw [if_neg (by omega)]
      | cons c l ih =>
        intro b B hb
        have g := fold_grd h val n (l0.erase c) (E c t) (pre ++ [c]) b B (h.2.1 c t) hb (fun p => by rw [List.append_assoc]; exact hv (c :: p))
        have e : (((c :: l).flatMap fun c => (lexP n (l0.erase c)).map (c :: ·)).map (pre ++ ·)).foldl (stp val) (b, B) = ((l.flatMap fun c => (lexP n (l0.erase c)).map (c :: ·)).map (pre ++ ·)).foldl (stp val) (((lexP n (l0.erase c)).map ((pre ++ [c]) ++ ·)).foldl (stp val) (b, B)) := by
          rw [List.flatMap_cons, List.map_append, List.foldl_append, List.map_map]
          congr 2
          apply List.map_congr_left
          intro p _
          show pre ++ c :: p = pre ++ [c] ++ p
          rw [List.append_assoc]
          rfl
        rw [e, g]
        have hm : mnF (fun c => mfe E n (l0.erase c) (E c t)) (c :: l) = min (mfe E n (l0.erase c) (E c t)) (mnF (fun c => mfe E n (l0.erase c) (E c t)) l) := rfl
        have hcap := mnF_cap (fun c => mfe E n (l0.erase c) (E c t)) l
        by_cases q : mfe E n (l0.erase c) (E c t) < b
        · rw [if_pos q, ih _ _ (by omega)]
          by_cases q2 : mnF (fun c => mfe E n (l0.erase c) (E c t)) l < mfe E n (l0.erase c) (E c t)
          · have e2 : min (mfe E n (l0.erase c) (E c t)) (mnF (fun c => mfe E n (l0.erase c) (E c t)) l) = mnF (fun c => mfe E n (l0.erase c) (E c t)) l := Nat.min_eq_right (by omega)
            rw [if_pos q2, hm, e2, if_pos (by omega), List.find?_cons_of_neg (by simp; omega)]
          · have e2 : min (mfe E n (l0.erase c) (E c t)) (mnF (fun c => mfe E n (l0.erase c) (E c t)) l) = mfe E n (l0.erase c) (E c t) := Nat.min_eq_left (by omega)
            rw [if_neg q2, hm, e2, if_pos q, List.find?_cons_of_pos (by simp), List.append_assoc]
            rfl
        · rw [if_neg q, ih _ _ hb]
          by_cases q2 : mnF (fun c => mfe E n (l0.erase c) (E c t)) l < b
          · have e2 : min (mfe E n (l0.erase c) (E c t)) (mnF (fun c => mfe E n (l0.erase c) (E c t)) l) = mnF (fun c => mfe E n (l0.erase c) (E c t)) l := Nat.min_eq_right (by omega)
            rw [if_pos q2, hm, e2, if_pos q2, List.find?_cons_of_neg (by simp; omega)]
          · have e2 : ¬ min (mfe E n (l0.erase c) (E c t)) (mnF (fun c => mfe E n (l0.erase c) (E c t)) l) < b := by
              have := Nat.le_min.mpr ⟨Nat.not_lt.mp q, Nat.not_lt.mp q2⟩
              exact Nat.not_lt.mpr this
            rw [if_neg q2, hm, if_neg e2]
    exact key l0 b B hb
/-! The next order, on a row as on an array. -/
def nxI (l : List Nat) : Nat → Option Nat
  | 0 => none
  | i + 1 => if l.getD i 0 ≤ l.getD (i + 1) 0 then some i else nxI l i
def nxK (l : List Nat) (v : Nat) : Nat → Nat
  | 0 => 0
  | k + 1 => if v ≤ l.getD (k + 1) 0 then k + 1 else nxK l v k
def nxR : Nat → Nat → Nat → List Nat → List Nat
  | 0, _, _, l => l
  | f + 1, a, b, l => if a < b then nxR f (a + 1) (b - 1) ((l.set a (l.getD b 0)).set b (l.getD a 0)) else l
def nextL (n : Nat) (l : List Nat) : Option (List Nat) :=
  match nxI l (n - 1) with
  | none => none
  | some i =>
    let k := nxK l (l.getD i 0) (n - 1)
    some (nxR 7 (i + 1) (n - 1) ((l.set i (l.getD k 0)).set k (l.getD i 0)))
def genL (n : Nat) : Nat → List Nat → List (List Nat)
  | 0, _ => []
  | f + 1, l => l :: (match nextL n l with | none => [] | some l' => genL n f l')
