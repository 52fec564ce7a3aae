/-! How many bases there are; the turns come to their end. -/
def chs : Nat → Nat → Nat
  | 0, 0 => 1
  | 0, _ + 1 => 0
  | _ + 1, 0 => 1
  | b + 1, n + 1 => chs b n + chs b (n + 1)
theorem chs_s (b n : Nat) : chs (b + 1) (n + 1) = chs b n + chs b (n + 1) := rfl
theorem chs_0 (b : Nat) : chs b 0 = 1 := by
  cases b <;> rfl
theorem chs_up (b n : Nat) : chs b n ≤ chs (b + 1) n := by
  cases n with
  | zero => rw [chs_0, chs_0]; exact Nat.le_refl _
  | succ n => rw [chs_s]; omega
theorem chs_both (b n : Nat) : chs b n ≤ chs (b + 1) (n + 1) := by
  rw [chs_s]; omega
theorem chs_abs : ∀ b n, (n + 1) * chs (b + 1) (n + 1) = (b + 1) * chs b n := by
  intro b
  induction b with
  | zero =>
    intro n
    cases n with
    | zero => rfl
    | succ n => rw [chs_s, show chs 0 (n + 1) = 0 from rfl, show chs 0 (n + 1 + 1) = 0 from rfl, Nat.add_zero, Nat.mul_zero, Nat.mul_zero]
  | succ b ih =>
    intro n
    cases n with
    | zero =>
      have := ih 0
      rw [chs_0] at this
      rw [chs_s, chs_0]
      omega
    | succ m =>
      have h1 := ih m
      have h2 := ih (m + 1)
      rw [chs_s (b + 1) (m + 1), Nat.mul_add, h2, Nat.succ_mul, h1, chs_s b m]
      have e1 : (b + 1) * (chs b m + chs b (m + 1)) = (b + 1) * chs b m + (b + 1) * chs b (m + 1) := Nat.mul_add _ _ _
      have e2 : (b + 1 + 1) * (chs b m + chs b (m + 1)) = (b + 1) * (chs b m + chs b (m + 1)) + (chs b m + chs b (m + 1)) := Nat.succ_mul _ _
      omega
theorem chs_30 : chs 30 6 = 593775 := by
  have h0 := chs_0 24
  have h1 : (0 + 1) * chs 25 1 = (24 + 1) * chs 24 0 := chs_abs 24 0
  have h2 : (1 + 1) * chs 26 2 = (25 + 1) * chs 25 1 := chs_abs 25 1
  have h3 : (2 + 1) * chs 27 3 = (26 + 1) * chs 26 2 := chs_abs 26 2
  have h4 : (3 + 1) * chs 28 4 = (27 + 1) * chs 27 3 := chs_abs 27 3
  have h5 : (4 + 1) * chs 29 5 = (28 + 1) * chs 28 4 := chs_abs 28 4
  have h6 : (5 + 1) * chs 30 6 = (29 + 1) * chs 29 5 := chs_abs 29 5
  omega
theorem chs_le {p w : Nat} (hp : p ≤ 6) (hw : w ≤ 24) : chs (w + p) p ≤ 593775 := by
  have a : ∀ d, chs (w + p) p ≤ chs (w + p + d) (p + d) := by
    intro d
    induction d with
    | zero => exact Nat.le_refl _
    | succ d ih => exact Nat.le_trans ih (chs_both _ _)
  have b : ∀ d, chs (w + 6) 6 ≤ chs (w + 6 + d) 6 := by
    intro d
    induction d with
    | zero => exact Nat.le_refl _
    | succ d ih => exact Nat.le_trans ih (chs_up _ _)
  have a' := a (6 - p)
  have b' := b (24 - w)
  rw [show w + p + (6 - p) = w + 6 by omega, show p + (6 - p) = 6 by omega] at a'
  rw [show w + 6 + (24 - w) = 30 by omega, chs_30] at b'
  omega
theorem cnt_split (f : Nat → Bool) (a : Nat) : ∀ d, cntB f (a + d) = cntB f a + cntB (fun i => f (a + i)) d := by
  intro d
  induction d with
  | zero => rfl
  | succ d ih =>
    rw [show a + (d + 1) = a + d + 1 by omega, cnt_s, cnt_s, ih]
    omega
theorem popc_lo {b x : Nat} (h : x < 2 ^ b) : popc (b + 1) x = popc b x := by
  rw [popc_smm, popc_smm]
  show smm (fun i => if x.testBit i then 1 else 0) b + (if x.testBit b then 1 else 0) = _
  rw [Nat.testBit_lt_two_pow h, if_neg (by decide), Nat.add_zero]
theorem popc_hi {b x : Nat} (h : x < 2 ^ b) : popc (b + 1) (2 ^ b + x) = popc b x + 1 := by
  rw [popc_smm, popc_smm]
  show smm (fun i => if (2 ^ b + x).testBit i then 1 else 0) b + (if (2 ^ b + x).testBit b then 1 else 0) = _
  rw [tb_top h, if_pos rfl]
  congr 1
  exact smm_cong fun i hi => by rw [tb_add h hi]
theorem cnt_none {f : Nat → Bool} {n : Nat} (h : ∀ i, i < n → f i = false) : cntB f n = 0 := by
  have := cntB_dn (g := f) (n := n) (m := 0) (fun i _ hi => h i hi)
  omega
theorem chs_cnt : ∀ b n, cntB (fun x => decide (popc b x = n)) (2 ^ b) = chs b n := by
  intro b
  induction b with
  | zero =>
    intro n
    cases n with
    | zero => rfl
    | succ n =>
      refine cnt_none fun i _ => decide_eq_false fun e => ?_
      have : popc 0 i = 0 := rfl
      omega
  | succ b ih =>
    intro n
    rw [show 2 ^ (b + 1) = 2 ^ b + 2 ^ b by rw [Nat.pow_succ]; omega, cnt_split, cntB_cong (g := fun x => decide (popc b x = n)) fun i hi => by rw [popc_lo hi], ih]
    cases n with
    | zero =>
      rw [cnt_none fun i hi => decide_eq_false fun e => by rw [popc_hi hi] at e; omega, chs_0, chs_0]
    | succ n =>
      rw [cntB_cong (g := fun x => decide (popc b x = n)) fun i hi => by
        rw [popc_hi hi]
        exact decide_eq_decide.mpr (by omega), ih, chs_s]
      omega
def msk (p : Nat) (B : Nat → Nat) : Nat := orr (fun r => 2 ^ B r) p
theorem msk_bit {p : Nat} {B : Nat → Nat} {v : Nat} : (msk p B).testBit v = true ↔ inB p B v := by
  unfold msk
  rw [orr_bit]
  constructor
  · rintro ⟨r, r1, r2⟩
    rw [Nat.testBit_two_pow] at r2
    exact ⟨r, r1, of_decide_eq_true r2⟩
  · rintro ⟨r, r1, r2⟩
    refine ⟨r, r1, ?_⟩
    rw [Nat.testBit_two_pow]
    exact decide_eq_true r2
theorem msk_pc {b : Nat} {B : Nat → Nat} : ∀ p, (∀ r, r < p → B r < b) → (∀ r s, r < p → s < p → B r = B s → r = s) → popc b (msk p B) = p := by
  intro p
  induction p with
  | zero =>
    intro _ _
    have := cnt_none (f := fun i => (msk 0 B).testBit i) (n := b) fun i _ => Nat.zero_testBit i
    rw [popc_smm]
    exact this
  | succ p ih =>
    intro h1 h2
    have k := ih (fun r hr => h1 r (by omega)) (fun r s hr hs => h2 r s (by omega) (by omega))
    rw [popc_smm] at k ⊢
    rw [smm_split (g := fun i => if (msk p B).testBit i then 1 else 0) (h := fun i => if i = B p then 1 else 0) (fun i hi => ?_), k, smm_one1 (h1 p (by omega))]
    have e : (msk (p + 1) B).testBit i = ((msk p B).testBit i || decide (B p = i)) := by
      show (msk p B ||| 2 ^ B p).testBit i = _
      rw [Nat.testBit_or, Nat.testBit_two_pow]
    rw [e]
    by_cases c : B p = i
    · have f : (msk p B).testBit i = false := by
        cases q : (msk p B).testBit i with
        | false => rfl
        | true =>
          obtain ⟨r, r1, r2⟩ := msk_bit.mp q
          have := h2 r p (by omega) (by omega) (r2.trans c.symm)
          omega
      rw [f, decide_eq_true c, if_pos c.symm]
      rfl
    · rw [decide_eq_false c, Bool.or_false, if_neg (show ¬ i = B p from fun z => c z.symm), Nat.add_zero]
theorem run_few {A : Nat → Nat → Int} {p w : Nat} {S : Nat → Nat → Nat} {cl rr : Nat → Nat} {K : Nat} (hp : p ≤ 6) (hw : w ≤ 24) (h : Run A p w S cl rr K) : K + 1 ≤ 593775 := by
  have inj : ∀ i j, i ≤ K → j ≤ K → msk p (S i) = msk p (S j) → i = j := by
    have one : ∀ i j, i < j → j ≤ K → msk p (S i) ≠ msk p (S j) := fun i j hij hj e => no_again h hij hj fun v => by
      rw [← msk_bit, ← msk_bit, e]
    intro i j hi hj e
    rcases Nat.lt_trichotomy i j with q | q | q
    · exact absurd e (one i j q hj)
    · exact q
    · exact absurd e.symm (one j i q hi)
  have k := inj_cnt (p := fun x => decide (popc (w + p) x = p)) (h := fun x => Classical.epsilon fun r => r ≤ K ∧ msk p (S r) = x) (2 ^ (w + p)) (K + 1) (fun _ => true) (fun r hr _ => by
    have ok := h.ok r (by omega)
    refine ⟨msk p (S r), ?_, ?_, ?_⟩
    · exact orr_lt fun i hi => Nat.pow_lt_pow_right (by omega) (ok.2.2.2.1 i hi)
    · exact decide_eq_true (msk_pc p ok.2.2.2.1 ok.2.2.2.2.1)
    · have sp := Classical.epsilon_spec (p := fun r' => r' ≤ K ∧ msk p (S r') = msk p (S r)) ⟨r, by omega, rfl⟩
      exact inj _ _ sp.1 (by omega) sp.2)
  rw [cntB_all fun _ _ => rfl, chs_cnt] at k
  have := chs_le hp hw
  omega
theorem least_ex {P : Nat → Prop} : ∀ n, P n → ∃ x, P x ∧ ∀ y, y < x → ¬ P y := by
  intro n
  induction n using Nat.strongRecOn with
  | _ n ih =>
    intro h
    by_cases c : ∃ y, y < n ∧ P y
    · obtain ⟨y, y1, y2⟩ := c
      exact ih y y1 y2
    · exact ⟨n, h, fun y hy py => c ⟨y, hy, py⟩⟩
theorem run_end {A : Nat → Nat → Int} {p w : Nat} (hp0 : 0 < p) (hp : p ≤ 6) (hw : w ≤ 24) (hA : ∀ c i, c < w → i < p → 0 < A c i) : ∃ K S cl rr, K < 593776 ∧ Run A p w S cl rr K ∧ ∀ c, c < w + p → 0 ≤ gT A p w (S K) p c := by
  have key : ∀ n, (∃ S cl rr, Run A p w S cl rr n) ∨ ∃ K S cl rr, K < n ∧ Run A p w S cl rr K ∧ ∀ c, c < w + p → 0 ≤ gT A p w (S K) p c := by
    intro n
    induction n with
    | zero => exact Or.inl ⟨fun _ => gB0 p w, fun _ => 0, fun _ => 0, rfl, fun k hk => absurd hk (Nat.not_lt_zero k)⟩
    | succ n ih =>
      rcases ih with ⟨S, cl, rr, h⟩ | ⟨K, S, cl, rr, hK, h⟩
      · by_cases c : ∀ c, c < w + p → 0 ≤ gT A p w (S n) p c
        · exact Or.inr ⟨n, S, cl, rr, by omega, h, c⟩
        · obtain ⟨c0, hc0⟩ : ∃ c, ¬ (c < w + p → 0 ≤ gT A p w (S n) p c) := Classical.not_forall.mp c
          obtain ⟨col, e1, e2⟩ := least_ex (P := fun c => c < w + p ∧ gT A p w (S n) p c < 0) c0 (by
            have a : c0 < w + p := Classical.byContradiction fun z => hc0 fun q => absurd q z
            exact ⟨a, Int.not_le.mp fun z => hc0 fun _ => z⟩)
          have ent : Ent A p w (S n) col := ⟨e1.1, e1.2, fun c hc => Int.not_lt.mp fun z => e2 c hc ⟨by have := e1.1; omega, z⟩⟩
          obtain ⟨row, lev⟩ := lev_ex hp0 hA (h.ok n (Nat.le_refl _)) ent
          refine Or.inl ⟨fun k => if k ≤ n then S k else pv (S n) row col, fun k => if k < n then cl k else col, fun k => if k < n then rr k else row, ?_, fun k hk => ?_⟩
          · show (if 0 ≤ n then S 0 else _) = _
            rw [if_pos (Nat.zero_le _)]
            exact h.1
          · show Ent A p w (if k ≤ n then S k else _) (if k < n then cl k else col) ∧ Lev A p w (if k ≤ n then S k else _) (if k < n then cl k else col) (if k < n then rr k else row) ∧ (if k + 1 ≤ n then S (k + 1) else pv (S n) row col) = pv (if k ≤ n then S k else _) (if k < n then rr k else row) (if k < n then cl k else col)
            rw [if_pos (show k ≤ n by omega)]
            by_cases q : k < n
            · rw [if_pos q, if_pos q, if_pos (show k + 1 ≤ n by omega)]
              exact h.2 k q
            · rw [if_neg q, if_neg q, if_neg (show ¬ k + 1 ≤ n by omega), show k = n by omega]
              exact ⟨ent, lev, rfl⟩
      · exact Or.inr ⟨K, S, cl, rr, by omega, h⟩
  rcases key 593776 with ⟨S, cl, rr, h⟩ | h
  · have := run_few hp hw h
    omega
  · exact h
/-- a turn is told by its table -/
theorem ent_one {A : Nat → Nat → Int} {p w : Nat} {B : Nat → Nat} {c d : Nat} (h : Ent A p w B c) (g : Ent A p w B d) : c = d := by
  rcases Nat.lt_trichotomy c d with q | q | q
  · have := g.2.2 c q; have := h.2.1; omega
  · exact q
  · have := h.2.2 d q; have := g.2.1; omega
theorem lev_one {A : Nat → Nat → Int} {p w : Nat} {B : Nat → Nat} {col r s : Nat} (ok : OkB A p w B) (h : Lev A p w B col r) (g : Lev A p w B col s) : r = s := by
  have a := h.2.2 s g.1 g.2.1
  have b := g.2.2 r h.1 h.2.1
  unfold bet at a b
  exact ok.2.2.2.2.1 r s h.1 g.1 (by omega)
