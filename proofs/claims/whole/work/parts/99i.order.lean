/-! The class's order is the reference's. -/
def XT (E : Nat → Nat → Nat) (n m0 : Nat) (st : Nat → Nat) (u : St) : Prop := gI u 905 = jn n ∧ gN u 904 = 7 ∧ gN u 907 = 128 ∧ 601 * n ≤ gN u 906 ∧ gN u 906 ≤ 8414 ∧ (∀ c, c < n → gA u 904 c = jn (st c)) ∧ ∀ c, c < n → ∀ a, m0 ≤ a → a ≤ 600 → gA u 906 (601 * c + a) = jn (E c a)
theorem XT.to {E : Nat → Nat → Nat} {n m0 : Nat} {st : Nat → Nat} {u u' : St} (h : XT E n m0 st u) (f : fx [907] [] u u') : XT E n m0 st u' := by
  obtain ⟨h1, h2, h3, h4, h5, h6, h7⟩ := h
  unfold XT
  rw [(f.1 905 rfl).1, f.2 904 rfl, f.2 907 rfl, f.2 906 rfl, (f.1 904 rfl).2.2.1, (f.1 906 rfl).2.2.1]
  exact ⟨h1, h2, h3, h4, h5, h6, h7⟩
theorem find_congr {p q : Nat → Bool} : ∀ {l : List Nat}, (∀ c ∈ l, p c = q c) → l.find? p = l.find? q
  | [], _ => rfl
  | c :: l, h => by
    have h0 := h c List.mem_cons_self
    have ih := find_congr (l := l) fun d hd => h d (List.mem_cons_of_mem _ hd)
    cases e : p c with
    | true => rw [List.find?_cons_of_pos e, List.find?_cons_of_pos (by rw [← h0]; exact e)]
    | false => rw [List.find?_cons_of_neg (by rw [e]; simp), List.find?_cons_of_neg (by rw [← h0, e]; simp), ih]
theorem x_first {E : Nat → Nat → Nat} (hE : EM E) {n m0 now fin left : Nat} {st : Nat → Nat} (hn7 : n ≤ 7) (hleft : left < 2 ^ n) (hnow1 : m0 ≤ now) (hnow2 : now ≤ 600) (hfin : fin < 601) : ∀ k, k ≤ n → ∀ u, XT E n m0 st u → ∃ u', fx [907] [] u u' ∧ lp (fun x : Int32 × St => x9_firstToGo_B3 (jn left) (jn now) (jn fin) x.1 x.2) (jn (n - k), u) = some (match (rsL left n k).find? (fun c => vl E n (E c now) (clr left c) == fin) with | some c => .inl (jn c, u') | none => .inr u') := by
  have p7 : 2 ^ n ≤ 128 := Nat.pow_le_pow_right (n := 2) (by omega) hn7
  intro k
  induction k with
  | zero =>
    intro _ u hu
    refine ⟨u, fx.rfl, lp_r ?_⟩
    rw [Nat.sub_zero]
    dsimp only
    unfold x9_firstToGo_B3
    rw [hu.1, if_pos (lee (by omega))]
    rfl
  | succ k ih =>
    intro hk u hu
    have hc : n - (k + 1) < n := by omega
    have en : n - (k + 1) + 1 = n - k := by omega
    have hr : rsL left n (k + 1) = if left.testBit (n - (k + 1)) then (n - (k + 1)) :: rsL left n k else rsL left n k := rfl
    by_cases hb : left.testBit (n - (k + 1)) = true
    · rw [if_pos hb] at hr
      rw [hr]
      have hcl := clr_lt hb
      have cap := hE.2.1 (n - (k + 1)) now
      have ge := hE.2.2.2 (n - (k + 1)) now (by omega)
      have head : (fun x : Int32 × St => x9_firstToGo_B3 (jn left) (jn now) (jn fin) x.1 x.2) (jn (n - (k + 1)), u) = if jn fin < jn (E (n - (k + 1)) now) then some (.inl (jn (n - k), u)) else (x9_soonestEnd u (jn (clr left (n - (k + 1)))) (jn (E (n - (k + 1)) now))).bind (fun q7 => if q7.1 = jn fin then (some (.inr (.inl (jn (n - (k + 1)), q7.2)))) else some (.inl (jn (n - k), q7.2))) := by
        dsimp only
        unfold x9_firstToGo_B3
        rw [hu.1, if_neg (nle hc (by omega)), if_neg (fun e => by rw [(bit_iff0 (by omega) (by omega)).mp e] at hb; cases hb), show (601 : Int32) = jn 601 from rfl, jn_mul, jn_add, show (n - (k + 1)) * 601 + now = 601 * (n - (k + 1)) + now by omega, gd_jn (by have := hu.2.2.2.1; omega) (by omega), jn_cl (by omega), hu.2.2.2.2.2.2 _ hc now hnow1 hnow2, jn_clr (by omega) (by omega) hb]
        simp only [nm, jn_s]
        rw [en]
      by_cases q : fin < E (n - (k + 1)) now
      · have nf : ¬ (vl E n (E (n - (k + 1)) now) (clr left (n - (k + 1))) == fin) = true := by
          have := mla_ge hE (csL (clr left (n - (k + 1))) n).length (csL (clr left (n - (k + 1))) n) (E (n - (k + 1)) now) cap
          have e : E (n - (k + 1)) now ≤ vl E n (E (n - (k + 1)) now) (clr left (n - (k + 1))) := this
          simp
          omega
        rw [if_pos ((jn_lt (by omega) (by omega)).mpr q)] at head
        have hf : ((n - (k + 1)) :: rsL left n k).find? (fun c => vl E n (E c now) (clr left c) == fin) = (rsL left n k).find? (fun c => vl E n (E c now) (clr left c) == fin) := List.find?_cons_of_neg (p := fun c => vl E n (E c now) (clr left c) == fin) nf
        rw [hf, lp_l (b := fun x : Int32 × St => x9_firstToGo_B3 (jn left) (jn now) (jn fin) x.1 x.2) head]
        exact ih (by omega) u hu
      · rw [if_neg (fun e => q ((jn_lt (by omega) (by omega)).mp e))] at head
        obtain ⟨u1, k1, k2⟩ := x_soonest hE (u := u) (n := n) (minute := E (n - (k + 1)) now) (m0 := m0) (left := clr left (n - (k + 1))) hn7 hu.1 hu.2.2.1 hu.2.2.2.1 hu.2.2.2.2.1 (by omega) cap hu.2.2.2.2.2.2 (by omega)
        rw [k1, bs] at head
        have vcap := vl_cap (E := E) (n := n) (part := clr left (n - (k + 1))) cap
        by_cases q2 : vl E n (E (n - (k + 1)) now) (clr left (n - (k + 1))) = fin
        · rw [if_pos (by rw [q2])] at head
          have hf : ((n - (k + 1)) :: rsL left n k).find? (fun c => vl E n (E c now) (clr left c) == fin) = some (n - (k + 1)) := List.find?_cons_of_pos (p := fun c => vl E n (E c now) (clr left c) == fin) (by simp [q2])
          rw [hf]
          exact ⟨u1, k2, lp_r head⟩
        · rw [if_neg (fun e => q2 ((jn_inj (by omega) (by omega)).mp e))] at head
          have hf : ((n - (k + 1)) :: rsL left n k).find? (fun c => vl E n (E c now) (clr left c) == fin) = (rsL left n k).find? (fun c => vl E n (E c now) (clr left c) == fin) := List.find?_cons_of_neg (p := fun c => vl E n (E c now) (clr left c) == fin) (by simp [q2])
          rw [hf, lp_l (b := fun x : Int32 × St => x9_firstToGo_B3 (jn left) (jn now) (jn fin) x.1 x.2) head]
          obtain ⟨u2, j1, j2⟩ := ih (by omega) u1 (hu.to k2)
          exact ⟨u2, k2.trans j1, j2⟩
    · rw [if_neg hb] at hr
      rw [hr]
      have hb2 : left.testBit (n - (k + 1)) = false := by cases e : left.testBit (n - (k + 1)) with | false => rfl | true => exact absurd e hb
      have head : (fun x : Int32 × St => x9_firstToGo_B3 (jn left) (jn now) (jn fin) x.1 x.2) (jn (n - (k + 1)), u) = some (.inl (jn (n - k), u)) := by
        dsimp only
        unfold x9_firstToGo_B3
        rw [hu.1, if_neg (nle hc (by omega)), if_pos ((bit_iff0 (by omega) (by omega)).mpr hb2)]
        simp only [nm, jn_s]
        rw [en]
      rw [lp_l (b := fun x : Int32 × St => x9_firstToGo_B3 (jn left) (jn now) (jn fin) x.1 x.2) head]
      exact ih (by omega) u hu
theorem mnF_att {f : Nat → Nat} : ∀ {l : List Nat}, mnF f l < 601 → ∃ c ∈ l, f c = mnF f l
  | [], h => absurd h (by show ¬ 601 < 601; omega)
  | c :: l, h => by
    have e : mnF f (c :: l) = min (f c) (mnF f l) := rfl
    rcases Nat.le_total (f c) (mnF f l) with q | q
    · rw [e, Nat.min_eq_left q]
      exact ⟨c, List.mem_cons_self, rfl⟩
    · rw [e, Nat.min_eq_right q] at h ⊢
      obtain ⟨d, hd, hd2⟩ := mnF_att h
      exact ⟨d, List.mem_cons_of_mem _ hd, hd2⟩
/-- the first step of the best order, where there is one -/
theorem x_go {E : Nat → Nat → Nat} (hE : EM E) {n m0 now fin left m : Nat} {st : Nat → Nat} (hn7 : n ≤ 7) (hleft : left < 2 ^ n) (hnow1 : m0 ≤ now) (hnow2 : now ≤ 600) (hfin : fin < 601) (hl : (csL left n).length = m + 1) (hv : mfe E (m + 1) (csL left n) now = fin) {u : St} (hu : XT E n m0 st u) : ∃ c u', x9_firstToGo u (jn left) (jn now) (jn fin) = some (jn c, u') ∧ fx [907] [] u u' ∧ c < n ∧ left.testBit c = true ∧ mfe E m ((csL left n).erase c) (E c now) = fin ∧ grd E (m + 1) (csL left n) now fin = c :: grd E m ((csL left n).erase c) (E c now) fin := by
  have cg : ∀ c ∈ csL left n, (vl E n (E c now) (clr left c) == fin) = (mfe E m ((csL left n).erase c) (E c now) == fin) := by
    intro c hc
    have hb := (csL_mem.mp hc).2
    have hlen : ((csL left n).erase c).length = m := by rw [List.length_erase_of_mem hc]; omega
    unfold vl
    rw [csL_clr hb, hlen, mfe_mla hE m _ _ ((csL_nodup left n).erase c) hlen]
  obtain ⟨u', k1, k2⟩ := x_first hE (st := st) hn7 hleft hnow1 hnow2 hfin n (Nat.le_refl n) u hu
  rw [Nat.sub_self, rsL_all, find_congr cg] at k2
  have hg : ∃ c, (csL left n).find? (fun c => mfe E m ((csL left n).erase c) (E c now) == fin) = some c := by
    obtain ⟨d, hd, hd2⟩ := mnF_att (f := fun c => mfe E m ((csL left n).erase c) (E c now)) (l := csL left n) (by
      have : mnF (fun c => mfe E m ((csL left n).erase c) (E c now)) (csL left n) = fin := hv
      omega)
    have e : mfe E m ((csL left n).erase d) (E d now) = fin := hd2.trans hv
    cases hf : (csL left n).find? (fun c => mfe E m ((csL left n).erase c) (E c now) == fin) with
    | some c => exact ⟨c, rfl⟩
    | none =>
      have := List.find?_eq_none.mp hf d hd
      exact absurd e (by simpa using this)
  obtain ⟨c, hc⟩ := hg
  have hm := List.mem_of_find?_eq_some hc
  have hp := List.find?_some hc
  have hcm := csL_mem.mp hm
  refine ⟨c, u', ?_, k1, hcm.1, hcm.2, by simpa using hp, ?_⟩
  · unfold x9_firstToGo
    rw [hc] at k2
    rw [show (0 : Int32) = jn 0 from rfl, k2, bs]
    rfl
  · show (match (csL left n).find? (fun c => mfe E m ((csL left n).erase c) (E c now) == fin) with | some c => c :: grd E m ((csL left n).erase c) (E c now) fin | none => []) = _
    rw [hc]
theorem x_steps {E : Nat → Nat → Nat} (hE : EM E) {n m0 fin i : Nat} {st : Nat → Nat} (hn7 : n ≤ 7) (hi : i < n) (hfin : fin < 601) : ∀ d a left now u, a + d = i → left < 2 ^ n → m0 ≤ now → now ≤ 600 → (csL left n).length = n - a → mfe E (n - a) (csL left n) now = fin → XT E n m0 st u → ∃ left' now' u', lp (fun x : Int32 × Int32 × Int32 × St => x9_stepInOrder_B49 (jn i) (jn fin) x.1 x.2.1 x.2.2.1 x.2.2.2) (jn left, jn now, jn a, u) = some (.inr (jn left', jn now', u')) ∧ fx [907] [] u u' ∧ left' < 2 ^ n ∧ m0 ≤ now' ∧ now' ≤ 600 ∧ (csL left' n).length = n - i ∧ mfe E (n - i) (csL left' n) now' = fin ∧ (grd E (n - a) (csL left n) now fin).getD d 0 = (grd E (n - i) (csL left' n) now' fin).getD 0 0 := by
  have p7 : 2 ^ n ≤ 128 := Nat.pow_le_pow_right (n := 2) (by omega) hn7
  intro d
  induction d with
  | zero =>
    intro a left now u ha h1 h2 h3 h4 h5 hu
    have : a = i := by omega
    subst this
    refine ⟨left, now, u, lp_r ?_, fx.rfl, h1, h2, h3, h4, h5, rfl⟩
    dsimp only
    unfold x9_stepInOrder_B49
    rw [if_pos (lee (by omega))]
  | succ d ih =>
    intro a left now u ha h1 h2 h3 h4 h5 hu
    obtain ⟨m, hm⟩ : ∃ m, n - a = m + 1 := ⟨n - a - 1, by omega⟩
    rw [hm] at h4 h5
    obtain ⟨c, u1, k1, k2, k3, k4, k5, k6⟩ := x_go hE hn7 h1 h2 h3 hfin h4 h5 hu
    have cap := hE.2.1 c now
    have ge := hE.2.2.2 c now (by omega)
    have gm := mfe_ge hE m ((csL left n).erase c) (E c now) cap
    have hu1 := hu.to k2
    have hcl := clr_lt k4
    have head : (fun x : Int32 × Int32 × Int32 × St => x9_stepInOrder_B49 (jn i) (jn fin) x.1 x.2.1 x.2.2.1 x.2.2.2) (jn left, jn now, jn a, u) = some (.inl (jn (clr left c), jn (E c now), jn (a + 1), u1)) := by
      dsimp only
      unfold x9_stepInOrder_B49
      rw [if_neg (nle (by omega) (by omega)), k1, bs, if_pos (jn_nn (by omega)), show (601 : Int32) = jn 601 from rfl]
      simp only [nm, jn_s]
      rw [jn_mul, jn_add, show c * 601 + now = 601 * c + now by omega, gd_jn (by have := hu1.2.2.2.1; omega) (by omega), jn_cl (by omega), hu1.2.2.2.2.2.2 c k3 now h2 h3, jn_clr (by omega) (by omega) k4]
    have hmem : c ∈ csL left n := csL_mem.mpr ⟨k3, k4⟩
    have hlen : ((csL left n).erase c).length = m := by rw [List.length_erase_of_mem hmem]; omega
    have hm2 : n - (a + 1) = m := by omega
    obtain ⟨left', now', u2, j1, j2, j3, j4, j5, j6, j7, j8⟩ := ih (a + 1) (clr left c) (E c now) u1 (by omega) (by omega) (by omega) (by omega) (by rw [csL_clr k4, hm2]; exact hlen) (by rw [csL_clr k4, hm2]; exact k5) hu1
    refine ⟨left', now', u2, ?_, k2.trans j2, j3, j4, j5, j6, j7, ?_⟩
    · rw [lp_l (b := fun x : Int32 × Int32 × Int32 × St => x9_stepInOrder_B49 (jn i) (jn fin) x.1 x.2.1 x.2.2.1 x.2.2.2) head]
      exact j1
    · rw [hm, k6, ← j8, hm2, csL_clr k4]
      rfl
theorem csL_full (n : Nat) : csL (2 ^ n - 1) n = List.range n := by
  unfold csL
  rw [List.filter_eq_self]
  intro i hi
  rw [Nat.testBit_two_pow_sub_one]
  simpa using List.mem_range.mp hi
theorem full_eq {n : Nat} (h : n ≤ 7) : (1 : Int32) <<< (jn n &&& 31) - 1 = jn (2 ^ n - 1) := by
  rw [jn_shl1 n (by omega)]
  exact jn_sub (a := 2 ^ n) (b := 1) (Nat.two_pow_pos n)
theorem op_end {tx tm : St} (hH : RH tx tm) (hB : RB tx tm) (hW : RW tx) (a1 a2 : Int32) : ∃ r tx' tm', x11_end tx a1 a2 = some (r, tx') ∧ m_end tm a1 a2 = some (r, tm') ∧ gN tx' 906 ≤ 8414 := by
  have w6 : gN tx 906 ≤ 8414 := hW.2.2.2
  unfold x11_end m_end m_whyOrder m_isSet
  rcases io a1 0 65535 with ⟨set, l1, u1, rfl⟩ | n1
  · have e1 : ∀ t, x11_outside t (jn set) 0 65535 = some 0 := oT l1 u1 (by decide)
    have f1 : ∀ t, m_in t (jn set) 0 65535 = some 1 := iT l1 u1 (by decide)
    simp only [e1, f1, bs, z0, o0, if_true]
    rcases io a2 0 600 with ⟨minute, l2, u2, rfl⟩ | n2
    · have e2 : ∀ t, x11_outside t (jn minute) 0 600 = some 0 := oT l2 u2 (by decide)
      have f2 : ∀ t, m_in t (jn minute) 0 600 = some 1 := iT l2 u2 (by decide)
      simp only [e2, f2, bs, z0, o0, if_true]
      rw [bitCount_eq tx (show set < 65536 by omega), m_sizeOf_pc tm (show set < 65536 by omega), bs, bs, ← pc_len]
      have hmono : (csL set 16).length ≤ 16 := by
        have := List.length_filter_le (fun i => set.testBit i) (List.range 16)
        rw [List.length_range] at this
        exact this
      by_cases g : (csL set 16).length ≤ 7
      · have g' : jn (csL set 16).length ≤ (7 : Int32) := (jn_le (b := 7) (by omega) (by omega)).mpr g
        rw [if_pos g', if_pos g', bs, if_pos rfl]
        have hE := Eb_EM hH hB (fun c => (csL set 16).getD c 0) (fun c => csL_getlt set c)
        obtain ⟨tm', k, k1, -⟩ := m_findOrder_eq hH hB (minute := minute) (set := set) u2 (by omega) g
        obtain ⟨tx1, j, j0⟩ := x_prepare hH hB hW (minute := minute) (set := set) u2 (by omega) g
        obtain ⟨j1, j2, j3, j4, j5, j6⟩ := j0
        obtain ⟨tx2, s, s1⟩ := x_soonest hE (u := tx1) (minute := minute) (m0 := minute) (left := 2 ^ (csL set 16).length - 1) g j1 j3 j4 j5 (Nat.le_refl _) (by omega) (fun c hc a h1 h2 => (j6 c hc).2 a h1 h2) (by have := Nat.two_pow_pos (csL set 16).length; omega)
        have ev : vl (fun c a => Eb tm ((csL set 16).getD c 0) a) (csL set 16).length minute (2 ^ (csL set 16).length - 1) = mfe (fun c a => Eb tm ((csL set 16).getD c 0) a) (csL set 16).length (List.range (csL set 16).length) minute := by
          unfold vl
          rw [csL_full, List.length_range, mfe_mla hE _ _ _ List.nodup_range List.length_range]
        rw [ev] at s
        have cap := mfe_cap (E := fun c a => Eb tm ((csL set 16).getD c 0) a) (csL set 16).length (List.range (csL set 16).length) minute (by omega)
        refine ⟨_, tx2, tm', ?_, by rw [k, bs, k1], by rw [s1.2 906 rfl]; exact j5⟩
        unfold x9_bestEnd x9_bestEnd_J6
        rw [j, bs, j1, full_eq g, s, bs]
        by_cases q : 601 ≤ mfe (fun c a => Eb tm ((csL set 16).getD c 0) a) (csL set 16).length (List.range (csL set 16).length) minute
        · have q' : (601 : Int32) ≤ jn (mfe (fun c a => Eb tm ((csL set 16).getD c 0) a) (csL set 16).length (List.range (csL set 16).length) minute) := (jn_le (a := 601) (by omega) (by omega)).mpr q
          rw [if_pos q', bs, enc_no q]
          rfl
        · have q' : ¬ (601 : Int32) ≤ jn (mfe (fun c a => Eb tm ((csL set 16).getD c 0) a) (csL set 16).length (List.range (csL set 16).length) minute) := fun e => q ((jn_le (a := 601) (by omega) (by omega)).mp e)
          rw [if_neg q', bs, enc_ne (by omega)]
          rfl
      · have g' : ¬ jn (csL set 16).length ≤ (7 : Int32) := fun e => g ((jn_le (b := 7) (by omega) (by omega)).mp e)
        rw [if_neg g', if_neg g', bs, if_neg (by decide)]
        exact ⟨-3, tx, tm, rfl, rfl, w6⟩
    · have e2 : ∀ t, x11_outside t a2 0 600 = some 1 := oF n2
      have f2 : ∀ t, m_in t a2 0 600 = some 0 := iF n2
      exact ⟨-2, tx, tm, by simp only [e2, bs, o0, if_true], by simp only [f2, bs, z0, if_true]; rw [if_neg (by decide)], w6⟩
  · have e1 : ∀ t, x11_outside t a1 0 65535 = some 1 := oF n1
    have f1 : ∀ t, m_in t a1 0 65535 = some 0 := iF n1
    exact ⟨-2, tx, tm, by simp only [e1, bs, o0, if_true], by simp only [f1, bs, z0, if_true]; rw [if_neg (by decide)], w6⟩
theorem op_orderAt {tx tm : St} (hH : RH tx tm) (hB : RB tx tm) (hW : RW tx) (a1 a2 a3 : Int32) : ∃ r tx' tm', x11_orderAt tx a1 a2 a3 = some (r, tx') ∧ m_orderAt tm a1 a2 a3 = some (r, tm') ∧ gN tx' 906 ≤ 8414 := by
  have w6 : gN tx 906 ≤ 8414 := hW.2.2.2
  unfold x11_orderAt m_orderAt m_orderAt_J11 m_whyOrder m_isSet
  rcases io a1 0 65535 with ⟨set, l1, u1, rfl⟩ | n1
  · have e1 : ∀ t, x11_outside t (jn set) 0 65535 = some 0 := oT l1 u1 (by decide)
    have f1 : ∀ t, m_in t (jn set) 0 65535 = some 1 := iT l1 u1 (by decide)
    simp only [e1, f1, bs, z0, o0, if_true]
    rcases io a2 0 600 with ⟨minute, l2, u2, rfl⟩ | n2
    · have e2 : ∀ t, x11_outside t (jn minute) 0 600 = some 0 := oT l2 u2 (by decide)
      have f2 : ∀ t, m_in t (jn minute) 0 600 = some 1 := iT l2 u2 (by decide)
      simp only [e2, f2, bs, z0, o0, if_true]
      by_cases ga : 0 ≤ a3
      · obtain ⟨i, hi0, rfl⟩ := ex_jn ga
        rw [if_pos ga, if_neg (jn_neg hi0)]
        rw [bitCount_eq tx (show set < 65536 by omega), m_sizeOf_pc tm (show set < 65536 by omega), bs, bs, ← pc_len]
        have hmono : (csL set 16).length ≤ 16 := by
          have := List.length_filter_le (fun i => set.testBit i) (List.range 16)
          rw [List.length_range] at this
          exact this
        by_cases g : (csL set 16).length ≤ 7
        · have g' : jn (csL set 16).length ≤ (7 : Int32) := (jn_le (b := 7) (by omega) (by omega)).mpr g
          rw [if_pos g', if_pos g', bs, if_pos rfl]
          have hE := Eb_EM hH hB (fun c => (csL set 16).getD c 0) (fun c => csL_getlt set c)
          obtain ⟨tm', k, k1, k64⟩ := m_findOrder_eq hH hB (minute := minute) (set := set) u2 (by omega) g
          obtain ⟨tx1, j, j0⟩ := x_prepare hH hB hW (minute := minute) (set := set) u2 (by omega) g
          obtain ⟨j1, j2, j3, j4, j5, j6⟩ := j0
          have xt : XT (fun c a => Eb tm ((csL set 16).getD c 0) a) (csL set 16).length minute (fun c => (csL set 16).getD c 0) tx1 := ⟨j1, j2, j3, j4, j5, fun c hc => (j6 c hc).1, fun c hc a h1 h2 => (j6 c hc).2 a h1 h2⟩
          have hfull : 2 ^ (csL set 16).length - 1 < 2 ^ (csL set 16).length := by have := Nat.two_pow_pos (csL set 16).length; omega
          obtain ⟨tx2, s, s1⟩ := x_soonest hE (u := tx1) (minute := minute) (m0 := minute) (left := 2 ^ (csL set 16).length - 1) g j1 j3 j4 j5 (Nat.le_refl _) (by omega) (fun c hc a h1 h2 => (j6 c hc).2 a h1 h2) hfull
          have ev : vl (fun c a => Eb tm ((csL set 16).getD c 0) a) (csL set 16).length minute (2 ^ (csL set 16).length - 1) = mfe (fun c a => Eb tm ((csL set 16).getD c 0) a) (csL set 16).length (List.range (csL set 16).length) minute := by
            unfold vl
            rw [csL_full, List.length_range, mfe_mla hE _ _ _ List.nodup_range List.length_range]
          rw [ev] at s
          have cap := mfe_cap (E := fun c a => Eb tm ((csL set 16).getD c 0) a) (csL set 16).length (List.range (csL set 16).length) minute (by omega)
          rw [k, bs, k1]
          unfold x9_stepInOrder x9_stepInOrder_J6
          rw [j, bs, j1, full_eq g]
          simp only [nm]
          rw [s, bs]
          have xt2 := xt.to s1
          by_cases q : 601 ≤ mfe (fun c a => Eb tm ((csL set 16).getD c 0) a) (csL set 16).length (List.range (csL set 16).length) minute
          · have q' : (601 : Int32) ≤ jn (mfe (fun c a => Eb tm ((csL set 16).getD c 0) a) (csL set 16).length (List.range (csL set 16).length) minute) := (jn_le (a := 601) (by omega) (by omega)).mpr q
            rw [if_pos q', bs, enc_no q, if_pos rfl]
            exact ⟨-1, tx2, tm', rfl, rfl, xt2.2.2.2.2.1⟩
          · have q' : ¬ (601 : Int32) ≤ jn (mfe (fun c a => Eb tm ((csL set 16).getD c 0) a) (csL set 16).length (List.range (csL set 16).length) minute) := fun e => q ((jn_le (a := 601) (by omega) (by omega)).mp e)
            have q0 : mfe (fun c a => Eb tm ((csL set 16).getD c 0) a) (csL set 16).length (List.range (csL set 16).length) minute < 601 := by omega
            rw [if_neg q', enc_ne q0, if_neg (jn_ne1 (by omega)), m_sizeOf_pc tm' (show set < 65536 by omega), bs, ← pc_len]
            dsimp only
            rw [xt2.1]
            by_cases qi : i < (csL set 16).length
            · rw [if_pos ((jn_lt (by omega) (by omega)).mpr qi), if_neg (nle qi (by omega)), gd_jn (by omega) (by omega), jn_cl (by omega), k64 q0 i qi]
              obtain ⟨left', now', tx3, y1, y2, y3, y4, y5, y6, y7, y8⟩ := x_steps hE (m0 := minute) (i := i) g qi q0 i 0 (2 ^ (csL set 16).length - 1) minute tx2 (by omega) hfull (Nat.le_refl _) u2 (by rw [csL_full, List.length_range, Nat.sub_zero]) (by rw [csL_full, Nat.sub_zero]) xt2
              rw [show (0 : Int32) = jn 0 from rfl, y1, bs]
              obtain ⟨m, hm⟩ : ∃ m, (csL set 16).length - i = m + 1 := ⟨(csL set 16).length - i - 1, by omega⟩
              have xt3 := xt2.to y2
              rw [hm] at y6 y7 y8
              obtain ⟨c, tx4, v1, v2, v3, v4, v5, v6⟩ := x_go hE g y3 y4 y5 q0 y6 y7 xt3
              have xt4 := xt3.to v2
              show ∃ r tx' tm'', ((x9_firstToGo tx3 (jn left') (jn now') (jn _)).bind _).bind _ = some (r, tx') ∧ _
              rw [v1, bs]
              dsimp only
              rw [show jn 0 = (0 : Int32) from rfl, if_pos (jn_nn (by omega)), xt4.2.1, gd_jn (by omega) (by omega), jn_cl (by omega), xt4.2.2.2.2.2.1 c v3, bs]
              refine ⟨_, tx4, tm', rfl, ?_, xt4.2.2.2.2.1⟩
              rw [csL_full, Nat.sub_zero] at y8
              rw [y8, v6]
              rfl
            · rw [if_neg (fun e => qi ((jn_lt (by omega) (by omega)).mp e)), if_pos ((jn_le (by omega) (by omega)).mpr (by omega))]
              exact ⟨-1, tx2, tm', rfl, rfl, xt2.2.2.2.2.1⟩
        · have g' : ¬ jn (csL set 16).length ≤ (7 : Int32) := fun e => g ((jn_le (b := 7) (by omega) (by omega)).mp e)
          rw [if_neg g', if_neg g', bs, if_neg (by decide)]
          exact ⟨-3, tx, tm, rfl, rfl, w6⟩
      · have ga2 : a3 < 0 := by
          rw [Int32.le_iff_toInt_le] at ga
          rw [Int32.lt_iff_toInt_lt]
          omega
        rw [if_neg ga, if_pos ga2]
        exact ⟨-2, tx, tm, rfl, by rw [if_neg (by decide)], w6⟩
    · have e2 : ∀ t, x11_outside t a2 0 600 = some 1 := oF n2
      have f2 : ∀ t, m_in t a2 0 600 = some 0 := iF n2
      refine ⟨-2, tx, tm, by simp only [e2, bs, o0, if_true], ?_, w6⟩
      by_cases ga : a3 < 0
      · rw [if_pos ga]
        simp only [f2, bs, z0, if_true]
        rw [if_neg (by decide)]
      · rw [if_neg ga]
        simp only [f2, bs, z0, if_true]
        rw [if_neg (by decide)]
  · have e1 : ∀ t, x11_outside t a1 0 65535 = some 1 := oF n1
    have f1 : ∀ t, m_in t a1 0 65535 = some 0 := iF n1
    refine ⟨-2, tx, tm, by simp only [e1, bs, o0, if_true], ?_, w6⟩
    by_cases ga : a3 < 0
    · rw [if_pos ga]
      simp only [f1, bs, z0, if_true]
      rw [if_neg (by decide)]
    · rw [if_neg ga]
      simp only [f1, bs, z0, if_true]
      rw [if_neg (by decide)]
