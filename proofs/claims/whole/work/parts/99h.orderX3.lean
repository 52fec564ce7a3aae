/-! The soonest end of a part of the steps. -/
def clr (part c : Nat) : Nat := part ^^^ 2 ^ c
theorem clr_bit {part c i : Nat} (h : part.testBit c = true) : (clr part c).testBit i = (part.testBit i && !decide (i = c)) := by
  unfold clr
  rw [Nat.testBit_xor, Nat.testBit_two_pow]
  by_cases e : i = c
  · subst e
    rw [h]
    simp
  · have e2 : ¬ c = i := fun h => e h.symm
    simp [e, e2]
theorem clr_lt : ∀ {c part : Nat}, part.testBit c = true → clr part c < part
  | 0, part, h => by
    have h0 : part % 2 = 1 := by
      rw [Nat.testBit_zero] at h
      simpa using h
    have e1 : (clr part 0) / 2 = part / 2 := by
      unfold clr
      rw [Nat.xor_div_two]
      show part / 2 ^^^ 0 = part / 2
      exact Nat.xor_zero _
    have e2 : (clr part 0).testBit 0 = false := by rw [clr_bit h]; simp
    rw [Nat.testBit_zero] at e2
    have e3 : (clr part 0) % 2 = 0 := by
      have := Nat.mod_two_eq_zero_or_one (clr part 0)
      simp at e2
      omega
    omega
  | c + 1, part, h => by
    have h1 : (part / 2).testBit c = true := by rw [← Nat.testBit_succ]; exact h
    have ih := clr_lt h1
    have e1 : (clr part (c + 1)) / 2 = clr (part / 2) c := by
      unfold clr
      rw [Nat.xor_div_two, Nat.pow_succ, Nat.mul_div_cancel _ (by omega)]
    have e2 : (clr part (c + 1)).testBit 0 = part.testBit 0 := by rw [clr_bit h]; simp
    rw [Nat.testBit_zero, Nat.testBit_zero] at e2
    have e3 : (clr part (c + 1)) % 2 = part % 2 := by
      have a := Nat.mod_two_eq_zero_or_one (clr part (c + 1))
      have b := Nat.mod_two_eq_zero_or_one part
      simp at e2
      omega
    omega
theorem csL_clr {part c n : Nat} (h : part.testBit c = true) : csL (clr part c) n = (csL part n).erase c := by
  have nd : (csL part n).Nodup := List.Pairwise.filter _ List.nodup_range
  rw [nd.erase_eq_filter]
  unfold csL
  rw [List.filter_filter]
  apply List.filter_congr
  intro i _
  rw [clr_bit h]
  by_cases e : i = c
  · subst e; simp
  · simp [e]
theorem bv_m1 : (-1 : Int32).toBitVec = BitVec.allOnes 32 := by decide
theorem jn_clr {part c : Nat} (hp : part < 2147483648) (hc : c < 31) (h : part.testBit c = true) : jn part &&& ((1 : Int32) <<< (jn c &&& 31) ^^^ (-1)) = jn (clr part c) := by
  rw [jn_shl1 c hc]
  apply Int32.toBitVec.inj
  show BitVec.ofNat 32 part &&& (BitVec.ofNat 32 (2 ^ c) ^^^ (-1 : Int32).toBitVec) = BitVec.ofNat 32 (clr part c)
  rw [bv_m1]
  apply BitVec.eq_of_getLsbD_eq
  intro i hi
  simp only [BitVec.getLsbD_and, BitVec.getLsbD_xor, BitVec.getLsbD_ofNat, BitVec.getLsbD_allOnes, hi, decide_true, Bool.true_and]
  rw [clr_bit h, Nat.testBit_two_pow]
  by_cases e : i = c
  · subst e; simp
  · have e2 : ¬ c = i := fun h => e h.symm
    simp [e, e2]
theorem sub_iff {part left : Nat} (hp : part < 2147483648) (hl : left < 2147483648) : (jn part &&& (jn left ^^^ (-1)) = (0 : Int32)) ↔ ∀ i, part.testBit i = true → left.testBit i = true := by
  have e : ∀ i, i < 32 → (jn part &&& (jn left ^^^ (-1))).toBitVec.getLsbD i = (part.testBit i && !left.testBit i) := by
    intro i hi
    show (BitVec.ofNat 32 part &&& (BitVec.ofNat 32 left ^^^ (-1 : Int32).toBitVec)).getLsbD i = _
    rw [bv_m1]
    simp only [BitVec.getLsbD_and, BitVec.getLsbD_xor, BitVec.getLsbD_ofNat, BitVec.getLsbD_allOnes, hi, decide_true, Bool.true_and, Bool.xor_true]
  constructor
  · intro h i hpi
    by_cases hi : i < 32
    · have := e i hi
      rw [h, hpi] at this
      have z : (0 : Int32).toBitVec.getLsbD i = false := by
        show (0#32).getLsbD i = false
        simp
      rw [z] at this
      cases hb : left.testBit i with
      | true => rfl
      | false => rw [hb] at this; cases this
    · exfalso
      have : part < 2 ^ i := Nat.lt_of_lt_of_le hp (Nat.le_trans (by decide : 2147483648 ≤ 2 ^ 31) (Nat.pow_le_pow_right (by omega) (by omega)))
      rw [Nat.testBit_lt_two_pow this] at hpi
      cases hpi
  · intro h
    apply Int32.toBitVec.inj
    apply BitVec.eq_of_getLsbD_eq
    intro i hi
    rw [e i hi]
    show _ = (0#32).getLsbD i
    cases hb : part.testBit i with
    | false => simp
    | true => rw [h i hb]; simp
/-- the rest of a part's row from a place on -/
def rsL (part n : Nat) : Nat → List Nat
  | 0 => []
  | k + 1 => if part.testBit (n - (k + 1)) then (n - (k + 1)) :: rsL part n k else rsL part n k
theorem rsL_eq (part n : Nat) : ∀ k, k ≤ n → csL part n = csL part (n - k) ++ rsL part n k
  | 0, _ => (List.append_nil _).symm
  | k + 1, h => by
    rw [rsL_eq part n k (by omega), show n - k = n - (k + 1) + 1 by omega, csL_s]
    have hr : rsL part n (k + 1) = if part.testBit (n - (k + 1)) then (n - (k + 1)) :: rsL part n k else rsL part n k := rfl
    rw [hr]
    split
    · rw [List.append_assoc]; rfl
    · rfl
theorem rsL_all (part n : Nat) : rsL part n n = csL part n := by
  have := rsL_eq part n n (Nat.le_refl n)
  rw [Nat.sub_self] at this
  rw [this]
  rfl
theorem csL_mem {part n c : Nat} : c ∈ csL part n ↔ c < n ∧ part.testBit c = true := by
  unfold csL
  rw [List.mem_filter, List.mem_range]
theorem csL_nodup (part n : Nat) : (csL part n).Nodup := List.Pairwise.filter _ List.nodup_range
/-- the least end of a part -/
def vl (E : Nat → Nat → Nat) (n minute part : Nat) : Nat := mla E (csL part n).length (csL part n) minute
theorem vl_cap {E : Nat → Nat → Nat} {n minute part : Nat} (h : minute ≤ 601) : vl E n minute part ≤ 601 := mla_cap _ _ _ h
theorem mla_ge {E : Nat → Nat → Nat} (h : EM E) : ∀ n l t, t ≤ 601 → t ≤ mla E n l t
  | 0, _, _, _ => Nat.le_refl _
  | n + 1, l, t, ht => mnF_ge (fun c _ => Nat.le_trans (mla_ge h n (l.erase c) t ht) (h.2.2.2 c _ (mla_cap n _ t ht))) ht
theorem vl_step {E : Nat → Nat → Nat} {n minute part : Nat} (h : csL part n ≠ []) : vl E n minute part = mnF (fun c => E c (vl E n minute (clr part c))) (csL part n) := by
  unfold vl
  obtain ⟨m, hm⟩ : ∃ m, (csL part n).length = m + 1 := by
    cases e : (csL part n).length with
    | zero => exact absurd (List.length_eq_zero_iff.mp e) h
    | succ m => exact ⟨m, rfl⟩
  rw [hm]
  refine mnF_cong fun c hc => ?_
  have hb := (csL_mem.mp hc).2
  rw [csL_clr hb]
  have : ((csL part n).erase c).length = m := by rw [List.length_erase_of_mem hc]; omega
  rw [this]
theorem x_part {E : Nat → Nat → Nat} (hE : EM E) {u : St} {n minute m0 part : Nat} (hn7 : n ≤ 7) (h5 : gI u 905 = jn n) (h7 : gN u 907 = 128) (h6 : 601 * n ≤ gN u 906) (h6b : gN u 906 ≤ 8414) (hm0 : m0 ≤ minute) (hmin : minute ≤ 601) (htab : ∀ c, c < n → ∀ a, m0 ≤ a → a ≤ 600 → gA u 906 (601 * c + a) = jn (E c a)) (hp : part < 2 ^ n) (hp2 : part < 128) (hpre : ∀ c, c < n → part.testBit c = true → gA u 907 (clr part c) = jn (vl E n minute (clr part c))) : ∀ k, k ≤ n → ∀ v, v ≤ 601 → lp (fun x : Int32 × Int32 => x9_soonestEnd_B33 u (jn 0) (jn part) x.1 x.2) (jn v, jn (n - k)) = some (jn (min v (mnF (fun c => E c (vl E n minute (clr part c))) (rsL part n k)))) ∧ ∀ v1 : Int32, lp (fun x : Int32 × Int32 => x9_soonestEnd_B33 u v1 (jn part) x.1 x.2) (jn v, jn (n - k)) = some (jn (min v (mnF (fun c => E c (vl E n minute (clr part c))) (rsL part n k)))) := by
  have main : ∀ (v1 : Int32) k, k ≤ n → ∀ v, v ≤ 601 → lp (fun x : Int32 × Int32 => x9_soonestEnd_B33 u v1 (jn part) x.1 x.2) (jn v, jn (n - k)) = some (jn (min v (mnF (fun c => E c (vl E n minute (clr part c))) (rsL part n k)))) := by
    intro v1 k
    induction k with
    | zero =>
      intro _ v hv
      have e : min v (mnF (fun c => E c (vl E n minute (clr part c))) (rsL part n 0)) = v := Nat.min_eq_left hv
      rw [e, Nat.sub_zero]
      exact lp_r (by dsimp only; unfold x9_soonestEnd_B33; rw [h5, if_pos (lee (by omega))])
    | succ k ih =>
      intro hk v hv
      have hc : n - (k + 1) < n := by omega
      have en : n - (k + 1) + 1 = n - k := by omega
      by_cases hb : part.testBit (n - (k + 1)) = true
      · have hr : rsL part n (k + 1) = (n - (k + 1)) :: rsL part n k := if_pos hb
        have hcl := clr_lt hb
        have cap := vl_cap (E := E) (n := n) (part := clr part (n - (k + 1))) hmin
        have ge : minute ≤ vl E n minute (clr part (n - (k + 1))) := mla_ge hE _ _ _ hmin
        have cap2 := hE.2.1 (n - (k + 1)) (vl E n minute (clr part (n - (k + 1))))
        have b : (fun x : Int32 × Int32 => x9_soonestEnd_B33 u v1 (jn part) x.1 x.2) (jn v, jn (n - (k + 1))) = some (.inl (jn (min v (E (n - (k + 1)) (vl E n minute (clr part (n - (k + 1)))))), jn (n - k))) := by
          dsimp only
          unfold x9_soonestEnd_B33
          rw [h5, if_neg (nle hc (by omega)), if_neg (fun e => by rw [(bit_iff0 (by omega) (by omega)).mp e] at hb; cases hb), jn_clr (by omega) (by omega) hb, h7, gd_jn (by omega) (by omega), jn_cl (by omega), hpre _ hc hb]
          simp only [nm, jn_s]
          rw [en]
          by_cases q : 601 ≤ vl E n minute (clr part (n - (k + 1)))
          · have e1 : vl E n minute (clr part (n - (k + 1))) = 601 := by omega
            have q' : (601 : Int32) ≤ jn (vl E n minute (clr part (n - (k + 1)))) := (jn_le (a := 601) (by omega) (by omega)).mpr q
            rw [if_pos q', e1, hE.2.2.1, Nat.min_eq_left hv]
          · have q' : ¬ (601 : Int32) ≤ jn (vl E n minute (clr part (n - (k + 1)))) := fun e => q ((jn_le (a := 601) (by omega) (by omega)).mp e)
            rw [if_neg q', show (601 : Int32) = jn 601 from rfl, jn_mul, jn_add, show (n - (k + 1)) * 601 + vl E n minute (clr part (n - (k + 1))) = 601 * (n - (k + 1)) + vl E n minute (clr part (n - (k + 1))) by omega, gd_jn (by omega) (by omega), jn_cl (by omega), htab _ hc _ (by omega) (by omega)]
            by_cases q2 : E (n - (k + 1)) (vl E n minute (clr part (n - (k + 1)))) < v
            · rw [if_pos ((jn_lt (by omega) (by omega)).mpr q2), Nat.min_eq_right (by omega)]
            · rw [if_neg (fun e => q2 ((jn_lt (by omega) (by omega)).mp e)), Nat.min_eq_left (by omega)]
        rw [lp_l b, ih (by omega) _ (Nat.le_trans (Nat.min_le_left _ _) hv), hr]
        show some (jn (min (min v (E (n - (k + 1)) (vl E n minute (clr part (n - (k + 1)))))) _)) = some (jn (min v (min (E (n - (k + 1)) (vl E n minute (clr part (n - (k + 1))))) _)))
        rw [Nat.min_assoc]
      · have hr : rsL part n (k + 1) = rsL part n k := if_neg hb
        have b : (fun x : Int32 × Int32 => x9_soonestEnd_B33 u v1 (jn part) x.1 x.2) (jn v, jn (n - (k + 1))) = some (.inl (jn v, jn (n - k))) := by
          dsimp only
          unfold x9_soonestEnd_B33
          have hb2 : part.testBit (n - (k + 1)) = false := by cases e : part.testBit (n - (k + 1)) with | false => rfl | true => exact absurd e hb
          rw [h5, if_neg (nle hc (by omega)), if_pos ((bit_iff0 (by omega) (by omega)).mpr hb2)]
          simp only [nm, jn_s]
          rw [en]
        rw [lp_l b, ih (by omega) v hv, hr]
  exact fun k hk v hv => ⟨main (jn 0) k hk v hv, fun v1 => main v1 k hk v hv⟩
theorem x_soonest {E : Nat → Nat → Nat} (hE : EM E) {u : St} {n minute m0 left : Nat} (hn7 : n ≤ 7) (h5 : gI u 905 = jn n) (h7 : gN u 907 = 128) (h6 : 601 * n ≤ gN u 906) (h6b : gN u 906 ≤ 8414) (hm0 : m0 ≤ minute) (hmin : minute ≤ 601) (htab : ∀ c, c < n → ∀ a, m0 ≤ a → a ≤ 600 → gA u 906 (601 * c + a) = jn (E c a)) (hleft : left < 2 ^ n) : ∃ u', x9_soonestEnd u (jn left) (jn minute) = some (jn (vl E n minute left), u') ∧ fx [907] [] u u' := by
  have p7 : 2 ^ n ≤ 128 := Nat.pow_le_pow_right (n := 2) (by omega) hn7
  have sub0 : ∀ i, (0 : Nat).testBit i = true → left.testBit i = true := fun i h => by rw [Nat.zero_testBit] at h; cases h
  have v0 : vl E n minute 0 = minute := by
    have : csL 0 n = [] := by
      unfold csL
      rw [List.filter_eq_nil_iff]
      intro i _
      rw [Nat.zero_testBit]
      simp
    unfold vl
    rw [this]
    rfl
  have h := lp_cnt (b := fun x : Int32 × St => x9_soonestEnd_B9 (jn left) x.1 x.2) (fun i s => (jn i, s)) (left + 1)
    (fun q s => 1 ≤ q ∧ fx [907] [] u s ∧ ∀ r, r < q → (∀ i, r.testBit i = true → left.testBit i = true) → gA s 907 r = jn (vl E n minute r))
    (fun s => fx [907] [] u s ∧ ∀ r, r < left + 1 → (∀ i, r.testBit i = true → left.testBit i = true) → gA s 907 r = jn (vl E n minute r)) (by
      rintro q s hq ⟨hq1, hf, h1⟩
      dsimp only
      unfold x9_soonestEnd_B9
      rw [if_neg (fun e => by have := (jn_lt (by omega) (by omega)).mp e; omega)]
      by_cases hs : ∀ i, q.testBit i = true → left.testBit i = true
      · rw [if_pos ((sub_iff (by omega) (by omega)).mpr hs)]
        have pr : ∀ c, c < n → q.testBit c = true → gA s 907 (clr q c) = jn (vl E n minute (clr q c)) := by
          intro c hc hb
          refine h1 _ (clr_lt hb) (fun i hi => hs i ?_)
          rw [clr_bit hb] at hi
          simp at hi
          exact hi.1
        have k := (x_part hE (u := s) hn7 ((hf.1 905 rfl).1.trans h5) ((hf.2 907 rfl).trans h7) (by rw [hf.2 906 rfl]; exact h6) (by rw [hf.2 906 rfl]; exact h6b) hm0 hmin (fun c hc a h3 h4 => by rw [(hf.1 906 rfl).2.2.1]; exact htab c hc a h3 h4) (part := q) (by omega) (by omega) pr n (Nat.le_refl n) 601 (Nat.le_refl _)).2 (jn left)
        rw [Nat.sub_self, rsL_all] at k
        rw [show ((601 : Int32), (0 : Int32)) = (jn 601, jn 0) from rfl, k, bs, (hf.2 907 rfl).trans h7, gd_jn (by omega) (by omega)]
        simp only [nm, jn_s]
        refine ⟨_, rfl, by omega, hf.trans (fx_sA rfl), ?_⟩
        intro r hr hrs
        rw [gA_sA, jn_cl (by omega)]
        by_cases e : r = q
        · subst e
          rw [upd_at]
          congr 1
          rw [Nat.min_eq_right (mnF_cap _ _)]
          by_cases e0 : csL r n = []
          · have : r = 0 := by
              apply Nat.eq_of_testBit_eq
              intro i
              rw [Nat.zero_testBit]
              by_cases hi : i < n
              · cases hb : r.testBit i with
                | false => rfl
                | true =>
                  have := csL_mem.mpr ⟨hi, hb⟩
                  rw [e0] at this
                  cases this
              · exact Nat.testBit_lt_two_pow (Nat.lt_of_lt_of_le (by omega : r < 2 ^ n) (Nat.pow_le_pow_right (by omega) (by omega)))
            exfalso
            omega
          · exact (vl_step e0).symm
        · rw [upd_ne e]
          exact h1 r (by omega) hrs
      · rw [if_neg (fun e => hs ((sub_iff (by omega) (by omega)).mp e))]
        simp only [nm, jn_s]
        refine ⟨s, rfl, by omega, hf, ?_⟩
        intro r hr hrs
        by_cases e : r = q
        · subst e; exact absurd hrs hs
        · exact h1 r (by omega) hrs) (by
      rintro s ⟨-, hs⟩
      exact ⟨s, by dsimp only; unfold x9_soonestEnd_B9; rw [if_pos ((jn_lt (by omega) (by omega)).mpr (by omega))], hs⟩) 1 (sA u 907 0 (jn minute)) (by omega) ⟨Nat.le_refl _, fx_sA rfl, fun r hr _ => by
        have : r = 0 := by omega
        subst this
        rw [gA_sA, v0]
        exact upd_at⟩
  obtain ⟨s, k, hf, k1⟩ := h
  refine ⟨s, ?_, hf⟩
  unfold x9_soonestEnd
  rw [h7, show gd (0 : Int32) 128 _ = _ from gd_jn (a := 0) (by omega) (by omega)]
  simp only [nm]
  rw [show ((1 : Int32), sA u 907 0 (jn minute)) = (jn 1, sA u 907 0 (jn minute)) from rfl, k, bs, (hf.2 907 rfl).trans h7, gd_jn (by omega) (by omega), jn_cl (by omega), k1 left (by omega) (fun _ h => h)]
