/-! The reader: the class reads rows one in the other, the reference sign by sign. -/
theorem sI_id {t : St} {k : Nat} {v : Int32} (h : gI t k = v) : sI t k v = t := by
  unfold sI
  refine Prod.ext ?_ rfl
  funext j
  show va_up t.1 k v j = t.1 j
  unfold va_up
  split
  · next e => rw [e]; exact h.symm
  · rfl
theorem sI_sI {t : St} {k : Nat} {v w : Int32} : sI (sI t k v) k w = sI t k w := by
  unfold sI
  refine Prod.ext ?_ rfl
  funext j
  show va_up (va_up t.1 k v) k w j = va_up t.1 k w j
  unfold va_up
  split <;> rfl
theorem jnl {a : Nat} (m : Nat) {x : Int32} (hx : x = jn m) (h : ¬ a = m) (ha : a < 2147483648) (hm : m < 2147483648) : ¬ jn a = x := by
  rw [hx]
  exact fun e => h ((jn_inj ha hm).mp e)
def TXc (c : Nat → Nat) (n : Nat) (t : St) : Prop := gN t 600 = 80 ∧ gI t 601 = jn n ∧ ∀ i, i < n → gA t 600 i = jn (c i)
def TMc (c : Nat → Nat) (n : Nat) (t : St) : Prop := gI t 5 = jn n ∧ ∀ i, i < n → gA t 6 i = jn (c i)
theorem TXc.fr {c : Nat → Nat} {n : Nat} {S T : List Nat} {t t' : St} (h : TXc c n t) (hx : fx S T t t') (h1 : (S.elem 600 || S.elem 601) = false := by rfl) (h2 : T.elem 600 = false := by rfl) : TXc c n t' := by
  simp only [Bool.or_eq_false_iff] at h1
  unfold TXc
  rw [hx.2 600 h2, (hx.1 600 h1.1).2.2.1, (hx.1 601 h1.2).1]
  exact h
theorem TMc.fr {c : Nat → Nat} {n : Nat} {S T : List Nat} {t t' : St} (h : TMc c n t) (hx : fx S T t t') (h1 : (S.elem 5 || S.elem 6) = false := by rfl) : TMc c n t' := by
  simp only [Bool.or_eq_false_iff] at h1
  unfold TMc
  rw [(hx.1 5 h1.1).1, (hx.1 6 h1.2).2.2.1]
  exact h
theorem TMc.bk {c : Nat → Nat} {n : Nat} {S T : List Nat} {t t' : St} (h : TMc c n t') (hx : fx S T t t') (h1 : (S.elem 5 || S.elem 6) = false := by rfl) : TMc c n t := by
  simp only [Bool.or_eq_false_iff] at h1
  unfold TMc
  rw [← (hx.1 5 h1.1).1, ← (hx.1 6 h1.2).2.2.1]
  exact h
def chr (c : Nat → Nat) (n p : Nat) : Int32 := if p < n then jn (c p) else -1
theorem nx_ok {c : Nat → Nat} {n : Nat} (hn : n ≤ 80) (hc : ∀ i, c i ≤ 127) : ∀ d p tx, d + p = n → TXc c n tx → gI tx 703 = jn p → ∃ p', p ≤ p' ∧ p' ≤ n ∧ (∀ i, p ≤ i → i < p' → c i = 32) ∧ (p' < n → c p' ≠ 32) ∧ x7_next tx = some (chr c n p', sI tx 703 (jn p')) := by
  have key : ∀ d p tx, d + p = n → TXc c n tx → gI tx 703 = jn p → ∃ p', p ≤ p' ∧ p' ≤ n ∧ (∀ i, p ≤ i → i < p' → c i = 32) ∧ (p' < n → c p' ≠ 32) ∧ lp (fun x => x7_next_B0 x) tx = some (sI tx 703 (jn p')) := by
    intro d
    induction d with
    | zero =>
      intro p tx hp ht h3
      have : p = n := by omega
      subst this
      refine ⟨p, Nat.le_refl _, Nat.le_refl _, fun i _ _ => by omega, fun h => absurd h (by omega), ?_⟩
      rw [sI_id h3]
      refine lp_r ?_
      unfold x7_next_B0
      rw [ht.2.1, h3, if_pos (lee (by omega))]
    | succ d ih =>
      intro p tx hp ht h3
      have hpn : p < n := by omega
      by_cases q : c p = 32
      · obtain ⟨p', g1, g2, g3, g4, g5⟩ := ih (p + 1) (sI tx 703 (jn (p + 1))) (by omega) (ht.fr (S := [703]) (T := []) (fx_sI rfl)) rfl
        refine ⟨p', by omega, g2, fun i hi1 hi2 => ?_, g4, ?_⟩
        · by_cases e : i = p
          · rw [e]; exact q
          · exact g3 i (by omega) hi2
        · have b : (fun x => x7_next_B0 x) tx = some (.inl (sI tx 703 (jn (p + 1)))) := by
            dsimp only
            unfold x7_next_B0
            rw [ht.2.1, h3, if_neg (nle hpn (by omega)), ht.1, gd_jn (by omega) (by omega), jn_cl (by omega), ht.2.2 p hpn, q, if_pos (by rfl)]
            simp only [nm, jn_s]
          rw [lp_l b, g5, sI_sI]
      · refine ⟨p, Nat.le_refl _, by omega, fun i _ _ => by omega, fun _ => q, ?_⟩
        rw [sI_id h3]
        refine lp_r ?_
        have := hc p
        unfold x7_next_B0
        rw [ht.2.1, h3, if_neg (nle hpn (by omega)), ht.1, gd_jn (by omega) (by omega), jn_cl (by omega), ht.2.2 p hpn, if_neg (jnl (x := 32) 32 rfl q (by omega) (by omega))]
  intro d p tx hp ht h3
  obtain ⟨p', g1, g2, g3, g4, g5⟩ := key d p tx hp ht h3
  refine ⟨p', g1, g2, g3, g4, ?_⟩
  unfold x7_next
  rw [g5, bs]
  have e1 : gI (sI tx 703 (jn p')) 601 = jn n := ht.2.1
  have e3 : gI (sI tx 703 (jn p')) 703 = jn p' := rfl
  have e0 : gN (sI tx 703 (jn p')) 600 = 80 := ht.1
  rw [e1, e3, e0]
  unfold chr
  by_cases q : p' < n
  · rw [if_neg (nle q (by omega)), gd_jn (by omega) (by omega), jn_cl (by omega), if_pos q]
    show some (gA tx 600 p', _) = _
    rw [ht.2.2 p' q]
  · have : p' = n := by omega
    subst this
    rw [if_pos (lee (by omega)), if_neg q]
/-! the reference's run -/
noncomputable def rK (y : (Int32 × St) ⊕ (Int32 × St)) : Option (Int32 × St) := Sum.elim (fun u31 => some (u31.1, u31.2)) (fun u31 => nm (sI u31.2 25 (gI u31.2 5)) (fun t32 : St => if u31.1 = (1 : Int32) then (if (gI t32 19) ≤ 0 then ((m_endsNet t32).bind (fun q35 => nm (sI q35.2 26 q35.1) (fun t37 : St => if (gI t37 7) ≤ (250 : Int32) then (some ((0 : Int32), t37)) else (some ((6 : Int32), t37))))) else (some ((2 : Int32), t32))) else (some ((2 : Int32), t32)))) y
noncomputable def rL (d i : Nat) (t : St) : Option (Int32 × St) := (lp (fun x : Int32 × Int32 × St => m_reads_B14 x.1 x.2.1 x.2.2) (jn d, jn i, t)).bind rK
theorem m_reads_rL (t : St) : m_reads t = (m_opens (sI t 19 (-1)) 0).bind (fun q => rL 0 0 q) := by
  unfold m_reads
  simp only [nm]
  congr 1
theorem rL_end {c : Nat → Nat} {n : Nat} {t : St} (hn : n ≤ 80) (h : TMc c n t) (d : Nat) : rL d n t = rK (.inr (jn d, t)) := by
  unfold rL
  rw [lp_r (y := .inr (jn d, t)) (by dsimp only; unfold m_reads_B14; rw [h.1, if_pos (lee (by omega))]), bs]
theorem rL_skip {c : Nat → Nat} {n : Nat} {t : St} (hn : n ≤ 80) (h : TMc c n t) (d : Nat) : ∀ m p, (∀ i, p ≤ i → i < p + m → c i = 32) → p + m ≤ n → rL d p t = rL d (p + m) t := by
  intro m
  induction m with
  | zero => intro p _ _; rfl
  | succ m ih =>
    intro p hb hp
    have e : rL d p t = rL d (p + 1) t := by
      unfold rL
      rw [lp_l (x := (jn d, jn p, t)) (x' := (jn d, jn (p + 1), t)) (by
        dsimp only
        unfold m_reads_B14
        rw [h.1, if_neg (nle (by omega) (by omega)), gd_jn (by omega) (by omega), jn_cl (by omega), h.2 p (by omega), hb p (by omega) (by omega)]
        simp only [nm]
        rw [if_pos (by rfl), jn_s])]
    rw [e, ih (p + 1) (fun i h1 h2 => hb i (by omega) (by omega)) (by omega), show p + 1 + m = p + (m + 1) by omega]
theorem rL_to {c : Nat → Nat} {n : Nat} {t : St} (hn : n ≤ 80) (h : TMc c n t) (d : Nat) {p p' : Nat} (h1 : p ≤ p') (h2 : p' ≤ n) (hb : ∀ i, p ≤ i → i < p' → c i = 32) : rL d p t = rL d p' t := by
  have := rL_skip hn h d (p' - p) p (fun i a b => hb i a (by omega)) (by omega)
  rw [this]
  congr 1
  omega
theorem J144_0 {t : St} {d i : Nat} : m_reads_J144 t (jn d) (jn i) 0 = some (.inl (jn d, jn (i + 1), t)) := by
  unfold m_reads_J144
  rw [if_pos rfl]
  simp only [nm, jn_s]
theorem J144_f {t : St} {d i q : Nat} (hq : ¬ q = 0) (h2 : q < 2147483648) : m_reads_J144 t (jn d) (jn i) (jn q) = some (.inr (.inl (jn q, t))) := by
  unfold m_reads_J144
  rw [if_neg (jn_nz hq h2)]
/-- a part is due -/
theorem rL_0 {c : Nat → Nat} {n i : Nat} {t t' : St} {f : Nat} (hn : n ≤ 80) (hc : c i ≤ 127) (h : TMc c n t) (hi : i < n) (h32 : c i ≠ 32) (hf : f < 100) (k : m_opensPart (sI t 25 (jn i)) (jn (c i)) (jn i) = some (jn f, t')) : rL 0 i t = if f = 0 then rL (if c i = 91 then 2 else if c i = 40 then 0 else 1) (i + 1) t' else some (jn f, t') := by
  have b : (fun x : Int32 × Int32 × St => m_reads_B14 x.1 x.2.1 x.2.2) (jn 0, jn i, t) = m_reads_J144 t' (jn (if c i = 91 then 2 else if c i = 40 then 0 else 1)) (jn i) (jn f) := by
    dsimp only
    unfold m_reads_B14
    rw [h.1, if_neg (nle hi (by omega)), gd_jn (by omega) (by omega), jn_cl (by omega), h.2 i hi]
    simp only [nm]
    rw [if_neg (jnl (x := 32) 32 rfl h32 (by omega) (by omega)), if_neg (show ¬ jn 0 = 2 by decide), if_pos (show jn 0 = 0 from rfl), k, bs]
    unfold m_reads_J114
    by_cases q : c i = 91
    · rw [q, if_pos (by rfl), if_pos rfl]; rfl
    · rw [if_neg (jnl (x := 91) 91 rfl q (by omega) (by omega)), if_neg q]
      by_cases q2 : c i = 40
      · rw [q2, if_pos (by rfl), if_pos rfl]; rfl
      · rw [if_neg (jnl (x := 40) 40 rfl q2 (by omega) (by omega)), if_neg q2]; rfl
  unfold rL
  by_cases q : f = 0
  · subst q
    rw [show jn 0 = (0 : Int32) from rfl, J144_0] at b
    rw [lp_l b, if_pos rfl]
  · rw [J144_f q (by omega)] at b
    rw [lp_r b, bs, if_neg q]
    rfl
/-- it goes on -/
theorem rL_1 {c : Nat → Nat} {n i : Nat} {t t' : St} {f : Nat} (hn : n ≤ 80) (hc : c i ≤ 127) (h : TMc c n t) (hi : i < n) (h32 : c i ≠ 32) (hf : f < 100) (k : m_goesOn (sI t 25 (jn i)) (jn (c i)) (jn i) = some (jn f, t')) : rL 1 i t = if f = 0 then rL (if c i = 41 ∨ c i = 93 then 1 else 0) (i + 1) t' else some (jn f, t') := by
  have b : (fun x : Int32 × Int32 × St => m_reads_B14 x.1 x.2.1 x.2.2) (jn 1, jn i, t) = m_reads_J144 t' (jn (if c i = 41 ∨ c i = 93 then 1 else 0)) (jn i) (jn f) := by
    dsimp only
    unfold m_reads_B14
    rw [h.1, if_neg (nle hi (by omega)), gd_jn (by omega) (by omega), jn_cl (by omega), h.2 i hi]
    simp only [nm]
    rw [if_neg (jnl (x := 32) 32 rfl h32 (by omega) (by omega)), if_neg (show ¬ jn 1 = 2 by decide), if_neg (show ¬ jn 1 = 0 by decide), k, bs]
    unfold m_reads_J138 m_reads_J143
    by_cases q : c i = 41
    · rw [q, if_pos (by rfl), if_pos (Or.inl rfl)]; rfl
    · rw [if_neg (jnl (x := 41) 41 rfl q (by omega) (by omega))]
      by_cases q2 : c i = 93
      · rw [q2, if_pos (by rfl), if_pos (Or.inr rfl)]; rfl
      · rw [if_neg (jnl (x := 93) 93 rfl q2 (by omega) (by omega)), if_neg (by
          rintro (e | e)
          · exact q e
          · exact q2 e)]; rfl
  unfold rL
  by_cases q : f = 0
  · subst q
    rw [show jn 0 = (0 : Int32) from rfl, J144_0] at b
    rw [lp_l b, if_pos rfl]
  · rw [J144_f q (by omega)] at b
    rw [lp_r b, bs, if_neg q]
    rfl
/-- a digit behind a bracket is due -/
theorem rL_2 {c : Nat → Nat} {n i L : Nat} {t : St} (hn : n ≤ 80) (hc : c i ≤ 127) (h : TMc c n t) (hi : i < n) (h32 : c i ≠ 32) (hL : gI t 19 = jn L) (hL8 : L ≤ 8) : rL 2 i t = if 48 ≤ c i ∧ c i ≤ 57 then rL 0 (i + 1) (sA (sI t 25 (jn i)) 23 (jn L) (jn i)) else some (jn 1, sA (sI t 25 (jn i)) 23 (jn L) (jn i)) := by
  have b : (fun x : Int32 × Int32 × St => m_reads_B14 x.1 x.2.1 x.2.2) (jn 2, jn i, t) = m_reads_J144 (sA (sI t 25 (jn i)) 23 (jn L) (jn i)) 0 (jn i) (if 48 ≤ c i ∧ c i ≤ 57 then 0 else jn 1) := by
    dsimp only
    unfold m_reads_B14
    rw [h.1, if_neg (nle hi (by omega)), gd_jn (by omega) (by omega), jn_cl (by omega), h.2 i hi]
    simp only [nm]
    rw [if_neg (jnl (x := 32) 32 rfl h32 (by omega) (by omega)), if_pos (show jn 2 = 2 from rfl), m_in_eq, bs]
    unfold m_reads_J64
    have e19 : gI (sI t 25 (jn i)) 19 = jn L := hL
    rw [e19, gd_jn (by omega) (by omega)]
    simp only [nm, gd_jn (show L < 9 by omega) (show L < 2147483648 by omega)]
    by_cases q : 48 ≤ c i ∧ c i ≤ 57
    · rw [if_pos (show (48 : Int32) ≤ jn (c i) ∧ jn (c i) ≤ (57 : Int32) from ⟨(jn_le (a := 48) (by omega) (by omega)).mpr q.1, (jn_le (b := 57) (by omega) (by omega)).mpr q.2⟩), if_neg (by decide), if_pos q]
    · rw [if_neg (show ¬ ((48 : Int32) ≤ jn (c i) ∧ jn (c i) ≤ (57 : Int32)) from fun e => q ⟨(jn_le (a := 48) (by omega) (by omega)).mp e.1, (jn_le (b := 57) (by omega) (by omega)).mp e.2⟩), if_pos rfl, if_neg q]; rfl
  unfold rL
  by_cases q : 48 ≤ c i ∧ c i ≤ 57
  · rw [if_pos q] at b ⊢
    rw [lp_l (b.trans (J144_0 (d := 0)))]
  · rw [if_neg q] at b ⊢
    rw [lp_r (b.trans (J144_f (d := 0) (by omega) (by omega))), bs]
    rfl
