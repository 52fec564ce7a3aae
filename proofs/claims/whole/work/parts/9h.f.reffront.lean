/-! The front on the reference's side. -/
def MB (tm : St) (H : Nat) (N : List (Nat × Nat × Nat)) (top : Nat) : Prop := (NM tm (N.map (oN H)) ∧ gI tm 37 = jn top ∧ ∀ i, i < 2 → gA tm 39 i = jn 16) ∧ Wf N ∧ Wl N ∧ (∀ i, i < N.length → (N.getD i (0, 0, 0)).1 < mN H) ∧ top < N.length + 2
theorem DgB.mb {tx tm : St} {H top : Nat} {N : List (Nat × Nat × Nat)} (h : DgB tx tm H N top) : MB tm H N top := ⟨h.2.1, h.2.2.2.1, h.2.2.2.2.1, h.2.2.2.2.2.1, h.2.2.2.2.2.2.1⟩
theorem MB.frm {S T : List Nat} {tm tm' : St} {H top : Nat} {N : List (Nat × Nat × Nat)} (h : MB tm H N top) (hx : fx S T tm tm') (h1 : (S.elem 36 || S.elem 37 || S.elem 39 || S.elem 40 || S.elem 41) = false := by rfl) : MB tm' H N top := by
  simp only [Bool.or_eq_false_iff] at h1
  obtain ⟨⟨⟨⟨a6, a7⟩, a9⟩, a0⟩, a1⟩ := h1
  obtain ⟨⟨⟨e1, e1'⟩, e2, e3⟩, f⟩ := h
  refine ⟨⟨⟨(hx.1 36 a6).1.trans e1, fun i hi => ?_⟩, (hx.1 37 a7).1.trans e2, fun i hi => ?_⟩, f⟩
  · rw [(hx.1 39 a9).2.2.1, (hx.1 40 a0).2.2.1, (hx.1 41 a1).2.2.1]
    exact e1' i hi
  · rw [(hx.1 39 a9).2.2.1]
    exact e3 i hi
theorem chances_ofM {tm : St} {H top to never : Nat} {N : List (Nat × Nat × Nat)} (hB : MB tm H N top) (hl : N.length ≤ 400) {tx0 : St} (hH : RH tx0 tm) (hn : never < 2147483648) (hto : 402 ≤ to) (hto2 : to ≤ 4507) (hto3 : to ≠ 4502) : ∃ t1 t' T, m_uses tm (jn never) = some t1 ∧ m_chances t1 (jn to) = some t' ∧ fx [43] [] tm t1 ∧ Sl (List.range 402 ++ [4502, to]) t1 t' ∧ BM t' to T ∧ T * 1000 ^ mN H = nv N (fun r => usU tm never (odr H r)) (mN H) N.length top * 1000 ^ 16 := by
  obtain ⟨t1, a1, a2, a3⟩ := uses_eq (t := tm) hn
  have ok := usU_ok hH never
  obtain ⟨⟨e1, e2, e3⟩, f2, f3, f4, f5⟩ := hB.frm a2
  obtain ⟨t', T, b1, b2, b3, b4, b5⟩ := chances_eq (u := usU tm never) e1 e2 e3 hl f2 f3 f4 f5 (fun s hs => ⟨(ok s hs).1, (a3 s hs).trans (ok s hs).2⟩) hto hto2 hto3
  exact ⟨t1, t', T, a1, b1, a2, b2, b3, b4⟩
theorem cmp_mul {V W c : Nat} (hc : 0 < c) : cmpV (V * c) (W * c) = cmpV V W := by
  rcases Nat.lt_trichotomy V W with h | h | h
  · rw [cmp_lt h, cmp_lt ((Nat.mul_lt_mul_right hc).mpr h)]
  · rw [h, cmp_eq, cmp_eq]
  · rw [cmp_gt h, cmp_gt ((Nat.mul_lt_mul_right hc).mpr h)]
theorem sub_int {a b : Nat} (ha : a < 1073741824) (hb : b < 1073741824) : (jn a - jn b).toInt = (a : Int) - b := by
  rw [Int32.toInt_sub, Int32.toInt_ofNat_of_lt (by omega), Int32.toInt_ofNat_of_lt (by omega), Int.bmod_eq_of_le (by omega) (by omega)]
theorem sub_neg {a b : Nat} (ha : a < 1073741824) (hb : b < 1073741824) : jn a - jn b < 0 ↔ a < b := by
  rw [Int32.lt_iff_toInt_lt, sub_int ha hb, show (0 : Int32).toInt = 0 from rfl]
  omega
theorem sub_zer {a b : Nat} (ha : a < 1073741824) (hb : b < 1073741824) : jn a - jn b = 0 ↔ a = b := by
  constructor
  · intro h
    have := congrArg Int32.toInt h
    rw [sub_int ha hb, show (0 : Int32).toInt = 0 from rfl] at this
    omega
  · intro h
    rw [h]
    apply Int32.toInt.inj
    rw [sub_int hb hb, show (0 : Int32).toInt = 0 from rfl]
    omega
/-- the fraction's two slots stay -/
def K45 (t t' : St) : Prop := ∀ j, 31500 ≤ j → j < 31514 → gA t' 34 j = gA t 34 j
theorem K45.id {t : St} : K45 t t := fun _ _ _ => Eq.refl _
theorem K45.trans {a b c : St} (h : K45 a b) (g : K45 b c) : K45 a c := fun j h1 h2 => (g j h1 h2).trans (h j h1 h2)
theorem K45.of {S T : List Nat} {t t' : St} (h : fx S T t t') (h1 : S.elem 34 = false := by rfl) : K45 t t' := fun j _ _ => by rw [(h.1 34 h1).2.2.1]
theorem K45.sl {L : List Nat} {t t' : St} (h : Sl L t t') (h1 : 4500 ∉ L) (h2 : 4501 ∉ L) : K45 t t' := fun j j1 j2 => by
  by_cases c : j < 31507
  · have := h.2 4500 h1 (j - 31500) (by omega)
    rw [show 7 * 4500 + (j - 31500) = j by omega] at this
    exact this
  · have := h.2 4501 h2 (j - 31507) (by omega)
    rw [show 7 * 4501 + (j - 31507) = j by omega] at this
    exact this
theorem RF.k45 {tx tm tm' : St} (h : RF tx tm) (k : K45 tm tm') : RF tx tm' := by
  obtain ⟨h1, h2, h3, h4, h5, h6⟩ := h
  exact ⟨h1, h2, fun i hi => (h3 i hi).trans (k _ (by omega) (by omega)).symm, (k _ (by omega) (by omega)).trans h4, fun i hi => (h5 i hi).trans (k _ (by omega) (by omega)).symm, (k _ (by omega) (by omega)).trans h6⟩
/-- the chances of the sets stand -/
def Fvv (t tm : St) (K : Nat) (M : Nat) : Prop := ∀ x, x < M → BM t (402 + x) (fvl tm K x * 1000 ^ (16 - mN (kH tm K)))
theorem front1_eq {tm tx0 : St} {K : Nat} {tx1 : St} (hG : RG tx1 tm) (hH : RH tx0 tm) (hB : MB tm (kH tm K) (dgN (rwF tm (kH tm K) K) (mN (kH tm K))) (dgTop (rwF tm (kH tm K) K) (mN (kH tm K)))) (hl : (dgN (rwF tm (kH tm K) K) (mN (kH tm K))).length ≤ 400) : ∃ t', lp (fun x : Int32 × St => m_findFront_B9 (jn (2 ^ nG tm)) x.1 x.2) ((0 : Int32), tm) = some t' ∧ (fx [34, 43] [] tm t' ∧ K45 tm t') ∧ Fvv t' tm K (2 ^ nG tm) := by
  have hp := pow_le10 hG.1.2.1
  have hm := mN_le (kH tm K)
  have L := lp_cnt (b := fun x : Int32 × St => m_findFront_B9 (jn (2 ^ nG tm)) x.1 x.2) (fun i s => (jn i, s)) (2 ^ nG tm)
    (fun i s => (fx [34, 43] [] tm s ∧ K45 tm s) ∧ Fvv s tm K i) (fun s => (fx [34, 43] [] tm s ∧ K45 tm s) ∧ Fvv s tm K (2 ^ nG tm)) (by
      rintro i s hi ⟨⟨hf, hk⟩, hv⟩
      have Gs : RG tx1 s := hG.fr fxn hf
      have Hs : RH tx0 s := hH.fr fxn hf
      have e1 : nG s = nG tm := by unfold nG; rw [(hf.1 45 rfl).1]
      have e2 : stopsOf s i (nG s) = stopsOf tm i (nG tm) := by unfold stopsOf gSt; rw [e1, (hf.1 46 rfl).2.2.1]
      have st := m_stopped_eq Gs (set := i) (by omega)
      have sl := stops_lt hG i
      rw [e2] at st
      obtain ⟨s1, s2, T, a1, a2, a3, a4, a5, a6⟩ := chances_ofM (never := stopsOf tm i (nG tm)) (to := 402 + i) (hB.frm hf) hl Hs (by omega) (by omega) (by omega) (by omega)
      have us : ∀ r, usU s (stopsOf tm i (nG tm)) r = usU tm (stopsOf tm i (nG tm)) r := fun r => by unfold usU; rw [(hf.1 2 rfl).2.2.1]
      have val : nv (dgN (rwF tm (kH tm K) K) (mN (kH tm K))) (fun r => usU s (stopsOf tm i (nG tm)) (odr (kH tm K) r)) (mN (kH tm K)) (dgN (rwF tm (kH tm K) K) (mN (kH tm K))).length (dgTop (rwF tm (kH tm K) K) (mN (kH tm K))) = fvl tm K i := by
        rw [show (fun r => usU s (stopsOf tm i (nG tm)) (odr (kH tm K) r)) = (fun r => usU tm (stopsOf tm i (nG tm)) (odr (kH tm K) r)) from funext fun r => us _]
        exact nv_ev (fun r hr => (usU_ok hH _ _ (odr_ok hr).1).1) (mN (kH tm K)) (Nat.le_refl _) 0 (Nat.two_pow_pos _)
      rw [val] at a6
      have eT : T = fvl tm K i * 1000 ^ (16 - mN (kH tm K)) := by
        refine Nat.eq_of_mul_eq_mul_right (Nat.pow_pos (n := mN (kH tm K)) (show 0 < 1000 by omega)) ?_
        rw [a6, Nat.mul_assoc, ← Nat.pow_add, Nat.sub_add_cancel hm]
      rw [eT] at a5
      have no : ∀ z, z = 4500 ∨ z = 4501 → z ∉ List.range 402 ++ [4502, 402 + i] := fun z hz => by
        simp only [List.mem_append, List.mem_range, List.mem_cons, List.not_mem_nil, or_false]
        omega
      refine ⟨s2, ?_, ⟨hf.trans ((a3.wk rfl rfl : fx [34, 43] [] s s1).trans (a4.1.wk rfl rfl)), hk.trans ((K45.of a3).trans (K45.sl a4 (no _ (Or.inl rfl)) (no _ (Or.inr rfl))))⟩, fun x hx => ?_⟩
      · (try dsimp only)
        unfold m_findFront_B9
        rw [if_neg (nle hi (by omega)), st, bs, a1, bs, j402, a2, bs]
        simp only [nm, jn_s]
      · by_cases c : x = i
        · subst c; exact a5
        · have v := hv x (by omega)
          have v1 : BM s1 (402 + x) (fvl tm K x * 1000 ^ (16 - mN (kH tm K))) := Bg.cong v fun j _ => by rw [(a3.1 34 rfl).2.2.1]
          refine v1.sl a4 ?_
          simp only [List.mem_append, List.mem_range, List.mem_cons, List.not_mem_nil, or_false]
          omega) (by
      rintro s hs
      exact ⟨s, by (try dsimp only); unfold m_findFront_B9; rw [if_pos (lee (by omega))], hs⟩) 0 tm (Nat.zero_le _) ⟨⟨fx.rfl, K45.id⟩, fun x hx => absurd hx (Nat.not_lt_zero x)⟩
  exact L
/-- a set, or none yet -/
def onN : Option Nat → Int32
  | none => -1
  | some b => jn b
def Bst (pr V : Nat → Nat) (n : Nat) (g : Nat → Nat) (i : Nat) (o : Option Nat) : Prop := match o with
  | none => ∀ t, t < i → ¬ Nx V n g t
  | some b => b < i ∧ Nx V n g b ∧ ∀ t, t < i → Nx V n g t → lexLe pr V b t
theorem front2_eq {t tm tx1 : St} {K n : Nat} {g : Nat → Nat} (hG : RG tx1 t) (hGm : RG tx1 tm) (hv : Fvv t tm K (2 ^ nG tm)) (e1 : nG t = nG tm) (e2 : fpr t = fpr tm) (hg : ∀ j, j < n → g j < 2 ^ nG tm) : ∃ o, lp (fun x : Int32 × Int32 => m_findFront_B57 t (jn (2 ^ nG tm)) (if n = 0 then -1 else jn (g (n - 1))) x.1 x.2) ((-1 : Int32), (0 : Int32)) = some (onN o) ∧ Bst (fpr tm) (fvl tm K) n g (2 ^ nG tm) o := by
  have hp := pow_le10 hGm.1.2.1
  have hm := mN_le (kH tm K)
  have pc : 0 < 1000 ^ (16 - mN (kH tm K)) := Nat.pow_pos (by omega)
  have ag : ∀ x y, x < 2 ^ nG tm → y < 2 ^ nG tm → m_against t (jn (402 + x)) (jn (402 + y)) = some (cmpV (fvl tm K x) (fvl tm K y)) := fun x y hx hy => by
    rw [against_eq (by omega) (by omega) (hv x hx) (hv y hy), cmp_mul pc]
  have wg : ∀ x, x < 2 ^ nG tm → m_wages t (jn x) = some (jn (fpr tm x)) := fun x hx => by
    rw [m_wages_eq hG (by omega), ← e2]
    rfl
  have pl : ∀ x, fpr tm x ≤ 10000 := fpr_le hGm
  have L := lp_cnt (b := fun x : Int32 × Int32 => m_findFront_B57 t (jn (2 ^ nG tm)) (if n = 0 then -1 else jn (g (n - 1))) x.1 x.2) (S := Option Nat) (fun i o => (onN o, jn i)) (2 ^ nG tm)
    (fun i o => Bst (fpr tm) (fvl tm K) n g i o) (fun y => ∃ o, y = onN o ∧ Bst (fpr tm) (fvl tm K) n g (2 ^ nG tm) o) (by
      rintro i o hi ho
      have keep : ¬ Nx (fvl tm K) n g i → Bst (fpr tm) (fvl tm K) n g (i + 1) o := fun h => by
        cases o with
        | none =>
          intro t ht
          by_cases c : t = i
          · rw [c]; exact h
          · exact ho t (by omega)
        | some b =>
          obtain ⟨b1, b2, b3⟩ := ho
          refine ⟨by omega, b2, fun t ht nt => ?_⟩
          by_cases c : t = i
          · rw [c] at nt; exact absurd nt h
          · exact b3 t (by omega) nt
      -- where the set can be next
      have J : Nx (fvl tm K) n g i → ∃ o', m_findFront_J86 t (jn (2 ^ nG tm)) (if n = 0 then -1 else jn (g (n - 1))) (onN o) (jn i) = some (.inl (onN o', jn (i + 1))) ∧ Bst (fpr tm) (fvl tm K) n g (i + 1) o' := fun ni => by
        cases o with
        | none =>
          refine ⟨some i, ?_, by omega, ni, fun t ht nt => ?_⟩
          · unfold m_findFront_J86 m_findFront_J109 m_findFront_J140
            rw [if_pos (show onN none = -1 from rfl), if_pos (show (-1 : Int32) < 0 by decide)]
            simp only [nm, jn_s]
            rfl
          · by_cases c : t = i
            · rw [c]; exact Or.inr ⟨rfl, Or.inr ⟨rfl, Nat.le_refl _⟩⟩
            · exact absurd nt (ho t (by omega))
        | some b =>
          obtain ⟨b1, b2, b3⟩ := ho
          have J1 : ∀ r, (if fpr tm i < fpr tm b then (some (.inl (jn i, jn (i + 1))) : Option ((Int32 × Int32) ⊕ Int32)) else if fpr tm i = fpr tm b then (if fvl tm K i < fvl tm K b then some (.inl (jn i, jn (i + 1))) else some (.inl (jn b, jn (i + 1)))) else some (.inl (jn b, jn (i + 1)))) = r → m_findFront_J86 t (jn (2 ^ nG tm)) (if n = 0 then -1 else jn (g (n - 1))) (onN (some b)) (jn i) = r := fun r hr => by
            rw [← hr]
            have p1 := pl i
            have p2 := pl b
            unfold m_findFront_J86 m_findFront_J109 m_findFront_J140
            rw [show onN (some b) = jn b from rfl, if_neg (jn_ne1 (by omega)), wg i hi, bs, wg b (by omega), bs, j402, j402, ag i b hi (by omega), bs]
            simp only [nm, jn_s]
            by_cases c : fpr tm i < fpr tm b
            · rw [if_pos ((sub_neg (by omega) (by omega)).mpr c), if_pos c]
            · rw [if_neg (fun z => c ((sub_neg (by omega) (by omega)).mp z)), if_neg c]
              by_cases d : fpr tm i = fpr tm b
              · rw [if_pos ((sub_zer (by omega) (by omega)).mpr d), if_pos d]
                by_cases e : fvl tm K i < fvl tm K b
                · rw [cmp_lt e, if_neg (by decide), if_pos e]
                · rw [if_neg e]
                  by_cases f : fvl tm K i = fvl tm K b
                  · rw [f, cmp_eq, if_pos (by decide)]
                  · rw [cmp_gt (by omega), if_pos (by decide)]
              · rw [if_neg (fun z => d ((sub_zer (by omega) (by omega)).mp z)), if_neg d]
          have new : lexLe (fpr tm) (fvl tm K) i b → Bst (fpr tm) (fvl tm K) n g (i + 1) (some i) := fun h => by
            refine ⟨by omega, ni, fun t ht nt => ?_⟩
            by_cases c : t = i
            · rw [c]; exact Or.inr ⟨rfl, Or.inr ⟨rfl, Nat.le_refl _⟩⟩
            · have := b3 t (by omega) nt
              unfold lexLe at *
              omega
          have old : lexLe (fpr tm) (fvl tm K) b i → Bst (fpr tm) (fvl tm K) n g (i + 1) (some b) := fun h => by
            refine ⟨by omega, b2, fun t ht nt => ?_⟩
            by_cases c : t = i
            · rw [c]; exact h
            · exact b3 t (by omega) nt
          by_cases c : fpr tm i < fpr tm b
          · exact ⟨some i, J1 _ (by rw [if_pos c]; rfl), new (Or.inl c)⟩
          · by_cases d : fpr tm i = fpr tm b
            · by_cases e : fvl tm K i < fvl tm K b
              · exact ⟨some i, J1 _ (by rw [if_neg c, if_pos d, if_pos e]; rfl), new (Or.inr ⟨d, Or.inl e⟩)⟩
              · exact ⟨some b, J1 _ (by rw [if_neg c, if_pos d, if_neg e]; rfl), old (by unfold lexLe; omega)⟩
            · exact ⟨some b, J1 _ (by rw [if_neg c, if_neg d]; rfl), old (by unfold lexLe; omega)⟩
      (try dsimp only)
      unfold m_findFront_B57
      rw [if_neg (nle hi (by omega))]
      by_cases n0 : n = 0
      · obtain ⟨o', k1, k2⟩ := J (Or.inl n0)
        refine ⟨o', ?_, k2⟩
        rw [if_pos (show (if n = 0 then (-1 : Int32) else jn (g (n - 1))) = -1 from if_pos n0)]
        exact k1
      · have gl := hg (n - 1) (by omega)
        have ne : ¬ (if n = 0 then (-1 : Int32) else jn (g (n - 1))) = -1 := by
          rw [if_neg n0]; exact jn_ne1 (by omega)
        have ea : m_against t ((402 : Int32) + jn i) ((402 : Int32) + (if n = 0 then (-1 : Int32) else jn (g (n - 1)))) = some (cmpV (fvl tm K i) (fvl tm K (g (n - 1)))) := by
          rw [if_neg n0, j402, j402]; exact ag _ _ hi gl
        rw [if_neg ne, ea, bs]
        by_cases c : fvl tm K i < fvl tm K (g (n - 1))
        · obtain ⟨o', k1, k2⟩ := J (Or.inr c)
          refine ⟨o', ?_, k2⟩
          rw [cmp_lt c, if_neg (by decide)]
          exact k1
        · refine ⟨o, ?_, keep (by rintro (z | z); exact n0 z; exact c z)⟩
          rw [if_pos (by
            by_cases d : fvl tm K i = fvl tm K (g (n - 1))
            · rw [d, cmp_eq]; decide
            · rw [cmp_gt (by omega)]; decide)]
          simp only [nm, jn_s]) (by
      rintro o ho
      exact ⟨onN o, by (try dsimp only); unfold m_findFront_B57; rw [if_pos (lee (by omega))], o, rfl, ho⟩) 0 none (Nat.zero_le _) (fun t ht => absurd ht (Nat.not_lt_zero t))
  obtain ⟨y, k, o, rfl, k2⟩ := L
  exact ⟨o, k, k2⟩
theorem front3_eq {tm tx1 : St} {K : Nat} (hGm : RG tx1 tm) : ∀ k n s g, n + k = 2 ^ nG tm → fx [34, 43, 48, 49] [] tm s ∧ K45 tm s → Fvv s tm K (2 ^ nG tm) → gI s 48 = jn n → (∀ j, j < n → gA s 49 j = jn (g j)) → Gr (fpr tm) (fvl tm K) (fun t => t < 2 ^ nG tm) n g → ∃ s' m g', lp (fun x : Int32 × Int32 × St => m_findFront_B47 (jn (2 ^ nG tm)) x.1 x.2.1 x.2.2) ((if n = 0 then -1 else jn (g (n - 1))), (1 : Int32), s) = some s' ∧ (fx [34, 43, 48, 49] [] tm s' ∧ K45 tm s') ∧ Fvv s' tm K (2 ^ nG tm) ∧ gI s' 48 = jn m ∧ (∀ j, j < m → gA s' 49 j = jn (g' j)) ∧ Fr (fpr tm) (fvl tm K) (fun t => t < 2 ^ nG tm) m g' := by
  have hp := pow_le10 hGm.1.2.1
  intro k
  induction k with
  | zero =>
    intro n s g hn hfk hv h8 hg hr
    have hf := hfk.1
    have Gs : RG tx1 s := hGm.fr fxn hf
    have e1 : nG s = nG tm := by unfold nG; rw [(hf.1 45 rfl).1]
    have e2 : fpr s = fpr tm := by
      funext x; unfold fpr wagesOf gWa; rw [e1, (hf.1 47 rfl).2.2.1]
    obtain ⟨o, q1, q2⟩ := front2_eq Gs hGm hv e1 e2 hr.1
    cases o with
    | none =>
      refine ⟨s, n, g, ?_, hfk, hv, h8, hg, hr.fin fun t ht => q2 t ht⟩
      rw [lp_l (show (fun x : Int32 × Int32 × St => m_findFront_B47 (jn (2 ^ nG tm)) x.1 x.2.1 x.2.2) ((if n = 0 then -1 else jn (g (n - 1))), (1 : Int32), s) = some (.inl ((if n = 0 then -1 else jn (g (n - 1))), (0 : Int32), s)) from by
        (try dsimp only)
        unfold m_findFront_B47 m_findFront_J166
        rw [if_neg (by decide), q1, bs, if_pos (show onN none = -1 from rfl), if_pos rfl])]
      exact lp_r (by (try dsimp only); unfold m_findFront_B47; rw [if_pos rfl])
    | some b =>
      obtain ⟨b1, b2, b3⟩ := q2
      have := (hr.next (g' := fun j => if j = n then b else g j) b1 b2 b3 (fun j hj => if_neg (by omega)) (if_pos rfl)).le
      omega
  | succ k ih =>
    intro n s g hn hfk hv h8 hg hr
    have hf := hfk.1
    have Gs : RG tx1 s := hGm.fr fxn hf
    have e1 : nG s = nG tm := by unfold nG; rw [(hf.1 45 rfl).1]
    have e2 : fpr s = fpr tm := by
      funext x; unfold fpr wagesOf gWa; rw [e1, (hf.1 47 rfl).2.2.1]
    obtain ⟨o, q1, q2⟩ := front2_eq Gs hGm hv e1 e2 hr.1
    cases o with
    | none =>
      refine ⟨s, n, g, ?_, hfk, hv, h8, hg, hr.fin fun t ht => q2 t ht⟩
      rw [lp_l (show (fun x : Int32 × Int32 × St => m_findFront_B47 (jn (2 ^ nG tm)) x.1 x.2.1 x.2.2) ((if n = 0 then -1 else jn (g (n - 1))), (1 : Int32), s) = some (.inl ((if n = 0 then -1 else jn (g (n - 1))), (0 : Int32), s)) from by
        (try dsimp only)
        unfold m_findFront_B47 m_findFront_J166
        rw [if_neg (by decide), q1, bs, if_pos (show onN none = -1 from rfl), if_pos rfl])]
      exact lp_r (by (try dsimp only); unfold m_findFront_B47; rw [if_pos rfl])
    | some b =>
      obtain ⟨b1, b2, b3⟩ := q2
      have hr' := hr.next (g' := fun j => if j = n then b else g j) b1 b2 b3 (fun j hj => if_neg (by omega)) (if_pos rfl)
      have st : (fun x : Int32 × Int32 × St => m_findFront_B47 (jn (2 ^ nG tm)) x.1 x.2.1 x.2.2) ((if n = 0 then -1 else jn (g (n - 1))), (1 : Int32), s) = some (.inl (jn b, (1 : Int32), sI (sA s 49 (jn n) (jn b)) 48 (jn (n + 1)))) := by
        (try dsimp only)
        unfold m_findFront_B47 m_findFront_J166
        rw [if_neg (by decide), q1, bs, show onN (some b) = jn b from rfl, if_neg (jn_ne1 (by omega)), if_neg (by decide), h8, gd_jn (by omega) (by omega)]
        simp only [nm]
        rw [show gI (sA s 49 (jn n) (jn b)) 48 = gI s 48 from rfl, h8, jn_s]
      obtain ⟨s', m, g', r1, r2, r3, r4, r5, r6⟩ := ih (n + 1) (sI (sA s 49 (jn n) (jn b)) 48 (jn (n + 1))) (fun j => if j = n then b else g j) (by omega) ⟨(hf.trans (fx_sA rfl)).trans (fx_sI rfl), hfk.2.trans ((K45.of (fx_sA (S := [49]) (T := []) rfl)).trans (K45.of (fx_sI (S := [48]) (T := []) rfl)))⟩ (fun x hx => Bg.cong (hv x hx) fun j _ => by
          show gA (sA s 49 (jn n) (jn b)) 34 _ = _
          rw [gA_sA_ne (by decide)]) rfl (fun j hj => by
          show gA (sA s 49 (jn n) (jn b)) 49 j = _
          rw [gA_sA, jn_cl (by omega)]
          (try dsimp only)
          by_cases c : j = n
          · rw [c, upd_at, if_pos rfl]
          · rw [upd_ne c, if_neg c]; exact hg j (by omega)) hr'
      refine ⟨s', m, g', ?_, r2, r3, r4, r5, r6⟩
      rw [lp_l st]
      rw [if_neg (by omega), Nat.add_sub_cancel, if_pos rfl] at r1
      exact r1
theorem findFront_eq {tm tx0 tx1 : St} {K : Nat} (hG : RG tx1 tm) (hH : RH tx0 tm) (hB : MB tm (kH tm K) (dgN (rwF tm (kH tm K) K) (mN (kH tm K))) (dgTop (rwF tm (kH tm K) K) (mN (kH tm K)))) (hl : (dgN (rwF tm (kH tm K) K) (mN (kH tm K))).length ≤ 400) : ∃ t' m g, m_findFront tm = some t' ∧ (fx [34, 43, 48, 49] [] tm t' ∧ K45 tm t') ∧ Fvv t' tm K (2 ^ nG tm) ∧ gI t' 48 = jn m ∧ (∀ j, j < m → gA t' 49 j = jn (g j)) ∧ Fr (fpr tm) (fvl tm K) (fun t => t < 2 ^ nG tm) m g := by
  have hp := pow_le10 hG.1.2.1
  obtain ⟨t1, a1, a2, a3⟩ := front1_eq hG hH hB hl
  obtain ⟨s', m, g', r1, r2, r3, r4, r5, r6⟩ := front3_eq hG (2 ^ nG tm) 0 (sI t1 48 0) (fun _ => 0) (by omega) ⟨(a2.1.wk rfl rfl : fx [34, 43, 48, 49] [] tm t1).trans (fx_sI rfl), a2.2.trans (K45.of (fx_sI (S := [48]) (T := []) rfl))⟩ (fun x hx => Bg.cong (a3 x hx) fun j _ => rfl) rfl (fun j hj => absurd hj (Nat.not_lt_zero j)) Gr.nil
  refine ⟨s', m, g', ?_, r2, r3, r4, r5, r6⟩
  unfold m_findFront
  rw [hG.1.1, jn_shl1 _ (by have := hG.1.2.1; omega)]
  simp only [nm]
  rw [a1, bs]
  rw [if_pos rfl] at r1
  rw [show lp (fun x : Int32 × Int32 × St => m_findFront_B47 (jn (2 ^ nG tm)) x.1 x.2.1 x.2.2) ((-1 : Int32), (1 : Int32), sI t1 48 0) = some s' from r1, bs]
