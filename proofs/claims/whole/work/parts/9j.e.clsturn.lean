/-! The game's table on the class's side: turns. -/
theorem Tb_old {C : Nat → Nat → Int} {N : Nat} {B : Nat → Nat} {row k col : Nat} (hrow : row < N) (hk : k < N) (hne : k ≠ row) : Tb C N (pv B row col) k (B row) = - Tb C N B k col := by
  unfold Tb
  rw [VB_pv, st_swap hrow hk (fun e => hne e.symm), show C (B row) = VB C B row from rfl, st_self]
theorem levX_eq {t : St} {A : Nat → Nat → Int} {p w : Nat} (hp0 : 0 < p) (hp : p ≤ 6) (hw : w ≤ 24) (hA : ∀ c i, c < w → i < p → 0 < A c i ∧ A c i ≤ 1001) {B cn : Nat → Nat} (ok : OkB A p w B) (h : GX t A p w B cn) {j : Nat} (hj : j < w) (he : Ent A p w B (cn j)) : ∃ row, x3_leavingRow t (jn j) = some (jn row) ∧ Lev A p w B (cn j) row := by
  obtain ⟨row0, l1, l2, -⟩ := lev_ex hp0 (fun c i hc hi => (hA c i hc hi).1) ok he
  have h' := h
  obtain ⟨⟨e2, e6, e7, e8⟩, ⟨n3, n4, n5⟩, hc, h5, h4, hcn⟩ := h
  have lcn := (hcn.1 j hj).1
  have L := lp_cnt (b := fun x : Int32 × Int32 => x3_leavingRow_B4 t (jn j) x.1 x.2) (S := Option Nat) (fun i o => (onN o, jn i)) p
    (fun i o => match o with
      | none => ∀ r, r < i → ¬ 0 < gT A p w B r (cn j)
      | some b => b < i ∧ 0 < gT A p w B b (cn j) ∧ ∀ r, r < i → 0 < gT A p w B r (cn j) → bet (fun r => gT A p w B r (w + p)) (fun r => gT A p w B r (cn j)) B b r)
    (fun y => ∃ o : Option Nat, y = onN o ∧ match o with
      | none => ∀ r, r < p → ¬ 0 < gT A p w B r (cn j)
      | some b => b < p ∧ 0 < gT A p w B b (cn j) ∧ ∀ r, r < p → 0 < gT A p w B r (cn j) → bet (fun r => gT A p w B r (w + p)) (fun r => gT A p w B r (cn j)) B b r) (by
      rintro i o hi ho
      have ci := cell_in hp hw (show i < p + 1 by omega) (show j < w + 1 by omega)
      have v := hc i j (by omega) (by omega)
      rw [show cxN cn p w j = cn j from if_pos hj] at v
      have rg := gT_range hp hA ok i (Nat.le_of_lt lcn)
      have sg0 : lg_cmp (gB t 303 (i * (w + 1) + j)) (0 : Int64) ≤ 0 ↔ gT A p w B i (cn j) ≤ 0 := by
        rw [lg_swap, v, zl_int rg.1 rg.2, show (0 : Int64).toInt = 0 from rfl]
      have start : ∀ r, (if lg_cmp (gB t 303 (i * (w + 1) + j)) (0 : Int64) ≤ 0 then (some (.inl (onN o, jn (i + 1))) : Option ((Int32 × Int32) ⊕ Int32)) else (if onN o < 0 then some (.inl (jn i, jn (i + 1))) else (x3_isTighter t (jn i) (onN o) (jn j)).bind (fun q7 => if q7 = 0 then some (.inl (onN o, jn (i + 1))) else some (.inl (jn i, jn (i + 1)))))) = r → x3_leavingRow_B4 t (jn j) (onN o) (jn i) = r := fun r hr => by
        rw [← hr]
        unfold x3_leavingRow_B4
        rw [e2, if_neg (nle hi (by omega)), e7, jn_mul, jn_add, n3, gd_jn ci (by omega), jn_cl (by omega), nm_eq, nm_eq, jn_s]
      by_cases c : gT A p w B i (cn j) ≤ 0
      · refine ⟨o, start _ (if_pos (sg0.mpr c)), ?_⟩
        cases o with
        | none =>
          intro r hr
          by_cases z : r = i
          · rw [z]; omega
          · exact ho r (by omega)
        | some b =>
          obtain ⟨b1, b2, b3⟩ := ho
          refine ⟨by omega, b2, fun r hr pr => ?_⟩
          by_cases z : r = i
          · rw [z] at pr; omega
          · exact b3 r (by omega) pr
      · have pos : 0 < gT A p w B i (cn j) := by omega
        cases o with
        | none =>
          refine ⟨some i, start _ ?_, by omega, pos, fun r hr pr => ?_⟩
          · rw [if_neg (fun z => c (sg0.mp z)), if_pos (show onN none < 0 by decide)]
            rfl
          · by_cases z : r = i
            · rw [z]; exact Or.inr ⟨rfl, Nat.le_refl _⟩
            · exact absurd pr (ho r (by omega))
        | some b =>
          obtain ⟨b1, b2, b3⟩ := ho
          obtain ⟨q, q1, q2⟩ := tighter_eq hp hw hA ok h' hi (show b < p by omega) hj (show i ≠ b by omega)
          rcases q2 with ⟨rfl, q3⟩ | ⟨rfl, q3⟩
          · refine ⟨some b, start _ ?_, by omega, b2, fun r hr pr => ?_⟩
            · rw [if_neg (fun z => c (sg0.mp z)), show onN (some b) = jn b from rfl, if_neg (jn_neg (by omega)), q1, bs, if_pos rfl]
            · by_cases z : r = i
              · rw [z]; exact q3
              · exact b3 r (by omega) pr
          · refine ⟨some i, start _ ?_, by omega, pos, fun r hr pr => ?_⟩
            · rw [if_neg (fun z => c (sg0.mp z)), show onN (some b) = jn b from rfl, if_neg (jn_neg (by omega)), q1, bs, if_neg (by decide)]
              rfl
            · by_cases z : r = i
              · rw [z]; exact Or.inr ⟨rfl, Nat.le_refl _⟩
              · exact bet_trans pos b2 pr (bet_total q3) (b3 r (by omega) pr)) (by
      rintro o ho
      exact ⟨onN o, by (try dsimp only); unfold x3_leavingRow_B4; rw [e2, if_pos (lee (by omega))], o, rfl, ho⟩) 0 none (Nat.zero_le _) (fun r hr => absurd hr (Nat.not_lt_zero r))
  obtain ⟨y, k, o, rfl, k2⟩ := L
  cases o with
  | none => exact absurd l2 (k2 row0 l1)
  | some b =>
    obtain ⟨b1, b2, b3⟩ := k2
    refine ⟨b, ?_, b1, b2, b3⟩
    unfold x3_leavingRow
    rw [show lp (fun x : Int32 × Int32 => x3_leavingRow_B4 t (jn j) x.1 x.2) ((-1 : Int32), (0 : Int32)) = some (onN (some b)) from k, bs]
    rfl
theorem idx_inj {w i j i' j' : Nat} (hj : j < w + 1) (hj' : j' < w + 1) (h : i * (w + 1) + j = i' * (w + 1) + j') : i = i' ∧ j = j' := by
  rcases Nat.lt_trichotomy i i' with q | q | q
  · have : (i + 1) * (w + 1) ≤ i' * (w + 1) := Nat.mul_le_mul_right _ q
    rw [Nat.succ_mul] at this
    omega
  · subst q
    exact ⟨rfl, by omega⟩
  · have : (i' + 1) * (w + 1) ≤ i * (w + 1) := Nat.mul_le_mul_right _ q
    rw [Nat.succ_mul] at this
    omega
/-- one row of a turn -/
theorem turn_row {t : St} {p w row j i : Nat} (hp : p ≤ 6) (hw : w ≤ 24) (hrow : row < p + 1) (hj : j < w) (hi : i < p + 1) (hir : i ≠ row) (e6 : gI t 306 = jn w) (e7 : gI t 307 = jn (w + 1)) (n3 : gN t 303 = 175) {d z m : Nat} (ed : d = 2 ^ z * (2 * m + 1)) (hz : z < 63) {X : Int} (hX : (((2 * m + 1 : Nat) : Int) * X) % 18446744073709551616 = 1) {a b Q : Nat → Int} {P F : Int} (ha : ∀ x, x < w + 1 → gB t 303 (i * (w + 1) + x) = zl (a x)) (hb : ∀ x, x < w + 1 → gB t 303 (row * (w + 1) + x) = zl (b x)) (hQ : ∀ x, x < w + 1 → x ≠ j → a x * P - F * b x = (d : Int) * Q x) (ra : ∀ x, x < w + 1 → -9223372036854775808 ≤ a x ∧ a x < 9223372036854775808) (rb : ∀ x, x < w + 1 → -9223372036854775808 ≤ b x ∧ b x < 9223372036854775808) (rP : -9223372036854775808 ≤ P ∧ P < 9223372036854775808) (rF : -9223372036854775808 ≤ F ∧ F < 9223372036854775808) : ∃ t', lp (fun x : Int32 × St => x3_turn_B83 (jn row) (jn j) (zl P) (jn z) (zl X) (jn i) (zl F) x.1 x.2) ((0 : Int32), t) = some t' ∧ fx [303] [] t t' ∧ (∀ x, x < w + 1 → gB t' 303 (i * (w + 1) + x) = if x = j then gB t 303 (i * (w + 1) + x) else zl (Q x)) ∧ ∀ r x, r ≠ i → x < w + 1 → gB t' 303 (r * (w + 1) + x) = gB t 303 (r * (w + 1) + x) := by
  have L := lp_cnt (b := fun x : Int32 × St => x3_turn_B83 (jn row) (jn j) (zl P) (jn z) (zl X) (jn i) (zl F) x.1 x.2) (fun k s => (jn k, s)) (w + 1)
    (fun k s => fx [303] [] t s ∧ (∀ x, x < w + 1 → gB s 303 (i * (w + 1) + x) = if x = j ∨ k ≤ x then gB t 303 (i * (w + 1) + x) else zl (Q x)) ∧ ∀ r x, r ≠ i → x < w + 1 → gB s 303 (r * (w + 1) + x) = gB t 303 (r * (w + 1) + x))
    (fun s => fx [303] [] t s ∧ (∀ x, x < w + 1 → gB s 303 (i * (w + 1) + x) = if x = j ∨ w + 1 ≤ x then gB t 303 (i * (w + 1) + x) else zl (Q x)) ∧ ∀ r x, r ≠ i → x < w + 1 → gB s 303 (r * (w + 1) + x) = gB t 303 (r * (w + 1) + x)) (by
      rintro k s hk ⟨hf, h1, h2⟩
      have s6 : gI s 306 = jn w := (hf.1 306 rfl).1.trans e6
      have s7 : gI s 307 = jn (w + 1) := (hf.1 307 rfl).1.trans e7
      have s3 : gN s 303 = 175 := (hf.2 303 rfl).trans n3
      have nf : ¬ jn w < jn k := fun e => by have := (jn_lt (by omega) (by omega)).mp e; omega
      by_cases c : k = j
      · refine ⟨s, ?_, hf, fun x hx => ?_, h2⟩
        · (try dsimp only)
          unfold x3_turn_B83
          rw [s6, if_neg nf, c, if_pos rfl, nm_eq, jn_s]
        · rw [h1 x hx]
          by_cases q : x = j
          · rw [if_pos (Or.inl q), if_pos (Or.inl q)]
          · by_cases q2 : k ≤ x
            · rw [if_pos (Or.inr q2), if_pos (Or.inr (by omega))]
            · rw [if_neg (by omega), if_neg (by omega)]
      · have ci := cell_in hp hw hi hk
        have cr := cell_in hp hw hrow hk
        have v1 : gB s 303 (i * (w + 1) + k) = zl (a k) := by
          rw [h1 k hk, if_pos (Or.inr (Nat.le_refl _)), ha k hk]
        have v2 : gB s 303 (row * (w + 1) + k) = zl (b k) := by
          rw [h2 row k (fun e => hir e.symm) hk, hb k hk]
        have q := quot_eq ed (hQ k hk c) hX
        have nj : ¬ jn k = jn j := fun e => c ((jn_inj (by omega) (by omega)).mp e)
        refine ⟨sB s 303 (jn (i * (w + 1) + k)) (zl (Q k)), ?_, hf.trans (fx_sB rfl), fun x hx => ?_, fun r x hr hx => ?_⟩
        · (try dsimp only)
          unfold x3_turn_B83
          rw [s6, if_neg nf, if_neg nj, s7, jn_mul, jn_mul, jn_add, jn_add, s3, gd_jn ci (by omega), nm_eq, gd_jn cr (by omega), nm_eq, jn_cl (by omega), jn_cl (by omega), v1, v2, hd_eq s (ra k hk).1 (ra k hk).2 rP.1 rP.2 rF.1 rF.2 (rb k hk).1 (rb k hk).2, bs, zl_mul, zl_mul, zl_sub, shifted_eq s hz, bs, gd_jn ci (by omega), nm_eq, nm_eq, q, jn_s]
        · rw [gB_put (by omega)]
          by_cases e : x = k
          · rw [e, if_pos rfl, if_neg (by omega)]
          · rw [if_neg (by omega), h1 x hx]
            by_cases q2 : x = j ∨ k ≤ x
            · rw [if_pos q2, if_pos (by omega)]
            · rw [if_neg q2, if_neg (by omega)]
        · rw [gB_put (by omega), if_neg (fun e => hr (idx_inj hx hk e).1)]
          exact h2 r x hr hx) (by
      rintro s hs
      have s6 : gI s 306 = jn w := (hs.1.1 306 rfl).1.trans e6
      exact ⟨s, by (try dsimp only); unfold x3_turn_B83; rw [s6, if_pos ((jn_lt (by omega) (by omega)).mpr (by omega))], hs⟩) 0 t (Nat.zero_le _) ⟨fx.rfl, fun x hx => by rw [if_pos (Or.inr (Nat.zero_le _))], fun _ _ _ _ => rfl⟩
  obtain ⟨s, k, k1, k2, k3⟩ := L
  refine ⟨s, k, k1, fun x hx => ?_, k3⟩
  rw [k2 x hx]
  by_cases c : x = j
  · rw [if_pos (Or.inl c), if_pos c]
  · rw [if_neg (by omega), if_neg c]
