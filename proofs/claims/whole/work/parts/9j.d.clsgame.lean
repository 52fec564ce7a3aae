/-! The game's table on the class's side: choices. -/
/-- which column stands there; the last is the right side -/
def cxN (cn : Nat → Nat) (p w j : Nat) : Nat := if j < w then cn j else w + p
def CnOk (p w : Nat) (B cn : Nat → Nat) : Prop := (∀ j, j < w → cn j < w + p ∧ ¬ inB p B (cn j)) ∧ (∀ i j, i < w → j < w → cn i = cn j → i = j) ∧ ∀ c, c < w + p → inB p B c ∨ ∃ j, j < w ∧ cn j = c
def GX (t : St) (A : Nat → Nat → Int) (p w : Nat) (B cn : Nat → Nat) : Prop := (gI t 302 = jn p ∧ gI t 306 = jn w ∧ gI t 307 = jn (w + 1) ∧ gJ t 308 = zl (gD A p w B)) ∧ (gN t 303 = 175 ∧ gN t 304 = 6 ∧ gN t 305 = 24) ∧ (∀ i j, i < p + 1 → j < w + 1 → gB t 303 (i * (w + 1) + j) = zl (gT A p w B i (cxN cn p w j))) ∧ (∀ j, j < w → gA t 305 j = jn (cn j)) ∧ (∀ i, i < p → gA t 304 i = jn (B i)) ∧ CnOk p w B cn
theorem gx_fr {S T : List Nat} {t t' : St} {A : Nat → Nat → Int} {p w : Nat} {B cn : Nat → Nat} (h : GX t A p w B cn) (hx : fx S T t t') (h1 : (S.elem 302 || S.elem 303 || S.elem 304 || S.elem 305 || S.elem 306 || S.elem 307 || S.elem 308) = false := by rfl) (h2 : (T.elem 303 || T.elem 304 || T.elem 305) = false := by rfl) : GX t' A p w B cn := by
  simp only [Bool.or_eq_false_iff] at h1 h2
  obtain ⟨⟨⟨⟨⟨⟨a2, a3⟩, a4⟩, a5⟩, a6⟩, a7⟩, a8⟩ := h1
  obtain ⟨⟨b3, b4⟩, b5⟩ := h2
  unfold GX at *
  rw [(hx.1 302 a2).1, (hx.1 306 a6).1, (hx.1 307 a7).1, (hx.1 308 a8).2.1, hx.2 303 b3, hx.2 304 b4, hx.2 305 b5, (hx.1 303 a3).2.2.2, (hx.1 304 a4).2.2.1, (hx.1 305 a5).2.2.1]
  exact h
theorem cell_in {p w i j : Nat} (hp : p ≤ 6) (hw : w ≤ 24) (hi : i < p + 1) (hj : j < w + 1) : i * (w + 1) + j < 175 := by
  have : i * (w + 1) ≤ 6 * (w + 1) := Nat.mul_le_mul_right _ (by omega)
  omega
theorem gT_range {A : Nat → Nat → Int} {p w : Nat} (hp : p ≤ 6) (hA : ∀ c i, c < w → i < p → 0 < A c i ∧ A c i ≤ 1001) {B : Nat → Nat} (ok : OkB A p w B) (r : Nat) {c : Nat} (hc : c ≤ w + p) : -9223372036854775808 ≤ gT A p w B r c ∧ gT A p w B r c < 9223372036854775808 := by
  have := gT_bd hp hA ok r hc
  have e6 : (1001 : Nat) ^ 6 = 1006015020015006001 := by decide
  rw [e6] at this
  omega
theorem cx_le {p w j : Nat} {B cn : Nat → Nat} (h : CnOk p w B cn) : cxN cn p w j ≤ w + p := by
  unfold cxN
  by_cases c : j < w
  · rw [if_pos c]; exact Nat.le_of_lt (h.1 j c).1
  · rw [if_neg c]; exact Nat.le_refl _
/-- none gains, or the column of the least name that does -/
theorem entX_eq {t : St} {A : Nat → Nat → Int} {p w : Nat} (hp : p ≤ 6) (hw : w ≤ 24) (hA : ∀ c i, c < w → i < p → 0 < A c i ∧ A c i ≤ 1001) {B cn : Nat → Nat} (ok : OkB A p w B) (h : GX t A p w B cn) : (x3_enteringColumn t = some (-1) ∧ ∀ c, c < w + p → 0 ≤ gT A p w B p c) ∨ ∃ j, j < w ∧ x3_enteringColumn t = some (jn j) ∧ Ent A p w B (cn j) := by
  obtain ⟨⟨e2, e6, e7, e8⟩, ⟨n3, n4, n5⟩, hc, h5, h4, hcn⟩ := h
  have basic : ∀ c, inB p B c → gT A p w B p c = 0 := by
    rintro c ⟨r, r1, r2⟩
    have := gT_b0 (A := A) (p := p) (w := w) (B := B) (r := p) (s := r) (by omega) (by omega) (by omega)
    rw [r2] at this
    exact this
  have L := lp_cnt (b := fun x : Int32 × Int32 => x3_enteringColumn_B4 t x.1 x.2) (S := Option Nat) (fun i o => (onN o, jn i)) w
    (fun i o => match o with
      | none => ∀ j, j < i → 0 ≤ gT A p w B p (cn j)
      | some b => b < i ∧ gT A p w B p (cn b) < 0 ∧ ∀ j, j < i → gT A p w B p (cn j) < 0 → cn b ≤ cn j)
    (fun y => ∃ o : Option Nat, y = onN o ∧ match o with
      | none => ∀ j, j < w → 0 ≤ gT A p w B p (cn j)
      | some b => b < w ∧ gT A p w B p (cn b) < 0 ∧ ∀ j, j < w → gT A p w B p (cn j) < 0 → cn b ≤ cn j) (by
      rintro i o hi ho
      have ci := cell_in hp hw (show p < p + 1 by omega) (show i < w + 1 by omega)
      have v := hc p i (by omega) (by omega)
      rw [show cxN cn p w i = cn i from if_pos hi] at v
      have rg := gT_range hp hA ok p (Nat.le_of_lt (hcn.1 i hi).1)
      have sg0 : lg_cmp (gB t 303 (p * (w + 1) + i)) (0 : Int64) < 0 ↔ gT A p w B p (cn i) < 0 := by
        rw [lg_neg, v, zl_int rg.1 rg.2, show (0 : Int64).toInt = 0 from rfl]
      have start : ∀ r, (if lg_cmp (gB t 303 (p * (w + 1) + i)) (0 : Int64) < 0 then (if onN o < 0 then (some (.inl (jn i, jn (i + 1))) : Option ((Int32 × Int32) ⊕ Int32)) else (gd (jn i) (gN t 305) (gd (onN o) (gN t 305) (if (gA t 305 (onN o).toNatClampNeg) ≤ (gA t 305 (jn i).toNatClampNeg) then some (.inl (onN o, jn (i + 1))) else some (.inl (jn i, jn (i + 1))))))) else some (.inl (onN o, jn (i + 1)))) = r → x3_enteringColumn_B4 t (onN o) (jn i) = r := fun r hr => by
        rw [← hr]
        unfold x3_enteringColumn_B4
        rw [e6, if_neg (nle hi (by omega)), e2, e7, jn_mul, jn_add, n3, gd_jn ci (by omega), jn_cl (by omega)]
        simp only [nm, jn_s]
      by_cases c : gT A p w B p (cn i) < 0
      · cases o with
        | none =>
          refine ⟨some i, start _ ?_, by omega, c, fun j hj hn => ?_⟩
          · rw [if_pos (sg0.mpr c), if_pos (show onN none < 0 by decide)]
            rfl
          · by_cases z : j = i
            · rw [z]; exact Nat.le_refl _
            · have := ho j (by omega)
              omega
        | some b =>
          obtain ⟨b1, b2, b3⟩ := ho
          have lb := (hcn.1 b (by omega)).1
          have li := (hcn.1 i hi).1
          by_cases d : cn b ≤ cn i
          · refine ⟨some b, start _ ?_, by omega, b2, fun j hj hn => ?_⟩
            · rw [if_pos (sg0.mpr c), show onN (some b) = jn b from rfl, if_neg (jn_neg (by omega)), n5, gd_jn (by omega) (by omega), gd_jn (by omega) (by omega), jn_cl (by omega), jn_cl (by omega), h5 b (by omega), h5 i hi, if_pos ((jn_le (by omega) (by omega)).mpr d)]
            · by_cases z : j = i
              · rw [z]; exact d
              · exact b3 j (by omega) hn
          · refine ⟨some i, start _ ?_, by omega, c, fun j hj hn => ?_⟩
            · rw [if_pos (sg0.mpr c), show onN (some b) = jn b from rfl, if_neg (jn_neg (by omega)), n5, gd_jn (by omega) (by omega), gd_jn (by omega) (by omega), jn_cl (by omega), jn_cl (by omega), h5 b (by omega), h5 i hi, if_neg (fun z => d ((jn_le (by omega) (by omega)).mp z))]
              rfl
            · by_cases z : j = i
              · rw [z]; exact Nat.le_refl _
              · have := b3 j (by omega) hn
                omega
      · refine ⟨o, start _ (if_neg (fun z => c (sg0.mp z))), ?_⟩
        cases o with
        | none =>
          intro j hj
          by_cases z : j = i
          · rw [z]; exact Int.not_lt.mp c
          · exact ho j (by omega)
        | some b =>
          obtain ⟨b1, b2, b3⟩ := ho
          refine ⟨by omega, b2, fun j hj hn => ?_⟩
          by_cases z : j = i
          · rw [z] at hn; exact absurd hn c
          · exact b3 j (by omega) hn) (by
      rintro o ho
      exact ⟨onN o, by (try dsimp only); unfold x3_enteringColumn_B4; rw [e6, if_pos (lee (by omega))], o, rfl, ho⟩) 0 none (Nat.zero_le _) (fun j hj => absurd hj (Nat.not_lt_zero j))
  obtain ⟨y, k, o, rfl, k2⟩ := L
  have ex : x3_enteringColumn t = some (onN o) := by
    unfold x3_enteringColumn
    rw [show lp (fun x : Int32 × Int32 => x3_enteringColumn_B4 t x.1 x.2) ((-1 : Int32), (0 : Int32)) = some (onN o) from k, bs]
  cases o with
  | none =>
    refine Or.inl ⟨ex, fun c hc' => ?_⟩
    rcases hcn.2.2 c hc' with q | ⟨j, j1, rfl⟩
    · rw [basic c q]; exact Int.le_refl _
    · exact k2 j j1
  | some b =>
    obtain ⟨b1, b2, b3⟩ := k2
    refine Or.inr ⟨b, b1, ex, (hcn.1 b b1).1, b2, fun c hlt => ?_⟩
    have hc' : c < w + p := by
      have := (hcn.1 b b1).1
      omega
    rcases hcn.2.2 c hc' with q | ⟨j, j1, rfl⟩
    · rw [basic c q]; exact Int.le_refl _
    · by_cases z : gT A p w B p (cn j) < 0
      · have := b3 j j1 z
        omega
      · exact Int.not_lt.mp z
/-- the row that leaves -/
theorem tight_dec {X Y : Int} (x1 : -170141183460469231731687303715884105728 < 2 * X) (x2 : 2 * X < 170141183460469231731687303715884105728) (y1 : -170141183460469231731687303715884105728 < 2 * Y) (y2 : 2 * Y < 170141183460469231731687303715884105728) {bi bo : Nat} (hbi : bi < 2147483648) (hbo : bo < 2147483648) : ∃ q, (if lg_cmp (zl ((X - Y) / 18446744073709551616)) (0 : Int64) = 0 then (if lg_cmp (zl X) (zl Y) = 0 then (if jn bo ≤ jn bi then some (0 : Int32) else some 1) else some 0) else (if (0 : Int32) ≤ lg_cmp (zl ((X - Y) / 18446744073709551616)) (0 : Int64) then some 0 else some 1)) = some q ∧ ((q = 0 ∧ (Y < X ∨ (Y = X ∧ bo ≤ bi))) ∨ (q = 1 ∧ ¬ (Y < X ∨ (Y = X ∧ bo ≤ bi)))) := by
  have hq : (zl ((X - Y) / 18446744073709551616)).toInt = (X - Y) / 18446744073709551616 := zl_int (by omega) (by omega)
  have z0 : (0 : Int64).toInt = 0 := rfl
  have zer : lg_cmp (zl ((X - Y) / 18446744073709551616)) (0 : Int64) = 0 ↔ (X - Y) / 18446744073709551616 = 0 := by
    rw [lcmp_iff]
    constructor
    · intro z
      have := congrArg Int64.toInt z
      rw [hq, z0] at this
      exact this
    · intro z
      rw [z]
      rfl
  have eqw : lg_cmp (zl X) (zl Y) = 0 ↔ X % 18446744073709551616 = Y % 18446744073709551616 := by
    rw [lcmp_iff]
    constructor
    · intro z
      have a := nB_zl X
      have b := nB_zl Y
      rw [z] at a
      omega
    · exact zl_eq
  have nn : (0 : Int32) ≤ lg_cmp (zl ((X - Y) / 18446744073709551616)) (0 : Int64) ↔ 0 ≤ (X - Y) / 18446744073709551616 := by
    rw [lg_nn, hq, z0]
  by_cases c : (X - Y) / 18446744073709551616 = 0
  · rw [if_pos (zer.mpr c)]
    by_cases d : X = Y
    · rw [if_pos (eqw.mpr (by rw [d]))]
      by_cases e : bo ≤ bi
      · exact ⟨0, by rw [if_pos ((jn_le hbo hbi).mpr e)], Or.inl ⟨rfl, Or.inr ⟨d.symm, e⟩⟩⟩
      · exact ⟨1, by rw [if_neg (fun z => e ((jn_le hbo hbi).mp z))], Or.inr ⟨rfl, fun z => by omega⟩⟩
    · have ne : ¬ X % 18446744073709551616 = Y % 18446744073709551616 := by omega
      rw [if_neg (fun z => ne (eqw.mp z))]
      exact ⟨0, rfl, Or.inl ⟨rfl, Or.inl (by omega)⟩⟩
  · rw [if_neg (fun z => c (zer.mp z))]
    by_cases d : 0 ≤ (X - Y) / 18446744073709551616
    · exact ⟨0, by rw [if_pos (nn.mpr d)], Or.inl ⟨rfl, Or.inl (by omega)⟩⟩
    · exact ⟨1, by rw [if_neg (fun z => d (nn.mp z))], Or.inr ⟨rfl, fun z => by omega⟩⟩
theorem nm_eq {α β : Type} (x : α) (f : α → β) : nm x f = f x := rfl
theorem tighter_eq {t : St} {A : Nat → Nat → Int} {p w : Nat} (hp : p ≤ 6) (hw : w ≤ 24) (hA : ∀ c i, c < w → i < p → 0 < A c i ∧ A c i ≤ 1001) {B cn : Nat → Nat} (ok : OkB A p w B) (h : GX t A p w B cn) {i o j : Nat} (hi : i < p) (ho : o < p) (hj : j < w) (io : i ≠ o) : ∃ q, x3_isTighter t (jn i) (jn o) (jn j) = some q ∧ ((q = 0 ∧ bet (fun r => gT A p w B r (w + p)) (fun r => gT A p w B r (cn j)) B o i) ∨ (q = 1 ∧ ¬ bet (fun r => gT A p w B r (w + p)) (fun r => gT A p w B r (cn j)) B o i)) := by
  obtain ⟨⟨e2, e6, e7, e8⟩, ⟨n3, n4, n5⟩, hc, h5, h4, hcn⟩ := h
  have cL : ∀ r, r < p → gB t 303 (r * (w + 1) + w) = zl (gT A p w B r (w + p)) := fun r hr => by
    rw [hc r w (by omega) (by omega), show cxN cn p w w = w + p from if_neg (Nat.lt_irrefl w)]
  have cJ : ∀ r, r < p → gB t 303 (r * (w + 1) + j) = zl (gT A p w B r (cn j)) := fun r hr => by
    rw [hc r j (by omega) (by omega), show cxN cn p w j = cn j from if_pos hj]
  have inL : ∀ r, r < p → r * (w + 1) + w < 175 := fun r hr => cell_in hp hw (by omega) (by omega)
  have inJ : ∀ r, r < p → r * (w + 1) + j < 175 := fun r hr => cell_in hp hw (by omega) (by omega)
  have i1 := inL i hi
  have i2 := inL o ho
  have i3 := inJ i hi
  have i4 := inJ o ho
  have lcn := (hcn.1 j hj).1
  have rL : ∀ r, _ := fun r => gT_range hp hA ok r (Nat.le_refl (w + p))
  have rJ : ∀ r, _ := fun r => gT_range hp hA ok r (Nat.le_of_lt lcn)
  have bi := ok.2.2.2.1 i hi
  have bo := ok.2.2.2.1 o ho
  have bne : B i ≠ B o := fun z => io (ok.2.2.2.2.1 i o hi ho z)
  unfold x3_isTighter
  rw [e7, e6, jn_mul, jn_mul, jn_add, jn_add, jn_add, jn_add, n3]
  rw [gd_jn i1 (by omega), nm_eq, gd_jn i4 (by omega), nm_eq, gd_jn i2 (by omega), nm_eq, gd_jn i3 (by omega), nm_eq, jn_cl (by omega), jn_cl (by omega), jn_cl (by omega), jn_cl (by omega), cL i hi, cL o ho, cJ i hi, cJ o ho]
  rw [hd_eq t (rL i).1 (rL i).2 (rJ o).1 (rJ o).2 (rL o).1 (rL o).2 (rJ i).1 (rJ i).2, bs, zl_mul, zl_mul, n4, gd_jn (by omega) (by omega), gd_jn (by omega) (by omega), jn_cl (by omega), jn_cl (by omega), h4 i hi, h4 o ho]
  have b1 := gT_bd hp hA ok i (Nat.le_refl (w + p))
  have b2 := gT_bd hp hA ok o (Nat.le_of_lt lcn)
  have b3 := gT_bd hp hA ok o (Nat.le_refl (w + p))
  have b4 := gT_bd hp hA ok i (Nat.le_of_lt lcn)
  have m1 : (gT A p w B i (w + p) * gT A p w B o (cn j)).natAbs ≤ (9 * 1001 ^ 6) * (9 * 1001 ^ 6) := by
    rw [Int.natAbs_mul]; exact Nat.mul_le_mul b1 b2
  have m2 : (gT A p w B o (w + p) * gT A p w B i (cn j)).natAbs ≤ (9 * 1001 ^ 6) * (9 * 1001 ^ 6) := by
    rw [Int.natAbs_mul]; exact Nat.mul_le_mul b3 b4
  have e36 : (9 * 1001 ^ 6) * (9 * 1001 ^ 6) = 81977363860159226908192112825346972081 := by decide
  rw [e36] at m1 m2
  exact tight_dec (X := gT A p w B i (w + p) * gT A p w B o (cn j)) (Y := gT A p w B o (w + p) * gT A p w B i (cn j)) (by omega) (by omega) (by omega) (by omega) (bi := B i) (bo := B o) (by omega) (by omega)
