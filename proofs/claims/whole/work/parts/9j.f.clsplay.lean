/-! The game on the class's side, played. -/
theorem turnX_eq {t : St} {A : Nat → Nat → Int} {p w : Nat} (hp : p ≤ 6) (hw : w ≤ 24) (hA : ∀ c i, c < w → i < p → 0 < A c i ∧ A c i ≤ 1001) {B cn : Nat → Nat} (ok : OkB A p w B) (h : GX t A p w B cn) {j row : Nat} (hj : j < w) (he : Ent A p w B (cn j)) (hl : Lev A p w B (cn j) row) : ∃ t' cn', x3_turn t (jn row) (jn j) = some t' ∧ fx [303, 304, 305, 308] [] t t' ∧ GX t' A p w (pv B row (cn j)) cn' := by
  obtain ⟨⟨e2, e6, e7, e8⟩, ⟨n3, n4, n5⟩, hc, h5, h4, hcn⟩ := h
  have hrow := hl.1
  have lcn := (hcn.1 j hj).1
  have ok' := ok.pv he hl
  -- the divisor
  obtain ⟨d, hd⟩ := Int.eq_ofNat_of_zero_le (Int.le_of_lt ok.1)
  have d0 : 0 < d := by have := ok.1; rw [hd] at this; omega
  have db := gD_bd hp hA ok
  rw [hd] at db
  have e6' : (1001 : Nat) ^ 6 = 1006015020015006001 := by decide
  rw [e6'] at db
  have dl : d < 9223372036854775808 := by omega
  obtain ⟨z, m, ed, hz, zc⟩ := zeros_eq t d0 dl
  obtain ⟨X, iX, hX⟩ := inv_eq t (o := ((2 * m + 1 : Nat) : Int)) (by omega)
  have sh : zl (d : Int) >>> ((jn z).toInt64 &&& 63) = zl ((2 * m + 1 : Nat) : Int) := by
    rw [sar_eq (by omega) (by omega) (by omega)]
    congr 1
    rw [ed, Int.natCast_mul, cast_pow2, Int.mul_ediv_cancel_left _ (Int.ne_of_gt (Int.pow_pos (by decide)))]
  have rg : ∀ r c, c ≤ w + p → _ := fun r c hc' => gT_range hp hA ok r hc'
  have cw : ∀ x, cxN cn p w x ≤ w + p := fun x => cx_le hcn
  have L := lp_cnt (b := fun x : Int32 × St => x3_turn_B46 (jn row) (jn j) (zl (gT A p w B row (cn j))) (jn z) (zl X) x.1 x.2) (fun k s => (jn k, s)) (p + 1)
    (fun k s => fx [303] [] t s ∧ ∀ i x, i < p + 1 → x < w + 1 → gB s 303 (i * (w + 1) + x) = if i < k ∧ i ≠ row then (if x = j then zl (- gT A p w B i (cn j)) else zl (gT A p w (pv B row (cn j)) i (cxN cn p w x))) else gB t 303 (i * (w + 1) + x))
    (fun s => fx [303] [] t s ∧ ∀ i x, i < p + 1 → x < w + 1 → gB s 303 (i * (w + 1) + x) = if i < p + 1 ∧ i ≠ row then (if x = j then zl (- gT A p w B i (cn j)) else zl (gT A p w (pv B row (cn j)) i (cxN cn p w x))) else gB t 303 (i * (w + 1) + x)) (by
      rintro i s hi ⟨hf, h1⟩
      have s2 : gI s 302 = jn p := (hf.1 302 rfl).1.trans e2
      have s6 : gI s 306 = jn w := (hf.1 306 rfl).1.trans e6
      have s7 : gI s 307 = jn (w + 1) := (hf.1 307 rfl).1.trans e7
      have s3 : gN s 303 = 175 := (hf.2 303 rfl).trans n3
      have nf : ¬ jn p < jn i := fun e => by have := (jn_lt (by omega) (by omega)).mp e; omega
      by_cases c : i = row
      · refine ⟨s, ?_, hf, fun i' x hi' hx => ?_⟩
        · (try dsimp only)
          unfold x3_turn_B46
          rw [s2, if_neg nf, c, if_pos rfl, nm_eq, jn_s]
        · rw [h1 i' x hi' hx]
          by_cases q : i' < i ∧ i' ≠ row
          · rw [if_pos q, if_pos (show i' < i + 1 ∧ i' ≠ row from ⟨by omega, q.2⟩)]
          · rw [if_neg q, if_neg (by omega)]
      · have ci := cell_in hp hw hi (show j < w + 1 by omega)
        have nr : ¬ jn i = jn row := fun e => c ((jn_inj (by omega) (by omega)).mp e)
        have rowi : ∀ x, x < w + 1 → gB s 303 (i * (w + 1) + x) = zl (gT A p w B i (cxN cn p w x)) := fun x hx => by
          rw [h1 i x hi hx, if_neg (by omega), hc i x hi hx]
        have rowr : ∀ x, x < w + 1 → gB s 303 (row * (w + 1) + x) = zl (gT A p w B row (cxN cn p w x)) := fun x hx => by
          rw [h1 row x (by omega) hx, if_neg (by omega), hc row x (by omega) hx]
        have cj : cxN cn p w j = cn j := if_pos hj
        obtain ⟨s', k1, k2, k3, k4⟩ := turn_row (t := s) (row := row) (j := j) (i := i) hp hw (by omega) hj hi c s6 s7 s3 ed hz hX (a := fun x => gT A p w B i (cxN cn p w x)) (b := fun x => gT A p w B row (cxN cn p w x)) (Q := fun x => gT A p w (pv B row (cn j)) i (cxN cn p w x)) (P := gT A p w B row (cn j)) (F := gT A p w B i (cn j)) rowi rowr (fun x hx hne => by
          have k : gD A p w B * gT A p w (pv B row (cn j)) i (cxN cn p w x) = gT A p w B row (cn j) * gT A p w B i (cxN cn p w x) - gT A p w B i (cn j) * gT A p w B row (cxN cn p w x) := piv ok.2.1 (cn j) (cxN cn p w x) (show row < p + 1 by omega) hi c
          rw [hd] at k
          (try dsimp only)
          rw [Int.mul_comm (gT A p w B i (cxN cn p w x))]
          exact k.symm) (fun x _ => rg i _ (cw x)) (fun x _ => rg row _ (cw x)) (rg row _ (Nat.le_of_lt lcn)) (rg i _ (Nat.le_of_lt lcn))
        have u7 : gI s' 307 = jn (w + 1) := (k2.1 307 rfl).1.trans s7
        have u3 : gN s' 303 = 175 := (k2.2 303 rfl).trans s3
        refine ⟨sB s' 303 (jn (i * (w + 1) + j)) (zl (- gT A p w B i (cn j))), ?_, (hf.trans k2).trans (fx_sB rfl), fun i' x hi' hx => ?_⟩
        · (try dsimp only)
          unfold x3_turn_B46
          rw [s2, if_neg nf, if_neg nr, s7, jn_mul, jn_add, s3, gd_jn ci (by omega), nm_eq, jn_cl (by omega), rowi j (by omega), cj, show lp (fun x : Int32 × St => x3_turn_B83 (jn row) (jn j) (zl (gT A p w B row (cn j))) (jn z) (zl X) (jn i) (zl (gT A p w B i (cn j))) x.1 x.2) ((0 : Int32), s) = some s' from k1, bs, u7, jn_mul, jn_add, u3, gd_jn ci (by omega), nm_eq, nm_eq, zl_neg, jn_s]
        · rw [gB_put (by omega)]
          by_cases q : i' = i
          · subst q
            by_cases y : x = j
            · rw [if_pos (by rw [y]), if_pos ⟨by omega, c⟩, if_pos y]
            · rw [if_neg (fun e => y (idx_inj hx (by omega) e).2), k3 x hx, if_neg y, if_pos ⟨by omega, c⟩, if_neg y]
          · rw [if_neg (fun e => q (idx_inj hx (by omega) e).1), k4 i' x q hx, h1 i' x hi' hx]
            by_cases y : i' < i ∧ i' ≠ row
            · rw [if_pos y, if_pos (show i' < i + 1 ∧ i' ≠ row from ⟨by omega, y.2⟩)]
            · rw [if_neg y, if_neg (by omega)]) (by
      rintro s hs
      have s2 : gI s 302 = jn p := (hs.1.1 302 rfl).1.trans e2
      exact ⟨s, by (try dsimp only); unfold x3_turn_B46; rw [s2, if_pos ((jn_lt (by omega) (by omega)).mpr (by omega))], hs⟩) 0 t (Nat.zero_le _) ⟨fx.rfl, fun i x hi hx => by rw [if_neg (by omega)]⟩
  obtain ⟨s, k, k1, k2⟩ := L
  have s7 : gI s 307 = jn (w + 1) := (k1.1 307 rfl).1.trans e7
  have s3 : gN s 303 = 175 := (k1.2 303 rfl).trans n3
  have s8 : gJ s 308 = zl (d : Int) := by rw [(k1.1 308 rfl).2.1, e8, hd]
  have s4 : gN s 304 = 6 := (k1.2 304 rfl).trans n4
  have s5 : gN s 305 = 24 := (k1.2 305 rfl).trans n5
  have cr := cell_in hp hw (show row < p + 1 by omega) (show j < w + 1 by omega)
  have pvt : gB t 303 (row * (w + 1) + j) = zl (gT A p w B row (cn j)) := by
    rw [hc row j (by omega) (by omega), show cxN cn p w j = cn j from if_pos hj]
  generalize ht1 : sB s 303 (jn (row * (w + 1) + j)) (zl (d : Int)) = t1
  have f1 : fx [303] [] s t1 := by rw [← ht1]; exact fx_sB rfl
  have g1 : ∀ r, gB t1 303 r = if r = row * (w + 1) + j then zl (d : Int) else gB s 303 r := fun r => by
    rw [← ht1, gB_put (by omega)]
  generalize ht2 : sJ t1 308 (zl (gT A p w B row (cn j))) = t2
  have f2 : fx [308] [] t1 t2 := by rw [← ht2]; exact fx_sJ rfl
  have g2 : gJ t2 308 = zl (gT A p w B row (cn j)) := by
    rw [← ht2]
    show va_up t1.2.1 308 (zl (gT A p w B row (cn j))) 308 = _
    exact up_at
  generalize ht3 : sA t2 304 (jn row) (jn (cn j)) = t3
  have f3 : fx [304] [] t2 t3 := by rw [← ht3]; exact fx_sA rfl
  have F3 : fx [303, 304, 308] [] t t3 := (k1.wk rfl rfl : fx [303, 304, 308] [] t s).trans ((f1.wk rfl rfl : fx [303, 304, 308] [] s t1).trans ((f2.wk rfl rfl : fx [303, 304, 308] [] t1 t2).trans (f3.wk rfl rfl)))
  refine ⟨sA t3 305 (jn j) (jn (B row)), fun x => if x = j then B row else cn x, ?_, (F3.wk rfl rfl : fx [303, 304, 305, 308] [] t t3).trans (fx_sA rfl), ⟨?_, ?_, ?_, ?_⟩, ⟨?_, ?_, ?_⟩, fun i x hi hx => ?_, fun x hx => ?_, fun i hi => ?_, ?_⟩
  · unfold x3_turn
    rw [e7, jn_mul, jn_add, n3, gd_jn cr (by omega), nm_eq, jn_cl (by omega), pvt, e8, hd, zc, bs, sh, iX, bs, show lp (fun x : Int32 × St => x3_turn_B46 (jn row) (jn j) (zl (gT A p w B row (cn j))) (jn z) (zl X) x.1 x.2) ((0 : Int32), t) = some s from k, bs, s7, jn_mul, jn_add, s3, gd_jn cr (by omega), nm_eq, s8, ht1, nm_eq, ht2]
    have a4 : gN t2 304 = 6 := ((f2.2 304 rfl).trans (f1.2 304 rfl)).trans s4
    have a5 : gN t2 305 = 24 := ((f2.2 305 rfl).trans (f1.2 305 rfl)).trans s5
    have b4 : gA t2 304 row = jn (B row) := by
      rw [(f2.1 304 rfl).2.2.1, (f1.1 304 rfl).2.2.1, (k1.1 304 rfl).2.2.1]; exact h4 row hrow
    have b5 : gA t2 305 j = jn (cn j) := by
      rw [(f2.1 305 rfl).2.2.1, (f1.1 305 rfl).2.2.1, (k1.1 305 rfl).2.2.1]; exact h5 j hj
    rw [a4, gd_jn (by omega) (by omega), nm_eq, jn_cl (a := row) (by omega), b4, a5, gd_jn (by omega) (by omega), gd_jn (by omega) (by omega), nm_eq, jn_cl (a := j) (by omega), b5, ht3, (f3.2 305 rfl), a5, gd_jn (by omega) (by omega), nm_eq]
  · exact (F3.1 302 rfl).1.trans e2
  · exact (F3.1 306 rfl).1.trans e6
  · exact (F3.1 307 rfl).1.trans e7
  · show gJ t3 308 = _
    rw [(f3.1 308 rfl).2.1, g2]
    congr 1
    exact dB_pv.symm
  · exact (F3.2 303 rfl).trans n3
  · exact (F3.2 304 rfl).trans n4
  · exact (F3.2 305 rfl).trans n5
  · show gB t3 303 _ = _
    rw [(f3.1 303 rfl).2.2.2, (f2.1 303 rfl).2.2.2, g1]
    by_cases q : i * (w + 1) + x = row * (w + 1) + j
    · obtain ⟨q1, q2⟩ := idx_inj hx (by omega) q
      subst q1
      subst q2
      rw [if_pos rfl]
      congr 1
      unfold cxN
      rw [if_pos hj]
      (try dsimp only)
      rw [if_pos rfl, ← hd]
      show _ = Tb (gC A p w) (p + 1) _ _ _
      rw [Tb_row]
      exact Tb_base1.symm
    · rw [if_neg q, k2 i x hi hx]
      by_cases r : i = row
      · subst r
        have xj : x ≠ j := fun e => q (by rw [e])
        rw [if_neg (by omega), hc i x hi hx]
        congr 1
        have ec : cxN (fun x => if x = j then B i else cn x) p w x = cxN cn p w x := by
          unfold cxN
          by_cases y : x < w
          · rw [if_pos y, if_pos y]; exact if_neg xj
          · rw [if_neg y, if_neg y]
        rw [ec]
        exact Tb_row.symm
      · rw [if_pos ⟨hi, r⟩]
        by_cases y : x = j
        · subst y
          rw [if_pos rfl]
          congr 1
          unfold cxN
          rw [if_pos hj]
          (try dsimp only)
          rw [if_pos rfl]
          exact (Tb_old (show row < p + 1 by omega) hi r).symm
        · rw [if_neg y]
          congr 1
          have ec : cxN (fun x => if x = j then B row else cn x) p w x = cxN cn p w x := by
            unfold cxN
            by_cases y' : x < w
            · rw [if_pos y', if_pos y']; exact if_neg y
            · rw [if_neg y', if_neg y']
          rw [ec]
  · (try dsimp only)
    rw [gA_sA, jn_cl (by omega)]
    by_cases y : x = j
    · rw [y, upd_at, if_pos rfl]
    · rw [upd_ne y, if_neg y, (F3.1 305 rfl).2.2.1]
      exact h5 x hx
  · rw [gA_sA_ne (by decide), ← ht3, gA_sA, jn_cl (by omega)]
    by_cases y : i = row
    · rw [y, upd_at, pv_at]
    · rw [upd_ne y, pv_ne y, (f2.1 304 rfl).2.2.1, (f1.1 304 rfl).2.2.1, (k1.1 304 rfl).2.2.1]
      exact h4 i hi
  · obtain ⟨c1, c2, c3⟩ := hcn
    have bro := ok.2.2.2.1 row hrow
    have inj := ok.2.2.2.2.1
    refine ⟨fun x hx => ?_, fun x y hx hy e => ?_, fun c hc' => ?_⟩
    · (try dsimp only)
      by_cases q : x = j
      · rw [if_pos q]
        refine ⟨bro, ?_⟩
        rintro ⟨r, r1, r2⟩
        by_cases y : r = row
        · rw [y, pv_at] at r2
          exact (c1 j hj).2 ⟨row, hrow, r2.symm⟩
        · rw [pv_ne y] at r2
          exact y (inj r row r1 hrow r2)
      · rw [if_neg q]
        refine ⟨(c1 x hx).1, ?_⟩
        rintro ⟨r, r1, r2⟩
        by_cases y : r = row
        · rw [y, pv_at] at r2
          exact q (c2 x j hx hj r2.symm)
        · rw [pv_ne y] at r2
          exact (c1 x hx).2 ⟨r, r1, r2⟩
    · (try dsimp only at e)
      by_cases q : x = j
      · by_cases q2 : y = j
        · omega
        · rw [if_pos q, if_neg q2] at e
          exact absurd ⟨row, hrow, e⟩ (c1 y hy).2
      · by_cases q2 : y = j
        · rw [if_neg q, if_pos q2] at e
          exact absurd ⟨row, hrow, e.symm⟩ (c1 x hx).2
        · rw [if_neg q, if_neg q2] at e
          exact c2 x y hx hy e
    · rcases c3 c hc' with ⟨r, r1, r2⟩ | ⟨x, x1, x2⟩
      · by_cases y : r = row
        · exact Or.inr ⟨j, hj, by (try dsimp only); rw [if_pos rfl, ← y]; exact r2⟩
        · exact Or.inl ⟨r, r1, by rw [pv_ne y]; exact r2⟩
      · by_cases y : x = j
        · exact Or.inl ⟨row, hrow, by rw [pv_at, ← y]; exact x2⟩
        · exact Or.inr ⟨x, x1, by (try dsimp only); rw [if_neg y]; exact x2⟩
/-- the turns to their end -/
theorem runX_eq {A : Nat → Nat → Int} {p w : Nat} (hp0 : 0 < p) (hp : p ≤ 6) (hw : w ≤ 24) (hA : ∀ c i, c < w → i < p → 0 < A c i ∧ A c i ≤ 1001) {S : Nat → Nat → Nat} {cl rr : Nat → Nat} {K : Nat} (hK : K < 593776) (h : Run A p w S cl rr K) (fin : ∀ c, c < w + p → 0 ≤ gT A p w (S K) p c) : ∀ d k t cn, k + d = K → GX t A p w (S k) cn → ∃ t' cn', lp (fun x : Int32 × St => x3_play_B6 x.1 x.2) (jn k, t) = some (.inl t') ∧ fx [303, 304, 305, 308] [] t t' ∧ GX t' A p w (S K) cn' := by
  intro d
  induction d with
  | zero =>
    intro k t cn hk hg
    have hk : k = K := by omega
    subst hk
    refine ⟨t, cn, lp_r ?_, fx.rfl, hg⟩
    (try dsimp only)
    unfold x3_play_B6
    rw [if_neg (show ¬ (1000000 : Int32) ≤ jn k from nle (b := 1000000) (show k < 1000000 by omega) (by omega))]
    rcases entX_eq hp hw hA (h.ok k (Nat.le_refl _)) hg with ⟨e1, -⟩ | ⟨j, j1, -, j3⟩
    · rw [e1, bs, if_neg (by decide)]
    · have := fin (cn j) j3.1
      have := j3.2.1
      omega
  | succ d ih =>
    intro k t cn hk hg
    obtain ⟨a, b, c⟩ := h.2 k (by omega)
    have ok := h.ok k (by omega)
    rcases entX_eq hp hw hA ok hg with ⟨-, e2⟩ | ⟨j, j1, j2, j3⟩
    · have := e2 (cl k) a.1
      have := a.2.1
      omega
    · have ec : cn j = cl k := ent_one j3 a
      obtain ⟨row, r1, r2⟩ := levX_eq hp0 hp hw hA ok hg j1 j3
      have er : row = rr k := by
        rw [ec] at r2
        exact lev_one ok r2 b
      obtain ⟨t1, cn1, u1, u2, u3⟩ := turnX_eq hp hw hA ok hg j1 j3 r2
      rw [ec, er, ← c] at u3
      obtain ⟨t2, cn2, v1, v2, v3⟩ := ih (k + 1) t1 cn1 (by omega) u3
      refine ⟨t2, cn2, ?_, u2.trans v2, v3⟩
      rw [lp_l (show (fun x : Int32 × St => x3_play_B6 x.1 x.2) (jn k, t) = some (.inl (jn (k + 1), t1)) from by
        have lr := r2.1
        (try dsimp only)
        unfold x3_play_B6
        rw [if_neg (show ¬ (1000000 : Int32) ≤ jn k from nle (b := 1000000) (show k < 1000000 by omega) (by omega)), j2, bs, if_pos (jn_nn (by omega)), r1, bs, if_pos (jn_nn (by omega)), u1, bs, nm_eq, jn_s])]
      exact v1
