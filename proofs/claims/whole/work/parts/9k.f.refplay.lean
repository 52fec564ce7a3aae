/-! The game on the reference's side: played. -/
theorem playM_eq {t tx tm : St} (hP : RP tx tm) {p w : Nat} {l : List Nat} (e : gI tm 50 = jn p) (hp0 : 0 < p) (hp : p ≤ 6) (hw0 : 0 < w) (hw : w ≤ 24) (hlt : ∀ j, j < w → l.getD j 0 < 65536) (h : LyM t tm p w l) {S : Nat → Nat → Nat} {cl rr : Nat → Nat} {K : Nat} (hR : Run (gmA tm l) p w S cl rr K) (fin : ∀ c, c < w + p → 0 ≤ gT (gmA tm l) p w (S K) p c) : ∃ t', m_plays t = some t' ∧ fx [34, 52, 53] [] t t' ∧ BM t' 4500 ((gD (gmA tm l) p w (S K) - gT (gmA tm l) p w (S K) p (w + p)).natAbs / Nat.gcd (gD (gmA tm l) p w (S K) - gT (gmA tm l) p w (S K) p (w + p)).natAbs (gT (gmA tm l) p w (S K) p (w + p)).natAbs) ∧ BM t' 4501 ((gT (gmA tm l) p w (S K) p (w + p)).natAbs / Nat.gcd (gD (gmA tm l) p w (S K) - gT (gmA tm l) p w (S K) p (w + p)).natAbs (gT (gmA tm l) p w (S K) p (w + p)).natAbs) := by
  have hA := gmA_ok hP e hp l w
  have bp : Bp 7 = 1645504557321206042154969182557350504982735865633579863348609024 := by decide +kernel
  have e6 : (1001 : Nat) ^ 6 = 1006015020015006001 := by decide
  obtain ⟨t1, a1, a2, a3, a4⟩ := layM_eq hP e hp hw hlt h
  obtain ⟨t2, b1, b2, b3⟩ := puts_eq (t := t1) (x := 700) (v := 1) (by omega) (by omega)
  have h1 := (h.fx a2).fx b2.1
  have g2 : GM t2 (gmA tm l) p w (S 0) := by
    rw [hR.1]
    refine ⟨h1.1, fun r c hr hc => ?_, by rw [gD0]; exact b3, fun r hr => ?_⟩
    · obtain ⟨x, y⟩ := a3 r c hr hc
      exact ⟨x.sl1 b2 (by omega), by rw [(b2.1.1 52 rfl).2.2.1]; exact y⟩
    · rw [(b2.1.1 53 rfl).2.2.1, a4 r hr]
      unfold gB0
      rw [if_pos hr]
  obtain ⟨t3, c1, c2, c3⟩ := runM_eq hp0 hp hw hA hR fin K 0 t2 (by omega) g2
  obtain ⟨e50, hv, hD, -⟩ := c3
  have ok := hR.ok K (Nat.le_refl _)
  have sl := sum_le hp0 hA ok
  have sp := sum_pos hw0 hA ok fin
  have db := gD_bd hp hA ok
  have cell := hv p (w + p) (by omega) (by omega)
  generalize gD (gmA tm l) p w (S K) = D at *
  generalize gT (gmA tm l) p w (S K) p (w + p) = s at *
  obtain ⟨t4, d1, d2, d3⟩ := takes_eq (t := t3) (x := 4507) (y := 700) (by omega) (by omega) (by omega) hD
  have k4 : BM t4 (402 + (31 * p + (w + p))) s.natAbs := cell.1.sl1 d2 (by omega)
  obtain ⟨t5, f1, f2, f3⟩ := lessens_eq (t := t4) (x := 4507) (y := 402 + (31 * p + (w + p))) (by omega) (by omega) (by omega) d3 k4 (by omega)
  obtain ⟨t6, i1, i2, i3⟩ := takes_eq (t := t5) (x := 4505) (y := 402 + (31 * p + (w + p))) (by omega) (by omega) (by omega) (k4.sl1 f2 (by omega))
  have f6 : BM t6 4507 (D - s).natAbs := by
    rw [show (D - s).natAbs = D.natAbs - s.natAbs by omega]
    exact f3.sl1 i2 (by omega)
  obtain ⟨t7, j1, j2, j3, j4⟩ := tells_eq (t := t6) (x := 4507) (y := 4505) (by omega) (by omega) (by omega) (by omega) f6 i3 (by omega) (by omega)
  have F : fx [34, 52, 53] [] t t7 := (a2.trans (b2.1.wk rfl rfl)).trans (c2.trans ((((d2.1.trans f2.1).trans i2.1).trans j2.1).wk rfl rfl))
  refine ⟨t7, ?_, F, j3, j4⟩
  have q4 : gI t4 50 = jn p := (d2.1.1 50 rfl).1.trans e50
  have q5 : gI t5 50 = jn p := (f2.1.1 50 rfl).1.trans q4
  unfold m_plays
  rw [nm_eq, nm_eq, h.1, h.2.1, jn_add, jn_s, show jn (w + p + 1) - 1 = jn (w + p) from jn_sub (b := 1) (by omega), show lp (fun x : Int32 × St => m_plays_B18 (jn (w + p + 1)) (jn (w + p)) x.1 x.2) ((0 : Int32), t) = some t1 from a1, bs, show (700 : Int32) = jn 700 from rfl, show (4507 : Int32) = jn 4507 from rfl, show (4505 : Int32) = jn 4505 from rfl, show m_puts t1 (jn 700) (1 : Int32) = some t2 from b1, bs, show lp (fun x : Int32 × St => m_plays_B169 (jn (w + p + 1)) (jn (w + p)) x.1 x.2) ((1 : Int32), t2) = some t3 from c1, bs, d1, bs, q4, m_cell_eq, bs, j402, f1, bs, q5, m_cell_eq, bs, j402, i1, bs, j1, bs]
