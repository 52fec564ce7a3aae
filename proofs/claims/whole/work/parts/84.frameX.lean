theorem fx_nwI {S T : List Nat} {t : St} {k n : Nat} {f : Nat → Int32} (h : S.elem k = true) (h1 : T.elem k = true) (h2 : T.elem 9000 = true) (h3 : T.elem 9001 = true) : fx S T t (nwI t k n f) := ⟨fun j hj => ⟨Eq.refl _, Eq.refl _, va_up_no h hj, Eq.refl _⟩, fun j hj => by
  show va_up (va_up (va_up _ _ _) _ _) _ _ j = _
  rw [va_up_no h3 hj, va_up_no h2 hj, va_up_no h1 hj]⟩
theorem fx_nwJ {S T : List Nat} {t : St} {k n : Nat} {f : Nat → Int64} (h : S.elem k = true) (h1 : T.elem k = true) (h2 : T.elem 9000 = true) (h3 : T.elem 9001 = true) : fx S T t (nwJ t k n f) := ⟨fun j hj => ⟨Eq.refl _, Eq.refl _, Eq.refl _, va_up_no h hj⟩, fun j hj => by
  show va_up (va_up (va_up _ _ _) _ _) _ _ j = _
  rw [va_up_no h3 hj, va_up_no h2 hj, va_up_no h1 hj]⟩
section FRA
variable {α β X Y : Type} {S T S' T' : List Nat} {x : Option α} {t t1 : St} {σ : α → St} {σb : β → St}
theorem FR_grw {k : Nat} {need : Int32} {f : St → Option α} (h1 : S.elem k = true) (h2 : T.elem k = true) (h3 : T.elem 9000 = true) (h4 : T.elem 9001 = true) (h : ∀ z, fx S T t1 z → FR S T (f z) t σ) : FR S T (grw t1 k need f) t σ := fun a e => by
  obtain ⟨z, hz, e2⟩ := grw_some e
  rcases hz with ⟨-, rfl⟩ | ⟨-, -, -, rfl⟩
  · exact h _ fx.rfl a e2
  · exact h _ (fx_nwI h1 h2 h3 h4) a e2
theorem FR_cpy {k : Nat} {n : Int32} {f : St → Option α} (h1 : S.elem k = true) (h2 : T.elem k = true) (h3 : T.elem 9000 = true) (h4 : T.elem 9001 = true) (h : ∀ z, fx S T t1 z → FR S T (f z) t σ) : FR S T (cpy t1 k n f) t σ := fun a e => by
  obtain ⟨z, hz, e2⟩ := cpy_some e
  obtain ⟨-, -, -, -, rfl⟩ := hz
  exact h _ (fx_nwI h1 h2 h3 h4) a e2
theorem FR_nwl {k : Nat} {n : Int32} {f : St → Option α} (h1 : S.elem k = true) (h2 : T.elem k = true) (h3 : T.elem 9000 = true) (h4 : T.elem 9001 = true) (h : ∀ z, fx S T t1 z → FR S T (f z) t σ) : FR S T (nwl t1 k n f) t σ := fun a e => by
  obtain ⟨z, hz, e2⟩ := nwl_some e
  obtain ⟨-, -, rfl⟩ := hz
  exact h _ (fx_nwJ h1 h2 h3 h4) a e2
end FRA

/-- the reading of a row, one level deeper -/
def RRf (rr : RRt) : Prop := ∀ (t : St) (a b : Int32), FR [603, 604, 605, 606, 607, 608, 609, 610, 701, 702, 703, 704] [608, 9000, 9001] (rr t a b) t (fun (q : Int32 × St) => q.2)
theorem fr_x5_put (t : St) (a1 : Int32) (a2 : Int32) (a3 : Int32) : FR [500] [] (x5_put t a1 a2 a3) t (fun (a : St) => a) := by
  unfold x5_put
  exact FR_gd (FR_nmS (fx_sA rfl) (fun t2 ht2 => FR_some ht2))
theorem fr_x4_forgetFront (t : St) : FR [409] [] (x4_forgetFront t) t (fun (a : St) => a) := by
  unfold x4_forgetFront
  exact FR_nmS (fx_sI rfl) (fun t1 ht1 => FR_some ht1)
theorem fr_x11_step (t : St) (a1 : Int32) (a2 : Int32) (a3 : Int32) (a4 : Int32) : FR [409, 500] [] (x11_step t a1 a2 a3 a4) t (fun (a : Int32 × St) => a.2) := by
  unfold x11_step
  exact FR_bindn (fun q1 => FR_ite (FR_bindn (fun q5 => FR_ite (FR_bindn (fun q9 => FR_ite (FR_bindn (fun q13 => FR_ite (FR_bind (fr_x5_put t a1 (0 : Int32) a2) (fun q17 hq17 => FR_bind (fr_x5_put q17 a1 (1 : Int32) a3) (fun q19 hq19 => FR_bind (fr_x5_put q19 a1 (2 : Int32) a4) (fun q21 hq21 => FR_bind (fr_x4_forgetFront q21) (fun q23 hq23 => FR_some (fx.trans (fx.trans (fx.trans hq17 hq19) hq21) hq23)))))) (FR_some fx.rfl))) (FR_some fx.rfl))) (FR_some fx.rfl))) (FR_some fx.rfl))
theorem fr_x11_trace (t : St) (a1 : Int32) (a2 : Int32) (a3 : Int32) : FR [500] [] (x11_trace t a1 a2 a3) t (fun (a : Int32 × St) => a.2) := by
  unfold x11_trace
  exact FR_bindn (fun q1 => FR_ite (FR_bindn (fun q5 => FR_ite (FR_bindn (fun q9 => FR_ite (FR_bind (fr_x5_put t a1 (3 : Int32) a2) (fun q13 hq13 => FR_bind (fr_x5_put q13 a1 (4 : Int32) a3) (fun q15 hq15 => FR_some (fx.trans hq13 hq15)))) (FR_some fx.rfl))) (FR_some fx.rfl))) (FR_some fx.rfl))
theorem fr_x6_append (t : St) (a1 : Int32) : FR [600, 601] [] (x6_append t a1) t (fun (a : Int32 × St) => a.2) := by
  unfold x6_append
  exact FR_ite (FR_gd (FR_nmS (fx_sA rfl) (fun t3 ht3 => FR_nmS (fx_sI rfl) (fun t4 ht4 => FR_some (fx.trans ht3 ht4))))) (FR_some fx.rfl)
theorem fr_x11_write (t : St) (a1 : Int32) : FR [600, 601] [] (x11_write t a1) t (fun (a : Int32 × St) => a.2) := by
  unfold x11_write
  exact FR_bindn (fun q1 => FR_ite (FR_bind (fr_x6_append t a1) (fun q5 hq5 => FR_ite (FR_some hq5) (FR_some hq5))) (FR_some fx.rfl))
theorem fr_x11_erase (t : St) : FR [601] [] (x11_erase t) t (fun (a : Int32 × St) => a.2) := by
  unfold x11_erase
  exact FR_nm (fun x1 _ => FR_nmS (fx_sI rfl) (fun t2 ht2 => FR_some ht2))
theorem fr_x7_next_B0 (t : St) : FR [703] [] (x7_next_B0 t) t (Sum.elim (fun (x : St) => x) (fun (y : St) => y)) := by
  unfold x7_next_B0
  exact FR_ite (FR_some fx.rfl) (FR_gd (FR_ite (FR_nmS (fx_sI rfl) (fun t4 ht4 => FR_some ht4)) (FR_some fx.rfl)))
theorem fr_x7_next_L0 (t : St) : FR [703] [] (lp (fun x => x7_next_B0 x) t) t (fun (y : St) => y) := FR_lp (p := (fun (x : St) => x)) (q := (fun (y : St) => y)) (fun x => fr_x7_next_B0 x) t
theorem fr_x7_next (t : St) : FR [703] [] (x7_next t) t (fun (a : Int32 × St) => a.2) := by
  unfold x7_next
  exact FR_bind (fr_x7_next_L0 t) (fun y5 hm6 => FR_ite (FR_some hm6) (FR_gd (FR_some hm6)))
theorem fr_x7_refuse (t : St) (a1 : Int32) (a2 : Int32) : FR [704] [] (x7_refuse t a1 a2) t (fun (a : Int32 × St) => a.2) := by
  unfold x7_refuse
  exact FR_nmS (fx_sI rfl) (fun t1 ht1 => FR_some ht1)
theorem fr_x7_refuseHere_J17 (t : St) (w1 : Int32) (w2 : Int32) : FR [703, 704] [] (x7_refuseHere_J17 t w1 w2) t (fun (a : Int32 × St) => a.2) := by
  unfold x7_refuseHere_J17
  exact FR_bind (fr_x7_refuse t w1 w2) (fun q1 hq1 => FR_some hq1)
theorem fr_x7_refuseHere (t : St) : FR [703, 704] [] (x7_refuseHere t) t (fun (a : Int32 × St) => a.2) := by
  unfold x7_refuseHere
  exact FR_bind (fr_x7_next t) (fun q3 hq3 => FR_ite (FR_wk hq3 (fr_x7_refuseHere_J17 q3.2 (gI t 703) (1 : Int32))) (FR_wk hq3 (fr_x7_refuseHere_J17 q3.2 (gI t 703) (2 : Int32))))
theorem fr_x7_hold (t : St) (a1 : Int32) : FR [701, 702] [] (x7_hold t a1) t (fun (a : St) => a) := by
  unfold x7_hold
  exact FR_ite (FR_gd (FR_nmS (fx_sA rfl) (fun t3 ht3 => FR_nmS (fx_sI rfl) (fun t4 ht4 => FR_some (fx.trans ht3 ht4))))) (FR_some fx.rfl)
theorem fr_x7_closes (t : St) (a1 : Int32) : FR [703, 704] [] (x7_closes t a1) t (fun (a : Int32 × St) => a.2) := by
  unfold x7_closes
  exact FR_bind (fr_x7_next t) (fun q1 hq1 => FR_ite (FR_nmS (fx_sI rfl) (fun t6 ht6 => FR_some (fx.trans hq1 ht6))) (FR_bind (fr_x7_refuseHere q1.2) (fun q4 hq4 => FR_some (fx.trans hq1 hq4))))
theorem fr_x6_addKnot (t : St) (a1 : Int32) (a2 : Int32) (a3 : Int32) (a4 : Int32) : FR [603, 604, 605, 606, 607, 609] [] (x6_addKnot t a1 a2 a3 a4) t (fun (a : Int32 × St) => a.2) := by
  unfold x6_addKnot
  exact FR_ite (FR_gd (FR_nmS (fx_sA rfl) (fun t3 ht3 => FR_gd (FR_nmS (fx_sA rfl) (fun t5 ht5 => FR_gd (FR_nmS (fx_sA rfl) (fun t7 ht7 => FR_gd (FR_nmS (fx_sA rfl) (fun t9 ht9 => FR_gd (FR_nmS (fx_sA rfl) (fun t11 ht11 => FR_nmS (fx_sI rfl) (fun t12 ht12 => FR_some (fx.trans (fx.trans (fx.trans (fx.trans (fx.trans ht3 ht5) ht7) ht9) ht11) ht12))))))))))))) (FR_some fx.rfl)
theorem fr_x6_addRow_701_B49 (v1 : Int32) (v2 : Int32) (v4 : Int32) (v5 : Int32) (v6 : Int32) (v7 : Int32) (t : St) : FR [603, 604, 605, 606, 607, 608, 609, 610] [608, 9000, 9001] (x6_addRow_701_B49 v1 v2 v4 v5 v6 v7 t) t (Sum.elim (fun (x : Int32 × Int32 × St) => x.2.2) (fun (y : Int32 × St) => y.2)) := by
  unfold x6_addRow_701_B49
  exact FR_ite (FR_some fx.rfl) (FR_gd (FR_nm (fun x3 _ => FR_gd (FR_nmS (fx_sA rfl) (fun t5 ht5 => FR_gd (FR_nm (fun x7 _ => FR_nm (fun x8 _ => FR_some ht5))))))))
theorem fr_x6_addRow_701_L49 (v1 : Int32) (v2 : Int32) (v4 : Int32) (v5 : Int32) (v6 : Int32) (v7 : Int32) (t : St) : FR [603, 604, 605, 606, 607, 608, 609, 610] [608, 9000, 9001] (lp (fun x => x6_addRow_701_B49 v1 v2 v4 v5 x.1 x.2.1 x.2.2) (v6, v7, t)) t (fun (y : Int32 × St) => y.2) := FR_lp (p := (fun (x : Int32 × Int32 × St) => x.2.2)) (q := (fun (y : Int32 × St) => y.2)) (fun x => fr_x6_addRow_701_B49 v1 v2 v4 v5 x.1 x.2.1 x.2.2) (v6, v7, t)
theorem fr_x6_addRow_701_J43 (t : St) (v1 : Int32) (v2 : Int32) (v4 : Int32) (v5 : Int32) : FR [603, 604, 605, 606, 607, 608, 609, 610] [608, 9000, 9001] (x6_addRow_701_J43 t v1 v2 v4 v5) t (fun (a : Int32 × St) => a.2) := by
  unfold x6_addRow_701_J43
  exact FR_bind (fr_x6_addRow_701_L49 v1 v2 v4 v5 (0 : Int32) (0 : Int32) t) (fun y9 hm10 => FR_bind (fr_x6_addKnot y9.2 v1 v5 v2 y9.1) (fun q12 hq12 => FR_nmS (fx_sI rfl) (fun t14 ht14 => FR_some (fx.trans (fx.trans hm10 hq12) ht14))))
theorem fr_x6_addRow_701 (t0 : St) (a1 : Int32) (a2 : Int32) (a4 : Int32) (a5 : Int32) : FR [603, 604, 605, 606, 607, 608, 609, 610] [608, 9000, 9001] (x6_addRow_701 t0 a1 a2 a4 a5) t0 (fun (a : Int32 × St) => a.2) := by
  unfold x6_addRow_701
  exact FR_ite (FR_wk fx.rfl (fr_x6_addRow_701_J43 t0 a1 a2 a4 a5)) (FR_cpy rfl rfl rfl rfl (fun t16 ht16 => FR_wk ht16 (fr_x6_addRow_701_J43 t16 a1 a2 a4 a5)))
theorem fr_x7_readSome_J117 (rr : RRt) (hmm : RRf rr) (t : St) (v1 : Int32) (v2 : Int32) (v3 : Int32) (v4 : Int32) (v5 : Int32) (w1 : Int32) : FR [603, 604, 605, 606, 607, 608, 609, 610, 701, 702, 703, 704] [608, 9000, 9001] (x7_readSome_J117 rr t v1 v2 v3 v4 v5 w1) t (Sum.elim (fun (x : Int32 × St) => x.2) (fun (y : St) => y)) := by
  unfold x7_readSome_J117
  exact FR_bind (fr_x7_hold t w1) (fun q1 hq1 => FR_nm (fun x3 _ => FR_some hq1))
theorem fr_x7_readSome_B56 (rr : RRt) (hmm : RRf rr) (v1 : Int32) (v2 : Int32) (v3 : Int32) (v4 : Int32) (v5 : Int32) (t : St) : FR [603, 604, 605, 606, 607, 608, 609, 610, 701, 702, 703, 704] [608, 9000, 9001] (x7_readSome_B56 rr v1 v2 v3 v4 v5 t) t (Sum.elim (fun (x : Int32 × St) => x.2) (fun (y : St) => y)) := by
  unfold x7_readSome_B56
  exact FR_ite (FR_some fx.rfl) (FR_ite (FR_bind (fr_x7_next t) (fun q6 hq6 => FR_ite (FR_ite (FR_bind (fr_x7_refuse q6.2 (gI q6.2 703) (7 : Int32)) (fun q13 hq13 => FR_nm (fun x15 _ => FR_some (fx.trans hq6 hq13)))) (FR_nmS (fx_sI rfl) (fun t10 ht10 => FR_bind (hmm t10 (1 : Int32) v1) (fun q11 hq11 => FR_wk (fx.trans (fx.trans hq6 ht10) hq11) (fr_x7_readSome_J117 rr hmm q11.2 v1 v2 v3 v4 v5 q11.1))))) (FR_some hq6))) (FR_some fx.rfl))
theorem fr_x7_readSome_L56 (rr : RRt) (hmm : RRf rr) (v1 : Int32) (v2 : Int32) (v3 : Int32) (v4 : Int32) (v5 : Int32) (t : St) : FR [603, 604, 605, 606, 607, 608, 609, 610, 701, 702, 703, 704] [608, 9000, 9001] (lp (fun x => x7_readSome_B56 rr v1 v2 v3 v4 x.1 x.2) (v5, t)) t (fun (y : St) => y) := FR_lp (p := (fun (x : Int32 × St) => x.2)) (q := (fun (y : St) => y)) (fun x => fr_x7_readSome_B56 rr hmm v1 v2 v3 v4 x.1 x.2) (v5, t)
theorem fr_x7_readSome_J17 (rr : RRt) (hmm : RRf rr) (t : St) : FR [603, 604, 605, 606, 607, 608, 609, 610, 701, 702, 703, 704] [608, 9000, 9001] (x7_readSome_J17 rr t) t (fun (a : Int32 × St) => a.2) := by
  unfold x7_readSome_J17
  exact FR_bind (fr_x7_refuseHere t) (fun q16 hq16 => FR_some hq16)
theorem fr_x7_readSome_J177 (rr : RRt) (hmm : RRf rr) (t : St) (v3 : Int32) : FR [603, 604, 605, 606, 607, 608, 609, 610, 701, 702, 703, 704] [608, 9000, 9001] (x7_readSome_J177 rr t v3) t (fun (a : Int32 × St) => a.2) := by
  unfold x7_readSome_J177
  exact FR_bind (fr_x7_refuse t v3 (4 : Int32)) (fun q18 hq18 => FR_some hq18)
theorem fr_x7_readSome_J202 (rr : RRt) (hmm : RRf rr) (t : St) (w0 : Int32) : FR [603, 604, 605, 606, 607, 608, 609, 610, 701, 702, 703, 704] [608, 9000, 9001] (x7_readSome_J202 rr t w0) t (fun (a : Int32 × St) => a.2) := by
  unfold x7_readSome_J202
  exact FR_some fx.rfl
theorem fr_x7_readSome_J126 (rr : RRt) (hmm : RRf rr) (t : St) (v2 : Int32) (v3 : Int32) (v4 : Int32) : FR [603, 604, 605, 606, 607, 608, 609, 610, 701, 702, 703, 704] [608, 9000, 9001] (x7_readSome_J126 rr t v2 v3 v4) t (fun (a : Int32 × St) => a.2) := by
  unfold x7_readSome_J126
  exact FR_nm (fun x20 _ => FR_nmS (fx_sI rfl) (fun t21 ht21 => FR_ite (FR_bind (fr_x7_closes t21 (93 : Int32)) (fun q23 hq23 => FR_ite (FR_some (fx.trans ht21 hq23)) (FR_nm (fun x27 _ => FR_ite (FR_wk (fx.trans ht21 hq23) (fr_x7_readSome_J177 rr hmm q23.2 v3)) (FR_ite (FR_bind (fr_x6_addRow_701 q23.2 (4 : Int32) x27 v4 x20) (fun q30 hq30 => FR_wk (fx.trans (fx.trans ht21 hq23) hq30) (fr_x7_readSome_J202 rr hmm q30.2 q30.1))) (FR_wk (fx.trans ht21 hq23) (fr_x7_readSome_J177 rr hmm q23.2 v3))))))) (FR_some ht21)))
theorem fr_x7_readSome_J50 (rr : RRt) (hmm : RRf rr) (t : St) (v1 : Int32) (v2 : Int32) (v3 : Int32) (v4 : Int32) (w1 : Int32) : FR [603, 604, 605, 606, 607, 608, 609, 610, 701, 702, 703, 704] [608, 9000, 9001] (x7_readSome_J50 rr t v1 v2 v3 v4 w1) t (fun (a : Int32 × St) => a.2) := by
  unfold x7_readSome_J50
  exact FR_bind (fr_x7_hold t w1) (fun q32 hq32 => FR_bind (fr_x7_readSome_L56 rr hmm v1 v2 v3 v4 (1 : Int32) q32) (fun y34 hm35 => FR_wk (fx.trans hq32 hm35) (fr_x7_readSome_J126 rr hmm y34 v2 v3 v4)))
theorem fr_x7_readSome (rr : RRt) (hmm : RRf rr) (t0 : St) (a1 : Int32) : FR [603, 604, 605, 606, 607, 608, 609, 610, 701, 702, 703, 704] [608, 9000, 9001] (x7_readSome rr t0 a1) t0 (fun (a : Int32 × St) => a.2) := by
  unfold x7_readSome
  exact FR_bind (fr_x7_next t0) (fun q37 hq37 => FR_ite (FR_wk hq37 (fr_x7_readSome_J17 rr hmm q37.2)) (FR_ite (FR_nm (fun x41 _ => FR_nmS (fx_sI rfl) (fun t42 ht42 => FR_nm (fun x43 _ => FR_bind (hmm t42 (1 : Int32) a1) (fun q44 hq44 => FR_wk (fx.trans (fx.trans hq37 ht42) hq44) (fr_x7_readSome_J50 rr hmm q44.2 a1 q37.1 x41 x43 q44.1)))))) (FR_wk hq37 (fr_x7_readSome_J17 rr hmm q37.2))))
theorem fr_x7_readInside_J6 (rr : RRt) (hmm : RRf rr) (t : St) (w0 : Int32) : FR [603, 604, 605, 606, 607, 608, 609, 610, 701, 702, 703, 704] [608, 9000, 9001] (x7_readInside_J6 rr t w0) t (fun (a : Int32 × St) => a.2) := by
  unfold x7_readInside_J6
  exact FR_ite (FR_bind (fr_x7_closes t (41 : Int32)) (fun q2 hq2 => FR_ite (FR_some hq2) (FR_some hq2))) (FR_some fx.rfl)
theorem fr_x7_readInside (rr : RRt) (hmm : RRf rr) (t0 : St) (a1 : Int32) : FR [603, 604, 605, 606, 607, 608, 609, 610, 701, 702, 703, 704] [608, 9000, 9001] (x7_readInside rr t0 a1) t0 (fun (a : Int32 × St) => a.2) := by
  unfold x7_readInside
  exact FR_bind (hmm t0 (1 : Int32) a1) (fun q6 hq6 => FR_wk hq6 (fr_x7_readInside_J6 rr hmm q6.2 q6.1))
theorem fr_x7_readDigit (t : St) (a1 : Int32) : FR [703, 704] [] (x7_readDigit t a1) t (fun (a : Int32 × St) => a.2) := by
  unfold x7_readDigit
  exact FR_gd (FR_ite (FR_nmS (fx_sI rfl) (fun t3 ht3 => FR_gd (FR_some ht3))) (FR_bind (fr_x7_refuse t (gI t 703) (3 : Int32)) (fun q5 hq5 => FR_some hq5)))
theorem fr_x6_addLetter (t : St) (a1 : Int32) : FR [603, 604, 605, 606, 607, 609] [] (x6_addLetter t a1) t (fun (a : Int32 × St) => a.2) := by
  unfold x6_addLetter
  exact FR_bind (fr_x6_addKnot t (0 : Int32) a1 (0 : Int32) ((1 : Int32) <<< (a1 &&& 31))) (fun q1 hq1 => FR_some hq1)
theorem fr_x7_readPart_J126 (rr : RRt) (hmm : RRf rr) (t : St) (w0 : Int32) : FR [603, 604, 605, 606, 607, 608, 609, 610, 701, 702, 703, 704] [608, 9000, 9001] (x7_readPart_J126 rr t w0) t (fun (a : Int32 × St) => a.2) := by
  unfold x7_readPart_J126
  exact FR_some fx.rfl
theorem fr_x7_readPart_J116 (rr : RRt) (hmm : RRf rr) (t : St) (w0 : Int32) : FR [603, 604, 605, 606, 607, 608, 609, 610, 701, 702, 703, 704] [608, 9000, 9001] (x7_readPart_J116 rr t w0) t (fun (a : Int32 × St) => a.2) := by
  unfold x7_readPart_J116
  exact FR_wk fx.rfl (fr_x7_readPart_J126 rr hmm t w0)
theorem fr_x7_readPart_J77 (rr : RRt) (hmm : RRf rr) (t : St) (v1 : Int32) (v2 : Int32) : FR [603, 604, 605, 606, 607, 608, 609, 610, 701, 702, 703, 704] [608, 9000, 9001] (x7_readPart_J77 rr t v1 v2) t (fun (a : Int32 × St) => a.2) := by
  unfold x7_readPart_J77
  exact FR_ite (FR_nmS (fx_sI rfl) (fun t2 ht2 => FR_ite (FR_bind (fr_x7_readInside rr hmm t2 (v1 + (1 : Int32))) (fun q6 hq6 => FR_wk (fx.trans ht2 hq6) (fr_x7_readPart_J116 rr hmm q6.2 q6.1))) (FR_bind (fr_x7_readSome rr hmm t2 (v1 + (1 : Int32))) (fun q4 hq4 => FR_wk (fx.trans ht2 hq4) (fr_x7_readPart_J126 rr hmm q4.2 q4.1))))) (FR_bind (fr_x7_refuse t (gI t 703) (5 : Int32)) (fun q8 hq8 => FR_some hq8))
theorem fr_x7_readPart_J60 (rr : RRt) (hmm : RRf rr) (t : St) (v1 : Int32) (v2 : Int32) : FR [603, 604, 605, 606, 607, 608, 609, 610, 701, 702, 703, 704] [608, 9000, 9001] (x7_readPart_J60 rr t v1 v2) t (fun (a : Int32 × St) => a.2) := by
  unfold x7_readPart_J60
  exact FR_ite (FR_wk fx.rfl (fr_x7_readPart_J77 rr hmm t v1 v2)) (FR_ite (FR_wk fx.rfl (fr_x7_readPart_J77 rr hmm t v1 v2)) (FR_bind (fr_x7_refuseHere t) (fun q12 hq12 => FR_some hq12)))
theorem fr_x7_readPart_J39 (rr : RRt) (hmm : RRf rr) (t : St) (v1 : Int32) (v2 : Int32) : FR [603, 604, 605, 606, 607, 608, 609, 610, 701, 702, 703, 704] [608, 9000, 9001] (x7_readPart_J39 rr t v1 v2) t (fun (a : Int32 × St) => a.2) := by
  unfold x7_readPart_J39
  exact FR_ite (FR_wk fx.rfl (fr_x7_readPart_J60 rr hmm t v1 v2)) (FR_ite (FR_wk fx.rfl (fr_x7_readPart_J60 rr hmm t v1 v2)) (FR_bind (fr_x7_readDigit t (v2 - (48 : Int32))) (fun q16 hq16 => FR_some hq16)))
theorem fr_x7_readPart (rr : RRt) (hmm : RRf rr) (t0 : St) (a1 : Int32) : FR [603, 604, 605, 606, 607, 608, 609, 610, 701, 702, 703, 704] [608, 9000, 9001] (x7_readPart rr t0 a1) t0 (fun (a : Int32 × St) => a.2) := by
  unfold x7_readPart
  exact FR_bind (fr_x7_next t0) (fun q18 hq18 => FR_ite (FR_wk hq18 (fr_x7_readPart_J39 rr hmm q18.2 a1 q18.1)) (FR_ite (FR_wk hq18 (fr_x7_readPart_J39 rr hmm q18.2 a1 q18.1)) (FR_nmS (fx_sI rfl) (fun t22 ht22 => FR_bind (fr_x6_addLetter t22 (q18.1 - (97 : Int32))) (fun q23 hq23 => FR_some (fx.trans (fx.trans hq18 ht22) hq23))))))
theorem fr_x7_readInRow_J21 (rr : RRt) (hmm : RRf rr) (t : St) (w0 : Int32) : FR [603, 604, 605, 606, 607, 608, 609, 610, 701, 702, 703, 704] [608, 9000, 9001] (x7_readInRow_J21 rr t w0) t (fun (a : Int32 × St) => a.2) := by
  unfold x7_readInRow_J21
  exact FR_some fx.rfl
theorem fr_x7_readInRow_J10 (rr : RRt) (hmm : RRf rr) (t : St) (w0 : Int32) : FR [603, 604, 605, 606, 607, 608, 609, 610, 701, 702, 703, 704] [608, 9000, 9001] (x7_readInRow_J10 rr t w0) t (fun (a : Int32 × St) => a.2) := by
  unfold x7_readInRow_J10
  exact FR_wk fx.rfl (fr_x7_readInRow_J21 rr hmm t w0)
theorem fr_x7_readInRow (rr : RRt) (hmm : RRf rr) (t0 : St) (a1 : Int32) (a2 : Int32) : FR [603, 604, 605, 606, 607, 608, 609, 610, 701, 702, 703, 704] [608, 9000, 9001] (x7_readInRow rr t0 a1 a2) t0 (fun (a : Int32 × St) => a.2) := by
  unfold x7_readInRow
  exact FR_ite (FR_bind (fr_x7_readPart rr hmm t0 a2) (fun q4 hq4 => FR_wk hq4 (fr_x7_readInRow_J10 rr hmm q4.2 q4.1))) (FR_bind (hmm t0 (a1 + (1 : Int32)) a2) (fun q2 hq2 => FR_wk hq2 (fr_x7_readInRow_J21 rr hmm q2.2 q2.1)))
theorem fr_x7_readRowS_J60 (rr : RRt) (hmm : RRf rr) (t : St) (v1 : Int32) (v2 : Int32) (v3 : Int32) (v4 : Int32) (w1 : Int32) : FR [603, 604, 605, 606, 607, 608, 609, 610, 701, 702, 703, 704] [608, 9000, 9001] (x7_readRowS_J60 rr t v1 v2 v3 v4 w1) t (Sum.elim (fun (x : Int32 × St) => x.2) (fun (y : St) => y)) := by
  unfold x7_readRowS_J60
  exact FR_bind (fr_x7_hold t w1) (fun q1 hq1 => FR_nm (fun x3 _ => FR_some hq1))
theorem fr_x7_readRowS_B18 (rr : RRt) (hmm : RRf rr) (v1 : Int32) (v2 : Int32) (v3 : Int32) (v4 : Int32) (t : St) : FR [603, 604, 605, 606, 607, 608, 609, 610, 701, 702, 703, 704] [608, 9000, 9001] (x7_readRowS_B18 rr v1 v2 v3 v4 t) t (Sum.elim (fun (x : Int32 × St) => x.2) (fun (y : St) => y)) := by
  unfold x7_readRowS_B18
  exact FR_ite (FR_some fx.rfl) (FR_ite (FR_bind (fr_x7_next t) (fun q6 hq6 => FR_bindn (fun q8 => FR_ite (FR_nmS (fx_sI rfl) (fun t11 ht11 => FR_bind (fr_x7_readInRow rr hmm t11 v1 v2) (fun q12 hq12 => FR_wk (fx.trans (fx.trans hq6 ht11) hq12) (fr_x7_readRowS_J60 rr hmm q12.2 v1 v2 v3 v4 q12.1)))) (FR_some hq6)))) (FR_some fx.rfl))
theorem fr_x7_readRowS_L18 (rr : RRt) (hmm : RRf rr) (v1 : Int32) (v2 : Int32) (v3 : Int32) (v4 : Int32) (t : St) : FR [603, 604, 605, 606, 607, 608, 609, 610, 701, 702, 703, 704] [608, 9000, 9001] (lp (fun x => x7_readRowS_B18 rr v1 v2 v3 x.1 x.2) (v4, t)) t (fun (y : St) => y) := FR_lp (p := (fun (x : Int32 × St) => x.2)) (q := (fun (y : St) => y)) (fun x => fr_x7_readRowS_B18 rr hmm v1 v2 v3 x.1 x.2) (v4, t)
theorem fr_x7_readRowS_J122 (rr : RRt) (hmm : RRf rr) (t : St) (w0 : Int32) : FR [603, 604, 605, 606, 607, 608, 609, 610, 701, 702, 703, 704] [608, 9000, 9001] (x7_readRowS_J122 rr t w0) t (fun (a : Int32 × St) => a.2) := by
  unfold x7_readRowS_J122
  exact FR_some fx.rfl
theorem fr_x7_readRowS_J69 (rr : RRt) (hmm : RRf rr) (t : St) (v1 : Int32) (v3 : Int32) : FR [603, 604, 605, 606, 607, 608, 609, 610, 701, 702, 703, 704] [608, 9000, 9001] (x7_readRowS_J69 rr t v1 v3) t (fun (a : Int32 × St) => a.2) := by
  unfold x7_readRowS_J69
  exact FR_nm (fun x14 _ => FR_nmS (fx_sI rfl) (fun t15 ht15 => FR_ite (FR_ite (FR_gd (FR_wk ht15 (fr_x7_readRowS_J122 rr hmm t15 (gA t15 701 (v3).toNatClampNeg)))) (FR_bind (fr_x6_addRow_701 t15 v1 (0 : Int32) v3 x14) (fun q18 hq18 => FR_wk (fx.trans ht15 hq18) (fr_x7_readRowS_J122 rr hmm q18.2 q18.1)))) (FR_some ht15)))
theorem fr_x7_readRowS_J12 (rr : RRt) (hmm : RRf rr) (t : St) (v1 : Int32) (v2 : Int32) (v3 : Int32) (w1 : Int32) : FR [603, 604, 605, 606, 607, 608, 609, 610, 701, 702, 703, 704] [608, 9000, 9001] (x7_readRowS_J12 rr t v1 v2 v3 w1) t (fun (a : Int32 × St) => a.2) := by
  unfold x7_readRowS_J12
  exact FR_bind (fr_x7_hold t w1) (fun q21 hq21 => FR_bind (fr_x7_readRowS_L18 rr hmm v1 v2 v3 (1 : Int32) q21) (fun y23 hm24 => FR_wk (fx.trans hq21 hm24) (fr_x7_readRowS_J69 rr hmm y23 v1 v3)))
theorem fr_x7_readRowS (rr : RRt) (hmm : RRf rr) (t0 : St) (a1 : Int32) (a2 : Int32) : FR [603, 604, 605, 606, 607, 608, 609, 610, 701, 702, 703, 704] [608, 9000, 9001] (x7_readRowS rr t0 a1 a2) t0 (fun (a : Int32 × St) => a.2) := by
  unfold x7_readRowS
  exact FR_nm (fun x26 _ => FR_bind (fr_x7_readInRow rr hmm t0 a1 a2) (fun q27 hq27 => FR_wk hq27 (fr_x7_readRowS_J12 rr hmm q27.2 a1 a2 x26 q27.1)))
theorem fr_x6_shrinkTo (t : St) (a1 : Int32) (a2 : Int32) : FR [609, 610] [] (x6_shrinkTo t a1 a2) t (fun (a : St) => a) := by
  unfold x6_shrinkTo
  exact FR_nmS (fx_sI rfl) (fun t1 ht1 => FR_nmS (fx_sI rfl) (fun t2 ht2 => FR_some (fx.trans ht1 ht2)))
theorem RRf_rr : ∀ n : Nat, RRf (x7_readRow n)
  | 0 => fun t a b q e => by cases e
  | n + 1 => fun t a b q e => fr_x7_readRowS (x7_readRow n) (RRf_rr n) t a b q e
theorem fr_x7_readRow30 (t0 : St) (a1 : Int32) (a2 : Int32) : FR [603, 604, 605, 606, 607, 608, 609, 610, 701, 702, 703, 704] [608, 9000, 9001] (x7_readRow30 t0 a1 a2) t0 (fun (a : Int32 × St) => a.2) := RRf_rr 30 t0 a1 a2
theorem fr_x7_readText_J96 (t : St) (v1 : Int32) (v2 : Int32) (v3 : Int32) : FR [603, 604, 605, 606, 607, 608, 609, 610, 701, 702, 703, 704] [608, 9000, 9001] (x7_readText_J96 t v1 v2 v3) t (fun (a : Int32 × St) => a.2) := by
  unfold x7_readText_J96
  exact FR_ite (FR_some fx.rfl) (FR_bind (fr_x6_shrinkTo t v1 v2) (fun q2 hq2 => FR_some hq2))
theorem fr_x7_readText_J62 (t : St) (v1 : Int32) (v2 : Int32) (v3 : Int32) : FR [603, 604, 605, 606, 607, 608, 609, 610, 701, 702, 703, 704] [608, 9000, 9001] (x7_readText_J62 t v1 v2 v3) t (fun (a : Int32 × St) => a.2) := by
  unfold x7_readText_J62
  exact FR_ite (FR_ite (FR_wk fx.rfl (fr_x7_readText_J96 t v1 v2 v3)) (FR_bind (fr_x7_refuse t (gI t 601) (6 : Int32)) (fun q6 hq6 => FR_wk hq6 (fr_x7_readText_J96 q6.2 v1 v2 v3)))) (FR_wk fx.rfl (fr_x7_readText_J96 t v1 v2 v3))
theorem fr_x7_readText_J37 (t : St) (v1 : Int32) (v2 : Int32) (w0 : Int32) : FR [603, 604, 605, 606, 607, 608, 609, 610, 701, 702, 703, 704] [608, 9000, 9001] (x7_readText_J37 t v1 v2 w0) t (fun (a : Int32 × St) => a.2) := by
  unfold x7_readText_J37
  exact FR_ite (FR_bind (fr_x7_next t) (fun q9 hq9 => FR_ite (FR_wk hq9 (fr_x7_readText_J62 q9.2 v1 v2 w0)) (FR_bind (fr_x7_refuse q9.2 (gI q9.2 703) (1 : Int32)) (fun q12 hq12 => FR_wk (fx.trans hq9 hq12) (fr_x7_readText_J62 q12.2 v1 v2 w0))))) (FR_wk fx.rfl (fr_x7_readText_J62 t v1 v2 w0))
theorem fr_x7_readText (t0 : St) : FR [603, 604, 605, 606, 607, 608, 609, 610, 701, 702, 703, 704] [608, 9000, 9001] (x7_readText t0) t0 (fun (a : Int32 × St) => a.2) := by
  unfold x7_readText
  exact FR_nm (fun x14 _ => FR_nm (fun x15 _ => FR_nmS (fx_sI rfl) (fun t16 ht16 => FR_nmS (fx_sI rfl) (fun t17 ht17 => FR_nmS (fx_sI rfl) (fun t18 ht18 => FR_bind (fr_x7_readRow30 t18 (1 : Int32) (0 : Int32)) (fun q19 hq19 => FR_wk (fx.trans (fx.trans (fx.trans ht16 ht17) ht18) hq19) (fr_x7_readText_J37 q19.2 x14 x15 q19.1)))))))
theorem fr_x11_make_J17 (t : St) (v1 : Int32) (w0 : Int32) : FR [602, 603, 604, 605, 606, 607, 608, 609, 610, 701, 702, 703, 704] [608, 9000, 9001] (x11_make_J17 t v1 w0) t (fun (a : Int32 × St) => a.2) := by
  unfold x11_make_J17
  exact FR_ite (FR_gd (FR_nmS (fx_sA rfl) (fun t3 ht3 => FR_some ht3))) (FR_some fx.rfl)
theorem fr_x11_make (t0 : St) (a1 : Int32) : FR [602, 603, 604, 605, 606, 607, 608, 609, 610, 701, 702, 703, 704] [608, 9000, 9001] (x11_make t0 a1) t0 (fun (a : Int32 × St) => a.2) := by
  unfold x11_make
  exact FR_bindn (fun q4 => FR_ite (FR_bind (fr_x7_readText t0) (fun q8 hq8 => FR_wk hq8 (fr_x11_make_J17 q8.2 a1 q8.1))) (FR_some fx.rfl))
theorem fr_j7_fill_53178_602_B5 (v1 : Int32) (v3 : Int32) (v2 : Int32) (t : St) : FR [602] [] (j7_fill_53178_602_B5 v1 v3 v2 t) t (Sum.elim (fun (x : Int32 × St) => x.2) (fun (y : St) => y)) := by
  unfold j7_fill_53178_602_B5
  exact FR_ite (FR_some fx.rfl) (FR_gd (FR_nmS (fx_sA rfl) (fun t3 ht3 => FR_nm (fun x4 _ => FR_some ht3))))
theorem fr_j7_fill_53178_602_L5 (v1 : Int32) (v3 : Int32) (v2 : Int32) (t : St) : FR [602] [] (lp (fun x => j7_fill_53178_602_B5 v1 v3 x.1 x.2) (v2, t)) t (fun (y : St) => y) := FR_lp (p := (fun (x : Int32 × St) => x.2)) (q := (fun (y : St) => y)) (fun x => fr_j7_fill_53178_602_B5 v1 v3 x.1 x.2) (v2, t)
theorem fr_j7_fill_53178_602 (t : St) (a1 : Int32) : FR [602] [] (j7_fill_53178_602 t a1) t (fun (a : St) => a) := by
  unfold j7_fill_53178_602
  exact FR_nm (fun x5 _ => FR_bind (fr_j7_fill_53178_602_L5 a1 x5 (0 : Int32) t) (fun y6 hm7 => FR_some hm7))
theorem fr_x6_forget (t : St) : FR [602, 609, 610] [] (x6_forget t) t (fun (a : St) => a) := by
  unfold x6_forget
  exact FR_bind (fr_j7_fill_53178_602 t (-1 : Int32)) (fun q1 hq1 => FR_bind (fr_x6_shrinkTo q1 (0 : Int32) (0 : Int32)) (fun q3 hq3 => FR_some (fx.trans hq1 hq3)))
theorem fr_j7_fill_53178_813_B5 (v1 : Int32) (v3 : Int32) (v2 : Int32) (t : St) : FR [813] [] (j7_fill_53178_813_B5 v1 v3 v2 t) t (Sum.elim (fun (x : Int32 × St) => x.2) (fun (y : St) => y)) := by
  unfold j7_fill_53178_813_B5
  exact FR_ite (FR_some fx.rfl) (FR_gd (FR_nmS (fx_sA rfl) (fun t3 ht3 => FR_nm (fun x4 _ => FR_some ht3))))
theorem fr_j7_fill_53178_813_L5 (v1 : Int32) (v3 : Int32) (v2 : Int32) (t : St) : FR [813] [] (lp (fun x => j7_fill_53178_813_B5 v1 v3 x.1 x.2) (v2, t)) t (fun (y : St) => y) := FR_lp (p := (fun (x : Int32 × St) => x.2)) (q := (fun (y : St) => y)) (fun x => fr_j7_fill_53178_813_B5 v1 v3 x.1 x.2) (v2, t)
theorem fr_j7_fill_53178_813 (t : St) (a1 : Int32) : FR [813] [] (j7_fill_53178_813 t a1) t (fun (a : St) => a) := by
  unfold j7_fill_53178_813
  exact FR_nm (fun x5 _ => FR_bind (fr_j7_fill_53178_813_L5 a1 x5 (0 : Int32) t) (fun y6 hm7 => FR_some hm7))
theorem fr_x8_forget (t : St) : FR [805, 813] [] (x8_forget t) t (fun (a : St) => a) := by
  unfold x8_forget
  exact FR_nmS (fx_sI rfl) (fun t1 ht1 => FR_bind (fr_j7_fill_53178_813 t1 (0 : Int32)) (fun q2 hq2 => FR_some (fx.trans ht1 hq2)))
theorem fr_x10_forget (t : St) : FR [1005] [] (x10_forget t) t (fun (a : St) => a) := by
  unfold x10_forget
  exact FR_nmS (fx_sI rfl) (fun t1 ht1 => FR_some ht1)
theorem fr_x0_forget (t : St) : FR [2] [] (x0_forget t) t (fun (a : St) => a) := by
  unfold x0_forget
  exact FR_nmS (fx_sI rfl) (fun t1 ht1 => FR_some ht1)
theorem fr_x11_clear (t : St) : FR [2, 409, 602, 609, 610, 805, 813, 1005] [] (x11_clear t) t (fun (a : Int32 × St) => a.2) := by
  unfold x11_clear
  exact FR_nm (fun x1 _ => FR_bind (fr_x6_forget t) (fun q2 hq2 => FR_bind (fr_x8_forget q2) (fun q4 hq4 => FR_bind (fr_x10_forget q4) (fun q6 hq6 => FR_bind (fr_x0_forget q6) (fun q8 hq8 => FR_bind (fr_x4_forgetFront q8) (fun q10 hq10 => FR_some (fx.trans (fx.trans (fx.trans (fx.trans hq2 hq4) hq6) hq8) hq10)))))))
theorem fr_x6_isReachedBy_B2 (v1 : Int32) (v2 : Int32) (v3 : Int32) (t : St) : FR [611] [] (x6_isReachedBy_B2 v1 v2 v3 t) t (Sum.elim (fun (x : Int32 × St) => x.2) (fun (y : St) => y)) := by
  unfold x6_isReachedBy_B2
  exact FR_ite (FR_some fx.rfl) (FR_bindn (fun q2 => FR_gd (FR_nmS (fx_sA rfl) (fun t6 ht6 => FR_nm (fun x7 _ => FR_some ht6)))))
theorem fr_x6_isReachedBy_L2 (v1 : Int32) (v2 : Int32) (v3 : Int32) (t : St) : FR [611] [] (lp (fun x => x6_isReachedBy_B2 v1 v2 x.1 x.2) (v3, t)) t (fun (y : St) => y) := FR_lp (p := (fun (x : Int32 × St) => x.2)) (q := (fun (y : St) => y)) (fun x => fr_x6_isReachedBy_B2 v1 v2 x.1 x.2) (v3, t)
theorem fr_x6_isReachedBy (t : St) (a1 : Int32) (a2 : Int32) : FR [611] [] (x6_isReachedBy t a1 a2) t (fun (a : Int32 × St) => a.2) := by
  unfold x6_isReachedBy
  exact FR_bind (fr_x6_isReachedBy_L2 a1 a2 (0 : Int32) t) (fun y8 hm9 => FR_gd (FR_bz (FR_some hm9)))
theorem fr_x11_reaches (t : St) (a1 : Int32) (a2 : Int32) : FR [611] [] (x11_reaches t a1 a2) t (fun (a : Int32 × St) => a.2) := by
  unfold x11_reaches
  exact FR_bindn (fun q1 => FR_ite (FR_bindn (fun q5 => FR_ite (FR_gd (FR_nm (fun x10 _ => FR_ite (FR_bind (fr_x6_isReachedBy t x10 a2) (fun q12 hq12 => FR_ite (FR_some hq12) (FR_some hq12))) (FR_some fx.rfl)))) (FR_some fx.rfl))) (FR_some fx.rfl))
theorem fr_x8_rankSteps_B7 (v1 : Int32) (v2 : Int32) (t : St) : FR [801, 802, 803] [] (x8_rankSteps_B7 v1 v2 t) t (Sum.elim (fun (x : Int32 × St) => x.2) (fun (y : St) => y)) := by
  unfold x8_rankSteps_B7
  exact FR_ite (FR_some fx.rfl) (FR_ite (FR_gd (FR_nmS (fx_sA rfl) (fun t5 ht5 => FR_gd (FR_nmS (fx_sA rfl) (fun t7 ht7 => FR_nmS (fx_sI rfl) (fun t8 ht8 => FR_nm (fun x9 _ => FR_some (fx.trans (fx.trans ht5 ht7) ht8)))))))) (FR_nm (fun x3 _ => FR_some fx.rfl)))
theorem fr_x8_rankSteps_L7 (v1 : Int32) (v2 : Int32) (t : St) : FR [801, 802, 803] [] (lp (fun x => x8_rankSteps_B7 v1 x.1 x.2) (v2, t)) t (fun (y : St) => y) := FR_lp (p := (fun (x : Int32 × St) => x.2)) (q := (fun (y : St) => y)) (fun x => fr_x8_rankSteps_B7 v1 x.1 x.2) (v2, t)
theorem fr_x8_rankSteps (t : St) (a1 : Int32) : FR [801, 802, 803] [] (x8_rankSteps t a1) t (fun (a : St) => a) := by
  unfold x8_rankSteps
  exact FR_nmS (fx_sI rfl) (fun t10 ht10 => FR_bind (fr_x8_rankSteps_L7 a1 (0 : Int32) t10) (fun y11 hm12 => FR_some (fx.trans ht10 hm12)))
theorem fr_x8_markNeeded_B2 (v1 : Int32) (t : St) : FR [810, 811] [] (x8_markNeeded_B2 v1 t) t (Sum.elim (fun (x : Int32 × St) => x.2) (fun (y : St) => y)) := by
  unfold x8_markNeeded_B2
  exact FR_ite (FR_some fx.rfl) (FR_gd (FR_nmS (fx_sA rfl) (fun t3 ht3 => FR_nm (fun x4 _ => FR_some ht3))))
theorem fr_x8_markNeeded_L2 (v1 : Int32) (t : St) : FR [810, 811] [] (lp (fun x => x8_markNeeded_B2 x.1 x.2) (v1, t)) t (fun (y : St) => y) := FR_lp (p := (fun (x : Int32 × St) => x.2)) (q := (fun (y : St) => y)) (fun x => fr_x8_markNeeded_B2 x.1 x.2) (v1, t)
theorem fr_x8_markNeeded_J113 (t : St) (v1 : Int32) (v2 : Int32) (v3 : Int32) (v4 : Int32) : FR [810, 811] [] (x8_markNeeded_J113 t v1 v2 v3 v4) t (Sum.elim (fun (x : Int32 × St) => x.2) (fun (y : St) => y)) := by
  unfold x8_markNeeded_J113
  exact FR_gd (FR_nmS (fx_sA rfl) (fun t6 ht6 => FR_nm (fun x7 _ => FR_some ht6)))
theorem fr_x8_markNeeded_B79 (v1 : Int32) (v2 : Int32) (v3 : Int32) (t : St) : FR [810, 811] [] (x8_markNeeded_B79 v1 v2 v3 t) t (Sum.elim (fun (x : Int32 × St) => x.2) (fun (y : St) => y)) := by
  unfold x8_markNeeded_B79
  exact FR_ite (FR_some fx.rfl) (FR_bindn (fun q9 => FR_gd (FR_ite (FR_gd (FR_nmS (fx_sA rfl) (fun t14 ht14 => FR_wk ht14 (fr_x8_markNeeded_J113 t14 v1 v2 v3 q9)))) (FR_wk fx.rfl (fr_x8_markNeeded_J113 t v1 v2 v3 q9)))))
theorem fr_x8_markNeeded_L79 (v1 : Int32) (v2 : Int32) (v3 : Int32) (t : St) : FR [810, 811] [] (lp (fun x => x8_markNeeded_B79 v1 v2 x.1 x.2) (v3, t)) t (fun (y : St) => y) := FR_lp (p := (fun (x : Int32 × St) => x.2)) (q := (fun (y : St) => y)) (fun x => fr_x8_markNeeded_B79 v1 v2 x.1 x.2) (v3, t)
theorem fr_x8_markNeeded_J76 (t : St) (v1 : Int32) (w0 : Int32) : FR [810, 811] [] (x8_markNeeded_J76 t v1 w0) t (Sum.elim (fun (x : Int32 × St) => x.2) (fun (y : St) => y)) := by
  unfold x8_markNeeded_J76
  exact FR_bind (fr_x8_markNeeded_L79 v1 w0 (0 : Int32) t) (fun y15 hm16 => FR_nm (fun x18 _ => FR_some hm16))
theorem fr_x8_markNeeded_J75 (t : St) (v1 : Int32) : FR [810, 811] [] (x8_markNeeded_J75 t v1) t (Sum.elim (fun (x : Int32 × St) => x.2) (fun (y : St) => y)) := by
  unfold x8_markNeeded_J75
  exact FR_wk fx.rfl (fr_x8_markNeeded_J76 t v1 (0 : Int32))
theorem fr_x8_markNeeded_B38 (v1 : Int32) (t : St) : FR [810, 811] [] (x8_markNeeded_B38 v1 t) t (Sum.elim (fun (x : Int32 × St) => x.2) (fun (y : St) => y)) := by
  unfold x8_markNeeded_B38
  exact FR_ite (FR_some fx.rfl) (FR_gd (FR_ite (FR_wk fx.rfl (fr_x8_markNeeded_J75 t v1)) (FR_gd (FR_ite (FR_wk fx.rfl (fr_x8_markNeeded_J75 t v1)) (FR_gd (FR_wk fx.rfl (fr_x8_markNeeded_J76 t v1 (gA t 604 (v1).toNatClampNeg))))))))
theorem fr_x8_markNeeded_L38 (v1 : Int32) (t : St) : FR [810, 811] [] (lp (fun x => x8_markNeeded_B38 x.1 x.2) (v1, t)) t (fun (y : St) => y) := FR_lp (p := (fun (x : Int32 × St) => x.2)) (q := (fun (y : St) => y)) (fun x => fr_x8_markNeeded_B38 x.1 x.2) (v1, t)
theorem fr_x8_markNeeded (t : St) : FR [810, 811] [] (x8_markNeeded t) t (fun (a : St) => a) := by
  unfold x8_markNeeded
  exact FR_bind (fr_x8_markNeeded_L2 (0 : Int32) t) (fun y25 hm26 => FR_gd (FR_nmS (fx_sA rfl) (fun t29 ht29 => FR_nm (fun x30 _ => FR_bind (fr_x8_markNeeded_L38 x30 t29) (fun y31 hm32 => FR_some (fx.trans (fx.trans hm26 ht29) hm32))))))
theorem fr_x8_fillRow_J62 (t : St) (v1 : Int32) (v2 : Int32) (v3 : Int32) (v4 : Int32) (w1 : Int32) (w2 : Int64) : FR [808] [] (x8_fillRow_J62 t v1 v2 v3 v4 w1 w2) t (Sum.elim (fun (x : Int32 × St) => x.2) (fun (y : St) => y)) := by
  unfold x8_fillRow_J62
  exact FR_gd (FR_nmS (fx_sB rfl) (fun t2 ht2 => FR_nm (fun x3 _ => FR_some ht2)))
theorem fr_x8_fillRow_B34 (v1 : Int32) (v2 : Int32) (v3 : Int32) (v4 : Int32) (t : St) : FR [808] [] (x8_fillRow_B34 v1 v2 v3 v4 t) t (Sum.elim (fun (x : Int32 × St) => x.2) (fun (y : St) => y)) := by
  unfold x8_fillRow_B34
  exact FR_ite (FR_some fx.rfl) (FR_ite (FR_wk fx.rfl (fr_x8_fillRow_J62 t v1 v2 v3 v4 (v2 + v4) (-1 : Int64))) (FR_wk fx.rfl (fr_x8_fillRow_J62 t v1 v2 v3 v4 (v2 + v4) (0 : Int64))))
theorem fr_x8_fillRow_L34 (v1 : Int32) (v2 : Int32) (v3 : Int32) (v4 : Int32) (t : St) : FR [808] [] (lp (fun x => x8_fillRow_B34 v1 v2 v3 x.1 x.2) (v4, t)) t (fun (y : St) => y) := FR_lp (p := (fun (x : Int32 × St) => x.2)) (q := (fun (y : St) => y)) (fun x => fr_x8_fillRow_B34 v1 v2 v3 x.1 x.2) (v4, t)
theorem fr_x8_fillRow_B111 (v1 : Int32) (v2 : Int32) (v3 : Int32) (v4 : Int32) (v5 : Int32) (v6 : Int32) (t : St) : FR [808] [] (x8_fillRow_B111 v1 v2 v3 v4 v5 v6 t) t (Sum.elim (fun (x : Int32 × St) => x.2) (fun (y : St) => y)) := by
  unfold x8_fillRow_B111
  exact FR_ite (FR_some fx.rfl) (FR_ite (FR_gd (FR_gd (FR_gd (FR_nmS (fx_sB rfl) (fun t11 ht11 => FR_nm (fun x12 _ => FR_some ht11)))))) (FR_gd (FR_gd (FR_gd (FR_nmS (fx_sB rfl) (fun t16 ht16 => FR_nm (fun x17 _ => FR_some ht16)))))))
theorem fr_x8_fillRow_L111 (v1 : Int32) (v2 : Int32) (v3 : Int32) (v4 : Int32) (v5 : Int32) (v6 : Int32) (t : St) : FR [808] [] (lp (fun x => x8_fillRow_B111 v1 v2 v3 v4 v5 x.1 x.2) (v6, t)) t (fun (y : St) => y) := FR_lp (p := (fun (x : Int32 × St) => x.2)) (q := (fun (y : St) => y)) (fun x => fr_x8_fillRow_B111 v1 v2 v3 v4 v5 x.1 x.2) (v6, t)
theorem fr_x8_fillRow_B72 (v1 : Int32) (v2 : Int32) (v3 : Int32) (v4 : Int32) (t : St) : FR [808] [] (x8_fillRow_B72 v1 v2 v3 v4 t) t (Sum.elim (fun (x : Int32 × St) => x.2) (fun (y : St) => y)) := by
  unfold x8_fillRow_B72
  exact FR_gd (FR_ite (FR_some fx.rfl) (FR_bindn (fun q20 => FR_gd (FR_nm (fun x23 _ => FR_bind (fr_x8_fillRow_L111 v1 v2 v3 v4 x23 (0 : Int32) t) (fun y24 hm25 => FR_nm (fun x27 _ => FR_some hm25)))))))
theorem fr_x8_fillRow_L72 (v1 : Int32) (v2 : Int32) (v3 : Int32) (v4 : Int32) (t : St) : FR [808] [] (lp (fun x => x8_fillRow_B72 v1 v2 v3 x.1 x.2) (v4, t)) t (fun (y : St) => y) := FR_lp (p := (fun (x : Int32 × St) => x.2)) (q := (fun (y : St) => y)) (fun x => fr_x8_fillRow_B72 v1 v2 v3 x.1 x.2) (v4, t)
theorem fr_x8_fillRow_J30 (t : St) (v1 : Int32) (v2 : Int32) (w0 : Int32) : FR [808] [] (x8_fillRow_J30 t v1 v2 w0) t (fun (a : St) => a) := by
  unfold x8_fillRow_J30
  exact FR_bind (fr_x8_fillRow_L34 v1 v2 w0 (0 : Int32) t) (fun y28 hm29 => FR_bind (fr_x8_fillRow_L72 v1 v2 w0 (0 : Int32) y28) (fun y31 hm32 => FR_some (fx.trans hm29 hm32)))
theorem fr_x8_fillRow (t : St) (a1 : Int32) : FR [808] [] (x8_fillRow t a1) t (fun (a : St) => a) := by
  unfold x8_fillRow
  exact FR_gd (FR_nm (fun x35 _ => FR_gd (FR_ite (FR_wk fx.rfl (fr_x8_fillRow_J30 t a1 x35 (1 : Int32))) (FR_wk fx.rfl (fr_x8_fillRow_J30 t a1 x35 (0 : Int32))))))
theorem fr_j7_fill_d0a16_814_B6 (v1 : Int64) (v4 : Int32) (v3 : Int32) (t : St) : FR [814] [] (j7_fill_d0a16_814_B6 v1 v4 v3 t) t (Sum.elim (fun (x : Int32 × St) => x.2) (fun (y : St) => y)) := by
  unfold j7_fill_d0a16_814_B6
  exact FR_ite (FR_some fx.rfl) (FR_gd (FR_nmS (fx_sB rfl) (fun t3 ht3 => FR_nm (fun x4 _ => FR_some ht3))))
theorem fr_j7_fill_d0a16_814_L6 (v1 : Int64) (v4 : Int32) (v3 : Int32) (t : St) : FR [814] [] (lp (fun x => j7_fill_d0a16_814_B6 v1 v4 x.1 x.2) (v3, t)) t (fun (y : St) => y) := FR_lp (p := (fun (x : Int32 × St) => x.2)) (q := (fun (y : St) => y)) (fun x => fr_j7_fill_d0a16_814_B6 v1 v4 x.1 x.2) (v3, t)
theorem fr_j7_fill_d0a16_814 (t : St) (a1 : Int64) : FR [814] [] (j7_fill_d0a16_814 t a1) t (fun (a : St) => a) := by
  unfold j7_fill_d0a16_814
  exact FR_nm (fun x5 _ => FR_bind (fr_j7_fill_d0a16_814_L6 a1 x5 (0 : Int32) t) (fun y6 hm7 => FR_some hm7))
theorem fr_x8_fillSome_B96 (v1 : Int32) (v2 : Int32) (v3 : Int32) (v4 : Int32) (v5 : Int64) (v7 : Int32) (t : St) : FR [808, 814] [] (x8_fillSome_B96 v1 v2 v3 v4 v5 v7 t) t (Sum.elim (fun (x : Int32 × St) => x.2) (fun (y : St) => y)) := by
  unfold x8_fillSome_B96
  exact FR_ite (FR_some fx.rfl) (FR_gd (FR_gd (FR_gd (FR_nmS (fx_sB rfl) (fun t5 ht5 => FR_nm (fun x6 _ => FR_some ht5))))))
theorem fr_x8_fillSome_L96 (v1 : Int32) (v2 : Int32) (v3 : Int32) (v4 : Int32) (v5 : Int64) (v7 : Int32) (t : St) : FR [808, 814] [] (lp (fun x => x8_fillSome_B96 v1 v2 v3 v4 v5 x.1 x.2) (v7, t)) t (fun (y : St) => y) := FR_lp (p := (fun (x : Int32 × St) => x.2)) (q := (fun (y : St) => y)) (fun x => fr_x8_fillSome_B96 v1 v2 v3 v4 v5 x.1 x.2) (v7, t)
theorem fr_x8_fillSome_B50 (v1 : Int32) (v2 : Int32) (v3 : Int32) (v4 : Int32) (t : St) : FR [808, 814] [] (x8_fillSome_B50 v1 v2 v3 v4 t) t (Sum.elim (fun (x : Int32 × St) => x.2) (fun (y : St) => y)) := by
  unfold x8_fillSome_B50
  exact FR_gd (FR_ite (FR_some fx.rfl) (FR_bindn (fun q9 => FR_gd (FR_gd (FR_nm (fun x13 _ => FR_bind (fr_x8_fillSome_L96 v1 v2 v3 v4 x13 v2 t) (fun y14 hm15 => FR_nm (fun x17 _ => FR_some hm15))))))))
theorem fr_x8_fillSome_L50 (v1 : Int32) (v2 : Int32) (v3 : Int32) (v4 : Int32) (t : St) : FR [808, 814] [] (lp (fun x => x8_fillSome_B50 v1 v2 v3 x.1 x.2) (v4, t)) t (fun (y : St) => y) := FR_lp (p := (fun (x : Int32 × St) => x.2)) (q := (fun (y : St) => y)) (fun x => fr_x8_fillSome_B50 v1 v2 v3 x.1 x.2) (v4, t)
theorem fr_x8_fillSome_B22 (v1 : Int32) (v2 : Int32) (v3 : Int32) (t : St) : FR [808, 814] [] (x8_fillSome_B22 v1 v2 v3 t) t (Sum.elim (fun (x : Int32 × St) => x.2) (fun (y : St) => y)) := by
  unfold x8_fillSome_B22
  exact FR_ite (FR_some fx.rfl) (FR_bind (fr_j7_fill_d0a16_814 t (0 : Int64)) (fun q19 hq19 => FR_gd (FR_nmS (fx_sB rfl) (fun t22 ht22 => FR_bind (fr_x8_fillSome_L50 v1 v2 v3 (0 : Int32) t22) (fun y23 hm24 => FR_gd (FR_gd (FR_gd (FR_nmS (fx_sB rfl) (fun t29 ht29 => FR_nm (fun x30 _ => FR_some (fx.trans (fx.trans (fx.trans hq19 ht22) hm24) ht29)))))))))))
theorem fr_x8_fillSome_L22 (v1 : Int32) (v2 : Int32) (v3 : Int32) (t : St) : FR [808, 814] [] (lp (fun x => x8_fillSome_B22 v1 v2 x.1 x.2) (v3, t)) t (fun (y : St) => y) := FR_lp (p := (fun (x : Int32 × St) => x.2)) (q := (fun (y : St) => y)) (fun x => fr_x8_fillSome_B22 v1 v2 x.1 x.2) (v3, t)
theorem fr_x8_fillSome (t : St) (a1 : Int32) : FR [808, 814] [] (x8_fillSome t a1) t (fun (a : St) => a) := by
  unfold x8_fillSome
  exact FR_gd (FR_nm (fun x32 _ => FR_bind (fr_x8_fillSome_L22 a1 x32 (0 : Int32) t) (fun y33 hm34 => FR_some hm34)))
theorem fr_x8_fillKnot_B66 (v1 : Int32) (v3 : Int32) (t : St) : FR [808, 809, 812, 814] [] (x8_fillKnot_B66 v1 v3 t) t (Sum.elim (fun (x : Int32 × St) => x.2) (fun (y : St) => y)) := by
  unfold x8_fillKnot_B66
  exact FR_gd (FR_ite (FR_some fx.rfl) (FR_bindn (fun q7 => FR_gd (FR_ite (FR_nm (fun x11 _ => FR_some fx.rfl)) (FR_gd (FR_ite (FR_gd (FR_gd (FR_nmS (fx_sA rfl) (fun t17 ht17 => FR_nm (fun x18 _ => FR_some ht17))))) (FR_nm (fun x14 _ => FR_some fx.rfl))))))))
theorem fr_x8_fillKnot_L66 (v1 : Int32) (v3 : Int32) (t : St) : FR [808, 809, 812, 814] [] (lp (fun x => x8_fillKnot_B66 v1 x.1 x.2) (v3, t)) t (fun (y : St) => y) := FR_lp (p := (fun (x : Int32 × St) => x.2)) (q := (fun (y : St) => y)) (fun x => fr_x8_fillKnot_B66 v1 x.1 x.2) (v3, t)
theorem fr_x8_fillKnot_J64 (t : St) (v1 : Int32) : FR [808, 809, 812, 814] [] (x8_fillKnot_J64 t v1) t (fun (a : St) => a) := by
  unfold x8_fillKnot_J64
  exact FR_bind (fr_x8_fillKnot_L66 v1 (0 : Int32) t) (fun y19 hm20 => FR_some hm20)
theorem fr_x8_fillKnot (t : St) (a1 : Int32) : FR [808, 809, 812, 814] [] (x8_fillKnot t a1) t (fun (a : St) => a) := by
  unfold x8_fillKnot
  exact FR_bindn (fun y22 => FR_gd (FR_nmS (fx_sA rfl) (fun t26 ht26 => FR_gd (FR_nmS (fx_sA rfl) (fun t28 ht28 => FR_gd (FR_ite (FR_bind (fr_x8_fillSome t28 a1) (fun q33 hq33 => FR_wk (fx.trans (fx.trans ht26 ht28) hq33) (fr_x8_fillKnot_J64 q33 a1))) (FR_bind (fr_x8_fillRow t28 a1) (fun q31 hq31 => FR_wk (fx.trans (fx.trans ht26 ht28) hq31) (fr_x8_fillKnot_J64 q31 a1)))))))))
theorem fr_x8_fillStep_J66 (t : St) (v1 : Int32) (v2 : Int32) (w1 : Int32) (w2 : Int64) : FR [808] [] (x8_fillStep_J66 t v1 v2 w1 w2) t (Sum.elim (fun (x : Int32 × St) => x.2) (fun (y : St) => y)) := by
  unfold x8_fillStep_J66
  exact FR_gd (FR_nmS (fx_sB rfl) (fun t2 ht2 => FR_nm (fun x3 _ => FR_some ht2)))
theorem fr_x8_fillStep_B2 (v1 : Int32) (v2 : Int32) (t : St) : FR [808] [] (x8_fillStep_B2 v1 v2 t) t (Sum.elim (fun (x : Int32 × St) => x.2) (fun (y : St) => y)) := by
  unfold x8_fillStep_B2
  exact FR_ite (FR_some fx.rfl) (FR_ite (FR_bindn (fun q6 => FR_ite (FR_wk fx.rfl (fr_x8_fillStep_J66 t v1 v2 ((v1 * (gI t 804)) + v2) (0 : Int64))) (FR_wk fx.rfl (fr_x8_fillStep_J66 t v1 v2 ((v1 * (gI t 804)) + v2) (-1 : Int64))))) (FR_gd (FR_gd (FR_nmS (fx_sB rfl) (fun t12 ht12 => FR_nm (fun x13 _ => FR_some ht12))))))
theorem fr_x8_fillStep_L2 (v1 : Int32) (v2 : Int32) (t : St) : FR [808] [] (lp (fun x => x8_fillStep_B2 v1 x.1 x.2) (v2, t)) t (fun (y : St) => y) := FR_lp (p := (fun (x : Int32 × St) => x.2)) (q := (fun (y : St) => y)) (fun x => fr_x8_fillStep_B2 v1 x.1 x.2) (v2, t)
theorem fr_x8_fillStep (t : St) (a1 : Int32) : FR [808] [] (x8_fillStep t a1) t (fun (a : St) => a) := by
  unfold x8_fillStep
  exact FR_bind (fr_x8_fillStep_L2 a1 (0 : Int32) t) (fun y14 hm15 => FR_some hm15)
theorem fr_x8_fillFor_B83 (v2 : Int32) (t : St) : FR [801, 802, 803, 804, 805, 806, 807, 808, 809, 810, 811, 812, 813, 814] [808, 9000, 9001] (x8_fillFor_B83 v2 t) t (Sum.elim (fun (x : Int32 × St) => x.2) (fun (y : St) => y)) := by
  unfold x8_fillFor_B83
  exact FR_ite (FR_some fx.rfl) (FR_bind (fr_x8_fillStep t v2) (fun q2 hq2 => FR_nm (fun x4 _ => FR_some hq2)))
theorem fr_x8_fillFor_L83 (v2 : Int32) (t : St) : FR [801, 802, 803, 804, 805, 806, 807, 808, 809, 810, 811, 812, 813, 814] [808, 9000, 9001] (lp (fun x => x8_fillFor_B83 x.1 x.2) (v2, t)) t (fun (y : St) => y) := FR_lp (p := (fun (x : Int32 × St) => x.2)) (q := (fun (y : St) => y)) (fun x => fr_x8_fillFor_B83 x.1 x.2) (v2, t)
theorem fr_x8_fillFor_J126 (t : St) (v2 : Int32) (w1 : Int32) (w2 : Int32) : FR [801, 802, 803, 804, 805, 806, 807, 808, 809, 810, 811, 812, 813, 814] [808, 9000, 9001] (x8_fillFor_J126 t v2 w1 w2) t (Sum.elim (fun (x : Int32 × St) => x.2) (fun (y : St) => y)) := by
  unfold x8_fillFor_J126
  exact FR_gd (FR_nmS (fx_sA rfl) (fun t6 ht6 => FR_nm (fun x7 _ => FR_some ht6)))
theorem fr_x8_fillFor_B104 (v2 : Int32) (t : St) : FR [801, 802, 803, 804, 805, 806, 807, 808, 809, 810, 811, 812, 813, 814] [808, 9000, 9001] (x8_fillFor_B104 v2 t) t (Sum.elim (fun (x : Int32 × St) => x.2) (fun (y : St) => y)) := by
  unfold x8_fillFor_B104
  exact FR_ite (FR_some fx.rfl) (FR_ite (FR_wk fx.rfl (fr_x8_fillFor_J126 t v2 v2 (0 : Int32))) (FR_wk fx.rfl (fr_x8_fillFor_J126 t v2 v2 (1 : Int32))))
theorem fr_x8_fillFor_L104 (v2 : Int32) (t : St) : FR [801, 802, 803, 804, 805, 806, 807, 808, 809, 810, 811, 812, 813, 814] [808, 9000, 9001] (lp (fun x => x8_fillFor_B104 x.1 x.2) (v2, t)) t (fun (y : St) => y) := FR_lp (p := (fun (x : Int32 × St) => x.2)) (q := (fun (y : St) => y)) (fun x => fr_x8_fillFor_B104 x.1 x.2) (v2, t)
theorem fr_x8_fillFor_J234 (t : St) (v2 : Int32) : FR [801, 802, 803, 804, 805, 806, 807, 808, 809, 810, 811, 812, 813, 814] [808, 9000, 9001] (x8_fillFor_J234 t v2) t (Sum.elim (fun (x : Int32 × St) => x.2) (fun (y : St) => y)) := by
  unfold x8_fillFor_J234
  exact FR_gd (FR_ite (FR_nm (fun x12 _ => FR_some fx.rfl)) (FR_nmS (fx_sI rfl) (fun t13 ht13 => FR_nm (fun x14 _ => FR_some ht13))))
theorem fr_x8_fillFor_B144 (v2 : Int32) (t : St) : FR [801, 802, 803, 804, 805, 806, 807, 808, 809, 810, 811, 812, 813, 814] [808, 9000, 9001] (x8_fillFor_B144 v2 t) t (Sum.elim (fun (x : Int32 × St) => x.2) (fun (y : St) => y)) := by
  unfold x8_fillFor_B144
  exact FR_ite (FR_some fx.rfl) (FR_gd (FR_ite (FR_nm (fun x34 _ => FR_some fx.rfl)) (FR_gd (FR_ite (FR_gd (FR_gd (FR_gd (FR_nmS (fx_sA rfl) (fun t32 ht32 => FR_nm (fun x33 _ => FR_some ht32)))))) (FR_bind (fr_x8_fillKnot t v2) (fun q20 hq20 => FR_gd (FR_ite (FR_gd (FR_bindn (fun q25 => FR_gd (FR_nmS (fx_sA rfl) (fun t28 ht28 => FR_wk (fx.trans hq20 ht28) (fr_x8_fillFor_J234 t28 v2)))))) (FR_wk hq20 (fr_x8_fillFor_J234 q20 v2)))))))))
theorem fr_x8_fillFor_L144 (v2 : Int32) (t : St) : FR [801, 802, 803, 804, 805, 806, 807, 808, 809, 810, 811, 812, 813, 814] [808, 9000, 9001] (lp (fun x => x8_fillFor_B144 x.1 x.2) (v2, t)) t (fun (y : St) => y) := FR_lp (p := (fun (x : Int32 × St) => x.2)) (q := (fun (y : St) => y)) (fun x => fr_x8_fillFor_B144 x.1 x.2) (v2, t)
theorem fr_x8_fillFor_J81 (t : St) : FR [801, 802, 803, 804, 805, 806, 807, 808, 809, 810, 811, 812, 813, 814] [808, 9000, 9001] (x8_fillFor_J81 t) t (fun (a : St) => a) := by
  unfold x8_fillFor_J81
  exact FR_bind (fr_x8_fillFor_L83 (0 : Int32) t) (fun y35 hm36 => FR_bind (fr_x8_fillFor_L104 (0 : Int32) y35) (fun y38 hm39 => FR_bind (fr_x8_markNeeded y38) (fun q41 hq41 => FR_nmS (fx_sI rfl) (fun t43 ht43 => FR_bind (fr_x8_fillFor_L144 (0 : Int32) t43) (fun y44 hm45 => FR_gd (FR_nmS (fx_sI rfl) (fun t48 ht48 => FR_some (fx.trans (fx.trans (fx.trans (fx.trans (fx.trans hm36 hm39) hq41) ht43) hm45) ht48))))))))
theorem fr_x8_fillFor_J50 (t : St) (w1 : Int32) : FR [801, 802, 803, 804, 805, 806, 807, 808, 809, 810, 811, 812, 813, 814] [808, 9000, 9001] (x8_fillFor_J50 t w1) t (fun (a : St) => a) := by
  unfold x8_fillFor_J50
  exact FR_nmS (fx_sI rfl) (fun t49 ht49 => FR_ite (FR_wk ht49 (fr_x8_fillFor_J81 t49)) (FR_nwl rfl rfl rfl rfl (fun t51 ht51 => FR_wk (fx.trans ht49 ht51) (fr_x8_fillFor_J81 t51))))
theorem fr_x8_fillFor (t0 : St) (a1 : Int32) : FR [801, 802, 803, 804, 805, 806, 807, 808, 809, 810, 811, 812, 813, 814] [808, 9000, 9001] (x8_fillFor t0 a1) t0 (fun (a : St) => a) := by
  unfold x8_fillFor
  exact FR_ite (FR_some fx.rfl) (FR_nmS (fx_sI rfl) (fun t54 ht54 => FR_gd (FR_bind (fr_x8_rankSteps t54 (gA t54 607 (a1).toNatClampNeg)) (fun q56 hq56 => FR_ite (FR_wk (fx.trans ht54 hq56) (fr_x8_fillFor_J50 q56 ((1 : Int32) <<< (((gI q56 803) - (6 : Int32)) &&& 31)))) (FR_wk (fx.trans ht54 hq56) (fr_x8_fillFor_J50 q56 (1 : Int32)))))))
theorem fr_x10_findAll_B34 (v2 : Int32) (v3 : Int64) (v1 : Int32) (v5 : Int32) (t : St) : FR [1003] [] (x10_findAll_B34 v2 v3 v1 v5 t) t (Sum.elim (fun (x : Int32 × Int32 × St) => x.2.2) (fun (y : Int32 × St) => y.2)) := by
  unfold x10_findAll_B34
  exact FR_ite (FR_some fx.rfl) (FR_ite (FR_some fx.rfl) (FR_ite (FR_ite (FR_nm (fun x6 _ => FR_some fx.rfl)) (FR_bindn (fun q7 => FR_gd (FR_nmS (fx_sA rfl) (fun t10 ht10 => FR_nm (fun x11 _ => FR_nm (fun x12 _ => FR_some ht10))))))) (FR_nm (fun x4 _ => FR_some fx.rfl))))
theorem fr_x10_findAll_L34 (v2 : Int32) (v3 : Int64) (v1 : Int32) (v5 : Int32) (t : St) : FR [1003] [] (lp (fun x => x10_findAll_B34 v2 v3 x.1 x.2.1 x.2.2) (v1, v5, t)) t (fun (y : Int32 × St) => y.2) := FR_lp (p := (fun (x : Int32 × Int32 × St) => x.2.2)) (q := (fun (y : Int32 × St) => y.2)) (fun x => fr_x10_findAll_B34 v2 v3 x.1 x.2.1 x.2.2) (v1, v5, t)
theorem fr_x10_findAll_B4 (v1 : Int32) (v2 : Int32) (t : St) : FR [1003] [] (x10_findAll_B4 v1 v2 t) t (Sum.elim (fun (x : Int32 × Int32 × St) => x.2.2) (fun (y : Int32 × St) => y.2)) := by
  unfold x10_findAll_B4
  exact FR_ite (FR_some fx.rfl) (FR_bindn (fun q14 => FR_bind (fr_x10_findAll_L34 v2 q14 v1 (0 : Int32) t) (fun y16 hm17 => FR_nm (fun x19 _ => FR_some hm17))))
theorem fr_x10_findAll_L4 (v1 : Int32) (v2 : Int32) (t : St) : FR [1003] [] (lp (fun x => x10_findAll_B4 x.1 x.2.1 x.2.2) (v1, v2, t)) t (fun (y : Int32 × St) => y.2) := FR_lp (p := (fun (x : Int32 × Int32 × St) => x.2.2)) (q := (fun (y : Int32 × St) => y.2)) (fun x => fr_x10_findAll_B4 x.1 x.2.1 x.2.2) (v1, v2, t)
theorem fr_x10_findAll (t : St) : FR [1003] [] (x10_findAll t) t (fun (a : Int32 × St) => a.2) := by
  unfold x10_findAll
  exact FR_bind (fr_x10_findAll_L4 (0 : Int32) (0 : Int32) t) (fun y20 hm21 => FR_some hm21)
theorem fr_x10_sortBySize_B15 (v1 : Int32) (v2 : Int32) (v3 : Int32) (t : St) : FR [1002, 1004] [] (x10_sortBySize_B15 v1 v2 v3 t) t (Sum.elim (fun (x : Int32 × St) => x.2) (fun (y : St) => y)) := by
  unfold x10_sortBySize_B15
  exact FR_ite (FR_some fx.rfl) (FR_gd (FR_bindn (fun q3 => FR_ite (FR_gd (FR_gd (FR_nmS (fx_sA rfl) (fun t9 ht9 => FR_nmS (fx_sI rfl) (fun t10 ht10 => FR_nm (fun x11 _ => FR_some (fx.trans ht9 ht10))))))) (FR_nm (fun x6 _ => FR_some fx.rfl)))))
theorem fr_x10_sortBySize_L15 (v1 : Int32) (v2 : Int32) (v3 : Int32) (t : St) : FR [1002, 1004] [] (lp (fun x => x10_sortBySize_B15 v1 v2 x.1 x.2) (v3, t)) t (fun (y : St) => y) := FR_lp (p := (fun (x : Int32 × St) => x.2)) (q := (fun (y : St) => y)) (fun x => fr_x10_sortBySize_B15 v1 v2 x.1 x.2) (v3, t)
theorem fr_x10_sortBySize_B7 (v1 : Int32) (v2 : Int32) (t : St) : FR [1002, 1004] [] (x10_sortBySize_B7 v1 v2 t) t (Sum.elim (fun (x : Int32 × St) => x.2) (fun (y : St) => y)) := by
  unfold x10_sortBySize_B7
  exact FR_ite (FR_some fx.rfl) (FR_bind (fr_x10_sortBySize_L15 v1 v2 (0 : Int32) t) (fun y13 hm14 => FR_nm (fun x16 _ => FR_some hm14)))
theorem fr_x10_sortBySize_L7 (v1 : Int32) (v2 : Int32) (t : St) : FR [1002, 1004] [] (lp (fun x => x10_sortBySize_B7 v1 x.1 x.2) (v2, t)) t (fun (y : St) => y) := FR_lp (p := (fun (x : Int32 × St) => x.2)) (q := (fun (y : St) => y)) (fun x => fr_x10_sortBySize_B7 v1 x.1 x.2) (v2, t)
theorem fr_x10_sortBySize (t : St) (a1 : Int32) : FR [1002, 1004] [] (x10_sortBySize t a1) t (fun (a : St) => a) := by
  unfold x10_sortBySize
  exact FR_nmS (fx_sI rfl) (fun t17 ht17 => FR_bind (fr_x10_sortBySize_L7 a1 (1 : Int32) t17) (fun y18 hm19 => FR_some (fx.trans ht17 hm19)))
theorem fr_x10_listAll_J8 (t : St) (v1 : Int32) : FR [801, 802, 803, 804, 805, 806, 807, 808, 809, 810, 811, 812, 813, 814, 1002, 1003, 1004, 1005] [808, 9000, 9001] (x10_listAll_J8 t v1) t (fun (a : Int32 × St) => a.2) := by
  unfold x10_listAll_J8
  exact FR_ite (FR_ite (FR_some fx.rfl) (FR_nmS (fx_sI rfl) (fun t3 ht3 => FR_bind (fr_x10_findAll t3) (fun q4 hq4 => FR_bind (fr_x10_sortBySize q4.2 q4.1) (fun q6 hq6 => FR_some (fx.trans (fx.trans ht3 hq4) hq6)))))) (FR_some fx.rfl)
theorem fr_x10_listAll (t0 : St) (a1 : Int32) : FR [801, 802, 803, 804, 805, 806, 807, 808, 809, 810, 811, 812, 813, 814, 1002, 1003, 1004, 1005] [808, 9000, 9001] (x10_listAll t0 a1) t0 (fun (a : Int32 × St) => a.2) := by
  unfold x10_listAll
  exact FR_bind (fr_x8_fillFor t0 a1) (fun q8 hq8 => FR_wk hq8 (fr_x10_listAll_J8 q8 a1))
theorem fr_x11_ways_J35 (t : St) (w0 : Int32) : FR [801, 802, 803, 804, 805, 806, 807, 808, 809, 810, 811, 812, 813, 814, 1002, 1003, 1004, 1005] [808, 9000, 9001] (x11_ways_J35 t w0) t (fun (a : Int32 × St) => a.2) := by
  unfold x11_ways_J35
  exact FR_ite (FR_some fx.rfl) (FR_some fx.rfl)
theorem fr_x11_ways (t0 : St) (a1 : Int32) : FR [801, 802, 803, 804, 805, 806, 807, 808, 809, 810, 811, 812, 813, 814, 1002, 1003, 1004, 1005] [808, 9000, 9001] (x11_ways t0 a1) t0 (fun (a : Int32 × St) => a.2) := by
  unfold x11_ways
  exact FR_bindn (fun q2 => FR_ite (FR_gd (FR_nm (fun x7 _ => FR_ite (FR_bind (fr_x10_listAll t0 x7) (fun q9 hq9 => FR_wk hq9 (fr_x11_ways_J35 q9.2 q9.1))) (FR_some fx.rfl)))) (FR_some fx.rfl))
theorem fr_x11_wayAt_J39 (t : St) (v2 : Int32) (w0 : Int32) : FR [801, 802, 803, 804, 805, 806, 807, 808, 809, 810, 811, 812, 813, 814, 1002, 1003, 1004, 1005] [808, 9000, 9001] (x11_wayAt_J39 t v2 w0) t (fun (a : Int32 × St) => a.2) := by
  unfold x11_wayAt_J39
  exact FR_ite (FR_some fx.rfl) (FR_ite (FR_some fx.rfl) (FR_gd (FR_some fx.rfl)))
theorem fr_x11_wayAt (t0 : St) (a1 : Int32) (a2 : Int32) : FR [801, 802, 803, 804, 805, 806, 807, 808, 809, 810, 811, 812, 813, 814, 1002, 1003, 1004, 1005] [808, 9000, 9001] (x11_wayAt t0 a1 a2) t0 (fun (a : Int32 × St) => a.2) := by
  unfold x11_wayAt
  exact FR_bindn (fun q4 => FR_ite (FR_ite (FR_gd (FR_nm (fun x10 _ => FR_ite (FR_bind (fr_x10_listAll t0 x10) (fun q12 hq12 => FR_wk hq12 (fr_x11_wayAt_J39 q12.2 a2 q12.1))) (FR_some fx.rfl)))) (FR_some fx.rfl)) (FR_some fx.rfl))
theorem fr_x11_leastWay_J44 (t : St) (v2 : Int32) (w0 : Int32) : FR [801, 802, 803, 804, 805, 806, 807, 808, 809, 810, 811, 812, 813, 814, 1002, 1003, 1004, 1005] [808, 9000, 9001] (x11_leastWay_J44 t v2 w0) t (fun (a : Int32 × St) => a.2) := by
  unfold x11_leastWay_J44
  exact FR_ite (FR_some fx.rfl) (FR_bindn (fun q2 => FR_some fx.rfl))
theorem fr_x11_leastWay (t0 : St) (a1 : Int32) (a2 : Int32) : FR [801, 802, 803, 804, 805, 806, 807, 808, 809, 810, 811, 812, 813, 814, 1002, 1003, 1004, 1005] [808, 9000, 9001] (x11_leastWay t0 a1 a2) t0 (fun (a : Int32 × St) => a.2) := by
  unfold x11_leastWay
  exact FR_bindn (fun q4 => FR_ite (FR_bindn (fun q8 => FR_ite (FR_gd (FR_nm (fun x13 _ => FR_ite (FR_bind (fr_x10_listAll t0 x13) (fun q15 hq15 => FR_wk hq15 (fr_x11_leastWay_J44 q15.2 a2 q15.1))) (FR_some fx.rfl)))) (FR_some fx.rfl))) (FR_some fx.rfl))
theorem fr_x11_least_J6 (t : St) (v2 : Int32) (w0 : Int32) : FR [801, 802, 803, 804, 805, 806, 807, 808, 809, 810, 811, 812, 813, 814, 1002, 1003, 1004, 1005] [808, 9000, 9001] (x11_least_J6 t v2 w0) t (fun (a : Int32 × St) => a.2) := by
  unfold x11_least_J6
  exact FR_ite (FR_bindn (fun q2 => FR_some fx.rfl)) (FR_some fx.rfl)
theorem fr_x11_least (t0 : St) (a1 : Int32) (a2 : Int32) : FR [801, 802, 803, 804, 805, 806, 807, 808, 809, 810, 811, 812, 813, 814, 1002, 1003, 1004, 1005] [808, 9000, 9001] (x11_least t0 a1 a2) t0 (fun (a : Int32 × St) => a.2) := by
  unfold x11_least
  exact FR_bind (fr_x11_leastWay t0 a1 a2) (fun q4 hq4 => FR_wk hq4 (fr_x11_least_J6 q4.2 a2 q4.1))
theorem fr_x6_risingAt_613_B15 (v1 : Int32) (v2 : Int32) (v3 : Int32) (v4 : Int32) (v5 : Int32) (t : St) : FR [613] [] (x6_risingAt_613_B15 v1 v2 v3 v4 v5 t) t (Sum.elim (fun (x : Int32 × St) => x.2) (fun (y : Int32 × St) => y.2)) := by
  unfold x6_risingAt_613_B15
  exact FR_ite (FR_some fx.rfl) (FR_gd (FR_ite (FR_some fx.rfl) (FR_gd (FR_gd (FR_nmS (fx_sA rfl) (fun t6 ht6 => FR_nm (fun x7 _ => FR_some ht6)))))))
theorem fr_x6_risingAt_613_L15 (v1 : Int32) (v2 : Int32) (v3 : Int32) (v4 : Int32) (v5 : Int32) (t : St) : FR [613] [] (lp (fun x => x6_risingAt_613_B15 v1 v2 v3 v4 x.1 x.2) (v5, t)) t (fun (y : Int32 × St) => y.2) := FR_lp (p := (fun (x : Int32 × St) => x.2)) (q := (fun (y : Int32 × St) => y.2)) (fun x => fr_x6_risingAt_613_B15 v1 v2 v3 v4 x.1 x.2) (v5, t)
theorem fr_x6_risingAt_613_B2 (v1 : Int32) (v2 : Int32) (v3 : Int32) (t : St) : FR [613] [] (x6_risingAt_613_B2 v1 v2 v3 t) t (Sum.elim (fun (x : Int32 × St) => x.2) (fun (y : St) => y)) := by
  unfold x6_risingAt_613_B2
  exact FR_ite (FR_some fx.rfl) (FR_gd (FR_nm (fun x10 _ => FR_bind (fr_x6_risingAt_613_L15 v1 v2 v3 x10 v3 t) (fun y11 hm12 => FR_gd (FR_nmS (fx_sA rfl) (fun t15 ht15 => FR_nm (fun x16 _ => FR_some (fx.trans hm12 ht15))))))))
theorem fr_x6_risingAt_613_L2 (v1 : Int32) (v2 : Int32) (v3 : Int32) (t : St) : FR [613] [] (lp (fun x => x6_risingAt_613_B2 v1 v2 x.1 x.2) (v3, t)) t (fun (y : St) => y) := FR_lp (p := (fun (x : Int32 × St) => x.2)) (q := (fun (y : St) => y)) (fun x => fr_x6_risingAt_613_B2 v1 v2 x.1 x.2) (v3, t)
theorem fr_x6_risingAt_613 (t : St) (a1 : Int32) (a2 : Int32) : FR [613] [] (x6_risingAt_613 t a1 a2) t (fun (a : Int32 × St) => a.2) := by
  unfold x6_risingAt_613
  exact FR_bind (fr_x6_risingAt_613_L2 a1 a2 (1 : Int32) t) (fun y17 hm18 => FR_gd (FR_some hm18))
theorem fr_x6_someTime_B17 (v1 : Int32) (v2 : Int32) (v3 : Int32) (t : St) : FR [613] [] (x6_someTime_B17 v1 v2 v3 t) t (Sum.elim (fun (x : Int32 × St) => x.2) (fun (y : St) => y)) := by
  unfold x6_someTime_B17
  exact FR_ite (FR_some fx.rfl) (FR_bindn (fun q2 => FR_gd (FR_gd (FR_nmS (fx_sA rfl) (fun t6 ht6 => FR_nm (fun x7 _ => FR_some ht6))))))
theorem fr_x6_someTime_L17 (v1 : Int32) (v2 : Int32) (v3 : Int32) (t : St) : FR [613] [] (lp (fun x => x6_someTime_B17 v1 v2 x.1 x.2) (v3, t)) t (fun (y : St) => y) := FR_lp (p := (fun (x : Int32 × St) => x.2)) (q := (fun (y : St) => y)) (fun x => fr_x6_someTime_B17 v1 v2 x.1 x.2) (v3, t)
theorem fr_x6_someTime (t : St) (a1 : Int32) : FR [613] [] (x6_someTime t a1) t (fun (a : Int32 × St) => a.2) := by
  unfold x6_someTime
  exact FR_gd (FR_nm (fun x9 _ => FR_bind (fr_x6_someTime_L17 a1 x9 (0 : Int32) t) (fun y10 hm11 => FR_gd (FR_bind (fr_x6_risingAt_613 y10 x9 (gA y10 605 (a1).toNatClampNeg)) (fun q14 hq14 => FR_some (fx.trans hm11 hq14))))))
theorem fr_x6_rowTime (t : St) (a1 : Int32) : FR [613] [] (x6_rowTime t a1) t (fun (a : Int32 × St) => a.2) := by
  unfold x6_rowTime
  exact FR_gd (FR_ite (FR_bind (fr_x6_someTime t a1) (fun q26 hq26 => FR_some hq26)) (FR_bindn (fun q19 => FR_gd (FR_nm (fun x22 _ => FR_bindn (fun y23 => FR_some fx.rfl))))))
theorem fr_x6_timeByMany_J40 (t : St) (v1 : Int32) (v3 : Int32) (w1 : Int32) (w2 : Int32) : FR [612, 613] [] (x6_timeByMany_J40 t v1 v3 w1 w2) t (Sum.elim (fun (x : Int32 × St) => x.2) (fun (y : St) => y)) := by
  unfold x6_timeByMany_J40
  exact FR_gd (FR_nmS (fx_sA rfl) (fun t2 ht2 => FR_nm (fun x3 _ => FR_some ht2)))
theorem fr_x6_timeByMany_B2 (v1 : Int32) (v3 : Int32) (t : St) : FR [612, 613] [] (x6_timeByMany_B2 v1 v3 t) t (Sum.elim (fun (x : Int32 × St) => x.2) (fun (y : St) => y)) := by
  unfold x6_timeByMany_B2
  exact FR_ite (FR_some fx.rfl) (FR_gd (FR_ite (FR_gd (FR_bindn (fun q10 => FR_wk fx.rfl (fr_x6_timeByMany_J40 t v1 v3 v3 q10)))) (FR_bind (fr_x6_rowTime t v3) (fun q7 hq7 => FR_wk hq7 (fr_x6_timeByMany_J40 q7.2 v1 v3 v3 q7.1)))))
theorem fr_x6_timeByMany_L2 (v1 : Int32) (v3 : Int32) (t : St) : FR [612, 613] [] (lp (fun x => x6_timeByMany_B2 v1 x.1 x.2) (v3, t)) t (fun (y : St) => y) := FR_lp (p := (fun (x : Int32 × St) => x.2)) (q := (fun (y : St) => y)) (fun x => fr_x6_timeByMany_B2 v1 x.1 x.2) (v3, t)
theorem fr_x6_timeByMany (t : St) (a1 : Int32) : FR [612, 613] [] (x6_timeByMany t a1) t (fun (a : Int32 × St) => a.2) := by
  unfold x6_timeByMany
  exact FR_bind (fr_x6_timeByMany_L2 a1 (0 : Int32) t) (fun y12 hm13 => FR_gd (FR_some hm13))
theorem fr_x11_many (t : St) (a1 : Int32) : FR [612, 613] [] (x11_many t a1) t (fun (a : Int32 × St) => a.2) := by
  unfold x11_many
  exact FR_bindn (fun q1 => FR_ite (FR_gd (FR_nm (fun x6 _ => FR_ite (FR_bind (fr_x6_timeByMany t x6) (fun q8 hq8 => FR_some hq8)) (FR_some fx.rfl)))) (FR_some fx.rfl))
theorem fr_x2_wipe_8_B2 (v1 : Int32) (v2 : Int32) (v3 : Int32) (t : St) : FR [8] [] (x2_wipe_8_B2 v1 v2 v3 t) t (Sum.elim (fun (x : Int32 × St) => x.2) (fun (y : St) => y)) := by
  unfold x2_wipe_8_B2
  exact FR_ite (FR_some fx.rfl) (FR_gd (FR_nmS (fx_sA rfl) (fun t3 ht3 => FR_nm (fun x4 _ => FR_some ht3))))
theorem fr_x2_wipe_8_L2 (v1 : Int32) (v2 : Int32) (v3 : Int32) (t : St) : FR [8] [] (lp (fun x => x2_wipe_8_B2 v1 v2 x.1 x.2) (v3, t)) t (fun (y : St) => y) := FR_lp (p := (fun (x : Int32 × St) => x.2)) (q := (fun (y : St) => y)) (fun x => fr_x2_wipe_8_B2 v1 v2 x.1 x.2) (v3, t)
theorem fr_x2_wipe_8 (t : St) (a1 : Int32) (a2 : Int32) : FR [8] [] (x2_wipe_8 t a1 a2) t (fun (a : St) => a) := by
  unfold x2_wipe_8
  exact FR_bind (fr_x2_wipe_8_L2 a1 a2 (0 : Int32) t) (fun y5 hm6 => FR_some hm6)
theorem fr_x0_makeRoom_J86 (t : St) (v1 : Int32) (v3 : Int32) : FR [3, 5, 6, 7, 8, 9, 10, 11] [7, 8, 9, 10, 11, 9000, 9001] (x0_makeRoom_J86 t v1 v3) t (fun (a : St) => a) := by
  unfold x0_makeRoom_J86
  exact FR_bind (fr_x2_wipe_8 t (0 : Int32) v3) (fun q1 hq1 => FR_nmS (fx_sI rfl) (fun t3 ht3 => FR_nmS (fx_sI rfl) (fun t4 ht4 => FR_nmS (fx_sI rfl) (fun t5 ht5 => FR_some (fx.trans (fx.trans (fx.trans hq1 ht3) ht4) ht5)))))
theorem fr_x0_makeRoom_J74 (t : St) (v1 : Int32) (v3 : Int32) : FR [3, 5, 6, 7, 8, 9, 10, 11] [7, 8, 9, 10, 11, 9000, 9001] (x0_makeRoom_J74 t v1 v3) t (fun (a : St) => a) := by
  unfold x0_makeRoom_J74
  exact FR_grw rfl rfl rfl rfl (fun t6 ht6 => FR_wk ht6 (fr_x0_makeRoom_J86 t6 v1 v3))
theorem fr_x0_makeRoom_J62 (t : St) (v1 : Int32) (v2 : Int32) (v3 : Int32) : FR [3, 5, 6, 7, 8, 9, 10, 11] [7, 8, 9, 10, 11, 9000, 9001] (x0_makeRoom_J62 t v1 v2 v3) t (fun (a : St) => a) := by
  unfold x0_makeRoom_J62
  exact FR_grw rfl rfl rfl rfl (fun t8 ht8 => FR_wk ht8 (fr_x0_makeRoom_J74 t8 v1 v3))
theorem fr_x0_makeRoom_J50 (t : St) (v1 : Int32) (v2 : Int32) (v3 : Int32) : FR [3, 5, 6, 7, 8, 9, 10, 11] [7, 8, 9, 10, 11, 9000, 9001] (x0_makeRoom_J50 t v1 v2 v3) t (fun (a : St) => a) := by
  unfold x0_makeRoom_J50
  exact FR_grw rfl rfl rfl rfl (fun t10 ht10 => FR_wk ht10 (fr_x0_makeRoom_J62 t10 v1 v2 v3))
theorem fr_x0_makeRoom_J38 (t : St) (v1 : Int32) (v2 : Int32) (v3 : Int32) : FR [3, 5, 6, 7, 8, 9, 10, 11] [7, 8, 9, 10, 11, 9000, 9001] (x0_makeRoom_J38 t v1 v2 v3) t (fun (a : St) => a) := by
  unfold x0_makeRoom_J38
  exact FR_grw rfl rfl rfl rfl (fun t12 ht12 => FR_wk ht12 (fr_x0_makeRoom_J50 t12 v1 v2 v3))
theorem fr_x0_makeRoom (t0 : St) (a1 : Int32) : FR [3, 5, 6, 7, 8, 9, 10, 11] [7, 8, 9, 10, 11, 9000, 9001] (x0_makeRoom t0 a1) t0 (fun (a : St) => a) := by
  unfold x0_makeRoom
  exact FR_nm (fun x14 _ => FR_nm (fun x15 _ => FR_grw rfl rfl rfl rfl (fun t16 ht16 => FR_wk ht16 (fr_x0_makeRoom_J38 t16 a1 x14 x15))))
theorem fr_x0_nodeFor (t : St) (a1 : Int32) (a2 : Int32) (a3 : Int32) : FR [3, 8, 9, 10, 11] [] (x0_nodeFor t a1 a2 a3) t (fun (a : Int32 × St) => a.2) := by
  unfold x0_nodeFor
  exact FR_ite (FR_some fx.rfl) (FR_nm (fun x15 _ => FR_bindn (fun y16 => (FR_sumn y16 (fun u19 => FR_some fx.rfl) (fun u19 => FR_ite (FR_gd (FR_nmS (fx_sA rfl) (fun t22 ht22 => FR_gd (FR_nmS (fx_sA rfl) (fun t24 ht24 => FR_gd (FR_nmS (fx_sA rfl) (fun t26 ht26 => FR_gd (FR_nmS (fx_sA rfl) (fun t28 ht28 => FR_nmS (fx_sI rfl) (fun t29 ht29 => FR_some (fx.trans (fx.trans (fx.trans (fx.trans ht22 ht24) ht26) ht28) ht29))))))))))) (FR_some fx.rfl))))))
theorem fr_x0_draw_B116 (v2 : Int32) (v3 : Int32) (v4 : Int32) (t : St) : FR [2, 3, 4, 5, 6, 7, 8, 9, 10, 11, 801, 802, 803, 804, 805, 806, 807, 808, 809, 810, 811, 812, 813, 814] [7, 8, 9, 10, 11, 808, 9000, 9001] (x0_draw_B116 v2 v3 v4 t) t (Sum.elim (fun (x : Int32 × St) => x.2) (fun (y : St) => y)) := by
  unfold x0_draw_B116
  exact FR_ite (FR_some fx.rfl) (FR_gd (FR_gd (FR_bind (fr_x0_nodeFor t v3 (gA t 7 (v4).toNatClampNeg) (gA t 7 ((v4 + v2)).toNatClampNeg)) (fun q4 hq4 => FR_gd (FR_nmS (fx_sA rfl) (fun t7 ht7 => FR_nm (fun x8 _ => FR_some (fx.trans hq4 ht7))))))))
theorem fr_x0_draw_L116 (v2 : Int32) (v3 : Int32) (v4 : Int32) (t : St) : FR [2, 3, 4, 5, 6, 7, 8, 9, 10, 11, 801, 802, 803, 804, 805, 806, 807, 808, 809, 810, 811, 812, 813, 814] [7, 8, 9, 10, 11, 808, 9000, 9001] (lp (fun x => x0_draw_B116 v2 v3 x.1 x.2) (v4, t)) t (fun (y : St) => y) := FR_lp (p := (fun (x : Int32 × St) => x.2)) (q := (fun (y : St) => y)) (fun x => fr_x0_draw_B116 v2 v3 x.1 x.2) (v4, t)
theorem fr_x0_draw_B47 (v2 : Int32) (v3 : Int32) (t : St) : FR [2, 3, 4, 5, 6, 7, 8, 9, 10, 11, 801, 802, 803, 804, 805, 806, 807, 808, 809, 810, 811, 812, 813, 814] [7, 8, 9, 10, 11, 808, 9000, 9001] (x0_draw_B47 v2 v3 t) t (Sum.elim (fun (x : Int32 × St) => x.2) (fun (y : St) => y)) := by
  unfold x0_draw_B47
  exact FR_ite (FR_some fx.rfl) (FR_bindn (fun q10 => FR_bindn (fun q12 => FR_bind (fr_x0_nodeFor t ((gI t 803) - (1 : Int32)) q10 q12) (fun q14 hq14 => FR_gd (FR_nmS (fx_sA rfl) (fun t17 ht17 => FR_nm (fun x18 _ => FR_some (fx.trans hq14 ht17))))))))
theorem fr_x0_draw_L47 (v2 : Int32) (v3 : Int32) (t : St) : FR [2, 3, 4, 5, 6, 7, 8, 9, 10, 11, 801, 802, 803, 804, 805, 806, 807, 808, 809, 810, 811, 812, 813, 814] [7, 8, 9, 10, 11, 808, 9000, 9001] (lp (fun x => x0_draw_B47 v2 x.1 x.2) (v3, t)) t (fun (y : St) => y) := FR_lp (p := (fun (x : Int32 × St) => x.2)) (q := (fun (y : St) => y)) (fun x => fr_x0_draw_B47 v2 x.1 x.2) (v3, t)
theorem fr_x0_draw_B105 (v3 : Int32) (t : St) : FR [2, 3, 4, 5, 6, 7, 8, 9, 10, 11, 801, 802, 803, 804, 805, 806, 807, 808, 809, 810, 811, 812, 813, 814] [7, 8, 9, 10, 11, 808, 9000, 9001] (x0_draw_B105 v3 t) t (Sum.elim (fun (x : Int32 × St) => x.2) (fun (y : St) => y)) := by
  unfold x0_draw_B105
  exact FR_ite (FR_some fx.rfl) (FR_nm (fun x20 _ => FR_bind (fr_x0_draw_L116 x20 v3 (0 : Int32) t) (fun y21 hm22 => FR_nm (fun x24 _ => FR_some hm22))))
theorem fr_x0_draw_L105 (v3 : Int32) (t : St) : FR [2, 3, 4, 5, 6, 7, 8, 9, 10, 11, 801, 802, 803, 804, 805, 806, 807, 808, 809, 810, 811, 812, 813, 814] [7, 8, 9, 10, 11, 808, 9000, 9001] (lp (fun x => x0_draw_B105 x.1 x.2) (v3, t)) t (fun (y : St) => y) := FR_lp (p := (fun (x : Int32 × St) => x.2)) (q := (fun (y : St) => y)) (fun x => fr_x0_draw_B105 x.1 x.2) (v3, t)
theorem fr_x0_draw_J33 (t : St) : FR [2, 3, 4, 5, 6, 7, 8, 9, 10, 11, 801, 802, 803, 804, 805, 806, 807, 808, 809, 810, 811, 812, 813, 814] [7, 8, 9, 10, 11, 808, 9000, 9001] (x0_draw_J33 t) t (fun (a : St) => a) := by
  unfold x0_draw_J33
  exact FR_nm (fun x25 _ => FR_bind (fr_x0_draw_L47 x25 (0 : Int32) t) (fun y26 hm27 => FR_nm (fun x29 _ => FR_bind (fr_x0_draw_L105 x29 y26) (fun y30 hm31 => FR_gd (FR_nmS (fx_sI rfl) (fun t34 ht34 => FR_some (fx.trans (fx.trans hm27 hm31) ht34)))))))
theorem fr_x0_draw_J8 (t : St) (v1 : Int32) : FR [2, 3, 4, 5, 6, 7, 8, 9, 10, 11, 801, 802, 803, 804, 805, 806, 807, 808, 809, 810, 811, 812, 813, 814] [7, 8, 9, 10, 11, 808, 9000, 9001] (x0_draw_J8 t v1) t (fun (a : St) => a) := by
  unfold x0_draw_J8
  exact FR_ite (FR_some fx.rfl) (FR_nmS (fx_sI rfl) (fun t36 ht36 => FR_bind (fr_x0_makeRoom t36 (gI t36 803)) (fun q37 hq37 => FR_wk (fx.trans ht36 hq37) (fr_x0_draw_J33 q37))))
theorem fr_x0_draw (t0 : St) (a1 : Int32) : FR [2, 3, 4, 5, 6, 7, 8, 9, 10, 11, 801, 802, 803, 804, 805, 806, 807, 808, 809, 810, 811, 812, 813, 814] [7, 8, 9, 10, 11, 808, 9000, 9001] (x0_draw t0 a1) t0 (fun (a : St) => a) := by
  unfold x0_draw
  exact FR_bind (fr_x8_fillFor t0 a1) (fun q39 hq39 => FR_wk hq39 (fr_x0_draw_J8 q39 a1))
theorem fr_x11_size_J35 (t : St) : FR [2, 3, 4, 5, 6, 7, 8, 9, 10, 11, 801, 802, 803, 804, 805, 806, 807, 808, 809, 810, 811, 812, 813, 814] [7, 8, 9, 10, 11, 808, 9000, 9001] (x11_size_J35 t) t (fun (a : Int32 × St) => a.2) := by
  unfold x11_size_J35
  exact FR_bindn (fun q1 => FR_some fx.rfl)
theorem fr_x11_size (t0 : St) (a1 : Int32) : FR [2, 3, 4, 5, 6, 7, 8, 9, 10, 11, 801, 802, 803, 804, 805, 806, 807, 808, 809, 810, 811, 812, 813, 814] [7, 8, 9, 10, 11, 808, 9000, 9001] (x11_size t0 a1) t0 (fun (a : Int32 × St) => a.2) := by
  unfold x11_size
  exact FR_bindn (fun q3 => FR_ite (FR_gd (FR_nm (fun x8 _ => FR_ite (FR_bind (fr_x0_draw t0 x8) (fun q10 hq10 => FR_wk hq10 (fr_x11_size_J35 q10))) (FR_some fx.rfl)))) (FR_some fx.rfl))
theorem fr_x0_mayWork_J5 (t : St) : FR [2, 3, 4, 5, 6, 7, 8, 9, 10, 11, 801, 802, 803, 804, 805, 806, 807, 808, 809, 810, 811, 812, 813, 814] [7, 8, 9, 10, 11, 808, 9000, 9001] (x0_mayWork_J5 t) t (fun (a : Int32 × St) => a.2) := by
  unfold x0_mayWork_J5
  exact FR_bindn (fun q1 => FR_ite (FR_some fx.rfl) (FR_some fx.rfl))
theorem fr_x0_mayWork (t0 : St) (a1 : Int32) : FR [2, 3, 4, 5, 6, 7, 8, 9, 10, 11, 801, 802, 803, 804, 805, 806, 807, 808, 809, 810, 811, 812, 813, 814] [7, 8, 9, 10, 11, 808, 9000, 9001] (x0_mayWork t0 a1) t0 (fun (a : Int32 × St) => a.2) := by
  unfold x0_mayWork
  exact FR_bind (fr_x0_draw t0 a1) (fun q4 hq4 => FR_wk hq4 (fr_x0_mayWork_J5 q4))
theorem fr_x0_takeOdds_J50 (t : St) (v1 : Int32) (v2 : Int32) (w1 : Int32) (w2 : Int32) : FR [14] [] (x0_takeOdds_J50 t v1 v2 w1 w2) t (Sum.elim (fun (x : Int32 × St) => x.2) (fun (y : St) => y)) := by
  unfold x0_takeOdds_J50
  exact FR_gd (FR_nmS (fx_sA rfl) (fun t2 ht2 => FR_nm (fun x3 _ => FR_some ht2)))
theorem fr_x0_takeOdds_B2 (v1 : Int32) (v2 : Int32) (t : St) : FR [14] [] (x0_takeOdds_B2 v1 v2 t) t (Sum.elim (fun (x : Int32 × St) => x.2) (fun (y : St) => y)) := by
  unfold x0_takeOdds_B2
  exact FR_ite (FR_some fx.rfl) (FR_gd (FR_nm (fun x6 _ => FR_ite (FR_wk fx.rfl (fr_x0_takeOdds_J50 t v1 v2 v2 (0 : Int32))) (FR_bindn (fun q8 => FR_wk fx.rfl (fr_x0_takeOdds_J50 t v1 v2 v2 q8))))))
theorem fr_x0_takeOdds_L2 (v1 : Int32) (v2 : Int32) (t : St) : FR [14] [] (lp (fun x => x0_takeOdds_B2 v1 x.1 x.2) (v2, t)) t (fun (y : St) => y) := FR_lp (p := (fun (x : Int32 × St) => x.2)) (q := (fun (y : St) => y)) (fun x => fr_x0_takeOdds_B2 v1 x.1 x.2) (v2, t)
theorem fr_x0_takeOdds (t : St) (a1 : Int32) : FR [14] [] (x0_takeOdds t a1) t (fun (a : St) => a) := by
  unfold x0_takeOdds
  exact FR_bind (fr_x0_takeOdds_L2 a1 (0 : Int32) t) (fun y10 hm11 => FR_some hm11)
theorem fr_x2_wipe_12_B2 (v1 : Int32) (v2 : Int32) (v3 : Int32) (t : St) : FR [12] [] (x2_wipe_12_B2 v1 v2 v3 t) t (Sum.elim (fun (x : Int32 × St) => x.2) (fun (y : St) => y)) := by
  unfold x2_wipe_12_B2
  exact FR_ite (FR_some fx.rfl) (FR_gd (FR_nmS (fx_sA rfl) (fun t3 ht3 => FR_nm (fun x4 _ => FR_some ht3))))
theorem fr_x2_wipe_12_L2 (v1 : Int32) (v2 : Int32) (v3 : Int32) (t : St) : FR [12] [] (lp (fun x => x2_wipe_12_B2 v1 v2 x.1 x.2) (v3, t)) t (fun (y : St) => y) := FR_lp (p := (fun (x : Int32 × St) => x.2)) (q := (fun (y : St) => y)) (fun x => fr_x2_wipe_12_B2 v1 v2 x.1 x.2) (v3, t)
theorem fr_x2_wipe_12 (t : St) (a1 : Int32) (a2 : Int32) : FR [12] [] (x2_wipe_12 t a1 a2) t (fun (a : St) => a) := by
  unfold x2_wipe_12
  exact FR_bind (fr_x2_wipe_12_L2 a1 a2 (0 : Int32) t) (fun y5 hm6 => FR_some hm6)
theorem fr_x2_multiply_12_B6 (v1 : Int32) (v2 : Int32) (v3 : Int32) (v4 : Int64) (v6 : Int32) (t : St) : FR [12] [] (x2_multiply_12_B6 v1 v2 v3 v4 v6 t) t (Sum.elim (fun (x : Int64 × Int32 × St) => x.2.2) (fun (y : St) => y)) := by
  unfold x2_multiply_12_B6
  exact FR_ite (FR_some fx.rfl) (FR_gd (FR_nm (fun x3 _ => FR_gd (FR_nmS (fx_sA rfl) (fun t5 ht5 => FR_nm (fun x6 _ => FR_nm (fun x7 _ => FR_some ht5)))))))
theorem fr_x2_multiply_12_L6 (v1 : Int32) (v2 : Int32) (v3 : Int32) (v4 : Int64) (v6 : Int32) (t : St) : FR [12] [] (lp (fun x => x2_multiply_12_B6 v1 v2 v3 x.1 x.2.1 x.2.2) (v4, v6, t)) t (fun (y : St) => y) := FR_lp (p := (fun (x : Int64 × Int32 × St) => x.2.2)) (q := (fun (y : St) => y)) (fun x => fr_x2_multiply_12_B6 v1 v2 v3 x.1 x.2.1 x.2.2) (v4, v6, t)
theorem fr_x2_multiply_12 (t : St) (a1 : Int32) (a2 : Int32) (a3 : Int32) : FR [12] [] (x2_multiply_12 t a1 a2 a3) t (fun (a : St) => a) := by
  unfold x2_multiply_12
  exact FR_bind (fr_x2_multiply_12_L6 a1 a2 a3 (0 : Int64) (0 : Int32) t) (fun y8 hm9 => FR_some hm9)
theorem fr_x2_putPower_12_B13 (v1 : Int32) (v2 : Int32) (v3 : Int32) (v4 : Int32) (t : St) : FR [12] [] (x2_putPower_12_B13 v1 v2 v3 v4 t) t (Sum.elim (fun (x : Int32 × St) => x.2) (fun (y : St) => y)) := by
  unfold x2_putPower_12_B13
  exact FR_ite (FR_some fx.rfl) (FR_bind (fr_x2_multiply_12 t v1 v2 (1000 : Int32)) (fun q2 hq2 => FR_nm (fun x4 _ => FR_some hq2)))
theorem fr_x2_putPower_12_L13 (v1 : Int32) (v2 : Int32) (v3 : Int32) (v4 : Int32) (t : St) : FR [12] [] (lp (fun x => x2_putPower_12_B13 v1 v2 v3 x.1 x.2) (v4, t)) t (fun (y : St) => y) := FR_lp (p := (fun (x : Int32 × St) => x.2)) (q := (fun (y : St) => y)) (fun x => fr_x2_putPower_12_B13 v1 v2 v3 x.1 x.2) (v4, t)
theorem fr_x2_putPower_12 (t : St) (a1 : Int32) (a2 : Int32) (a3 : Int32) : FR [12] [] (x2_putPower_12 t a1 a2 a3) t (fun (a : St) => a) := by
  unfold x2_putPower_12
  exact FR_bind (fr_x2_wipe_12 t a1 a2) (fun q5 hq5 => FR_gd (FR_nmS (fx_sA rfl) (fun t8 ht8 => FR_bind (fr_x2_putPower_12_L13 a1 a2 a3 (0 : Int32) t8) (fun y9 hm10 => FR_some (fx.trans (fx.trans hq5 ht8) hm10)))))
theorem fr_x2_blend_12_B77 (v1 : Int32) (v6 : Int64) (v8 : Int32) (t : St) : FR [12] [] (x2_blend_12_B77 v1 v6 v8 t) t (Sum.elim (fun (x : Int64 × Int32 × St) => x.2.2) (fun (y : St) => y)) := by
  unfold x2_blend_12_B77
  exact FR_ite (FR_some fx.rfl) (FR_gd (FR_nm (fun x3 _ => FR_gd (FR_nmS (fx_sA rfl) (fun t5 ht5 => FR_nm (fun x6 _ => FR_nm (fun x7 _ => FR_some ht5)))))))
theorem fr_x2_blend_12_L77 (v1 : Int32) (v6 : Int64) (v8 : Int32) (t : St) : FR [12] [] (lp (fun x => x2_blend_12_B77 v1 x.1 x.2.1 x.2.2) (v6, v8, t)) t (fun (y : St) => y) := FR_lp (p := (fun (x : Int64 × Int32 × St) => x.2.2)) (q := (fun (y : St) => y)) (fun x => fr_x2_blend_12_B77 v1 x.1 x.2.1 x.2.2) (v6, v8, t)
theorem fr_x2_blend_12_B6 (v1 : Int32) (v2 : Int32) (v3 : Int32) (v4 : Int32) (v5 : Int32) (v6 : Int64) (v8 : Int32) (t : St) : FR [12] [] (x2_blend_12_B6 v1 v2 v3 v4 v5 v6 v8 t) t (Sum.elim (fun (x : Int64 × Int32 × St) => x.2.2) (fun (y : Int64 × St) => y.2)) := by
  unfold x2_blend_12_B6
  exact FR_ite (FR_some fx.rfl) (FR_gd (FR_gd (FR_nm (fun x11 _ => FR_gd (FR_nmS (fx_sA rfl) (fun t13 ht13 => FR_nm (fun x14 _ => FR_nm (fun x15 _ => FR_some ht13))))))))
theorem fr_x2_blend_12_L6 (v1 : Int32) (v2 : Int32) (v3 : Int32) (v4 : Int32) (v5 : Int32) (v6 : Int64) (v8 : Int32) (t : St) : FR [12] [] (lp (fun x => x2_blend_12_B6 v1 v2 v3 v4 v5 x.1 x.2.1 x.2.2) (v6, v8, t)) t (fun (y : Int64 × St) => y.2) := FR_lp (p := (fun (x : Int64 × Int32 × St) => x.2.2)) (q := (fun (y : Int64 × St) => y.2)) (fun x => fr_x2_blend_12_B6 v1 v2 v3 v4 v5 x.1 x.2.1 x.2.2) (v6, v8, t)
theorem fr_x2_blend_12 (t : St) (a1 : Int32) (a2 : Int32) (a3 : Int32) (a4 : Int32) (a5 : Int32) : FR [12] [] (x2_blend_12 t a1 a2 a3 a4 a5) t (fun (a : St) => a) := by
  unfold x2_blend_12
  exact FR_bind (fr_x2_blend_12_L6 a1 a2 a3 a4 a5 (0 : Int64) (0 : Int32) t) (fun y16 hm17 => FR_nm (fun x19 _ => FR_bind (fr_x2_blend_12_L77 a1 y16.1 x19 y16.2) (fun y20 hm21 => FR_some (fx.trans hm17 hm21))))
theorem fr_x0_work_B56 (v1 : Int32) (t : St) : FR [12] [12, 9000, 9001] (x0_work_B56 v1 t) t (Sum.elim (fun (x : Int32 × St) => x.2) (fun (y : St) => y)) := by
  unfold x0_work_B56
  exact FR_ite (FR_some fx.rfl) (FR_gd (FR_gd (FR_gd (FR_gd (FR_bind (fr_x2_blend_12 t (v1 * (gI t 6)) ((gA t 11 (v1).toNatClampNeg) * (gI t 6)) ((gA t 10 (v1).toNatClampNeg) * (gI t 6)) (gA t 14 ((gA t 9 (v1).toNatClampNeg)).toNatClampNeg) (gI t 6)) (fun q6 hq6 => FR_nm (fun x8 _ => FR_some hq6)))))))
theorem fr_x0_work_L56 (v1 : Int32) (t : St) : FR [12] [12, 9000, 9001] (lp (fun x => x0_work_B56 x.1 x.2) (v1, t)) t (fun (y : St) => y) := FR_lp (p := (fun (x : Int32 × St) => x.2)) (q := (fun (y : St) => y)) (fun x => fr_x0_work_B56 x.1 x.2) (v1, t)
theorem fr_x0_work_J20 (t : St) : FR [12] [12, 9000, 9001] (x0_work_J20 t) t (fun (a : Int32 × St) => a.2) := by
  unfold x0_work_J20
  exact FR_bind (fr_x2_wipe_12 t (0 : Int32) (gI t 6)) (fun q9 hq9 => FR_bind (fr_x2_putPower_12 q9 (gI q9 6) (gI q9 6) (gI q9 803)) (fun q11 hq11 => FR_bind (fr_x0_work_L56 (2 : Int32) q11) (fun y13 hm14 => FR_some (fx.trans (fx.trans hq9 hq11) hm14))))
theorem fr_x0_work (t0 : St) : FR [12] [12, 9000, 9001] (x0_work t0) t0 (fun (a : Int32 × St) => a.2) := by
  unfold x0_work
  exact FR_grw rfl rfl rfl rfl (fun t16 ht16 => FR_wk ht16 (fr_x0_work_J20 t16))
theorem fr_j7_fill_53178_200_B5 (v1 : Int32) (v3 : Int32) (v2 : Int32) (t : St) : FR [200] [] (j7_fill_53178_200_B5 v1 v3 v2 t) t (Sum.elim (fun (x : Int32 × St) => x.2) (fun (y : St) => y)) := by
  unfold j7_fill_53178_200_B5
  exact FR_ite (FR_some fx.rfl) (FR_gd (FR_nmS (fx_sA rfl) (fun t3 ht3 => FR_nm (fun x4 _ => FR_some ht3))))
theorem fr_j7_fill_53178_200_L5 (v1 : Int32) (v3 : Int32) (v2 : Int32) (t : St) : FR [200] [] (lp (fun x => j7_fill_53178_200_B5 v1 v3 x.1 x.2) (v2, t)) t (fun (y : St) => y) := FR_lp (p := (fun (x : Int32 × St) => x.2)) (q := (fun (y : St) => y)) (fun x => fr_j7_fill_53178_200_B5 v1 v3 x.1 x.2) (v2, t)
theorem fr_j7_fill_53178_200 (t : St) (a1 : Int32) : FR [200] [] (j7_fill_53178_200 t a1) t (fun (a : St) => a) := by
  unfold j7_fill_53178_200
  exact FR_nm (fun x5 _ => FR_bind (fr_j7_fill_53178_200_L5 a1 x5 (0 : Int32) t) (fun y6 hm7 => FR_some hm7))
theorem fr_j7_fill_53178_201_B5 (v1 : Int32) (v3 : Int32) (v2 : Int32) (t : St) : FR [201] [] (j7_fill_53178_201_B5 v1 v3 v2 t) t (Sum.elim (fun (x : Int32 × St) => x.2) (fun (y : St) => y)) := by
  unfold j7_fill_53178_201_B5
  exact FR_ite (FR_some fx.rfl) (FR_gd (FR_nmS (fx_sA rfl) (fun t3 ht3 => FR_nm (fun x4 _ => FR_some ht3))))
theorem fr_j7_fill_53178_201_L5 (v1 : Int32) (v3 : Int32) (v2 : Int32) (t : St) : FR [201] [] (lp (fun x => j7_fill_53178_201_B5 v1 v3 x.1 x.2) (v2, t)) t (fun (y : St) => y) := FR_lp (p := (fun (x : Int32 × St) => x.2)) (q := (fun (y : St) => y)) (fun x => fr_j7_fill_53178_201_B5 v1 v3 x.1 x.2) (v2, t)
theorem fr_j7_fill_53178_201 (t : St) (a1 : Int32) : FR [201] [] (j7_fill_53178_201 t a1) t (fun (a : St) => a) := by
  unfold j7_fill_53178_201
  exact FR_nm (fun x5 _ => FR_bind (fr_j7_fill_53178_201_L5 a1 x5 (0 : Int32) t) (fun y6 hm7 => FR_some hm7))
theorem fr_x2_multiply_201_B6 (v1 : Int32) (v2 : Int32) (v3 : Int32) (v4 : Int64) (v6 : Int32) (t : St) : FR [201] [] (x2_multiply_201_B6 v1 v2 v3 v4 v6 t) t (Sum.elim (fun (x : Int64 × Int32 × St) => x.2.2) (fun (y : St) => y)) := by
  unfold x2_multiply_201_B6
  exact FR_ite (FR_some fx.rfl) (FR_gd (FR_nm (fun x3 _ => FR_gd (FR_nmS (fx_sA rfl) (fun t5 ht5 => FR_nm (fun x6 _ => FR_nm (fun x7 _ => FR_some ht5)))))))
theorem fr_x2_multiply_201_L6 (v1 : Int32) (v2 : Int32) (v3 : Int32) (v4 : Int64) (v6 : Int32) (t : St) : FR [201] [] (lp (fun x => x2_multiply_201_B6 v1 v2 v3 x.1 x.2.1 x.2.2) (v4, v6, t)) t (fun (y : St) => y) := FR_lp (p := (fun (x : Int64 × Int32 × St) => x.2.2)) (q := (fun (y : St) => y)) (fun x => fr_x2_multiply_201_B6 v1 v2 v3 x.1 x.2.1 x.2.2) (v4, v6, t)
theorem fr_x2_multiply_201 (t : St) (a1 : Int32) (a2 : Int32) (a3 : Int32) : FR [201] [] (x2_multiply_201 t a1 a2 a3) t (fun (a : St) => a) := by
  unfold x2_multiply_201
  exact FR_bind (fr_x2_multiply_201_L6 a1 a2 a3 (0 : Int64) (0 : Int32) t) (fun y8 hm9 => FR_some hm9)
theorem fr_x2_divide_200_B11 (v1 : Int32) (v2 : Int64) (v4 : Int32) (t : St) : FR [200] [] (x2_divide_200_B11 v1 v2 v4 t) t (Sum.elim (fun (x : Int64 × Int32 × St) => x.2.2) (fun (y : St) => y)) := by
  unfold x2_divide_200_B11
  exact FR_ite (FR_some fx.rfl) (FR_gd (FR_nm (fun x3 _ => FR_dvl (FR_gd (FR_nmS (fx_sA rfl) (fun t6 ht6 => FR_dvl (FR_nm (fun x8 _ => FR_nm (fun x9 _ => FR_some ht6)))))))))
theorem fr_x2_divide_200_L11 (v1 : Int32) (v2 : Int64) (v4 : Int32) (t : St) : FR [200] [] (lp (fun x => x2_divide_200_B11 v1 x.1 x.2.1 x.2.2) (v2, v4, t)) t (fun (y : St) => y) := FR_lp (p := (fun (x : Int64 × Int32 × St) => x.2.2)) (q := (fun (y : St) => y)) (fun x => fr_x2_divide_200_B11 v1 x.1 x.2.1 x.2.2) (v2, v4, t)
theorem fr_x2_divide_200 (t : St) (a1 : Int32) : FR [200] [] (x2_divide_200 t a1) t (fun (a : St) => a) := by
  unfold x2_divide_200
  exact FR_ite (FR_bind (fr_x2_divide_200_L11 a1 (0 : Int64) (5 : Int32) t) (fun y11 hm12 => FR_some hm12)) (FR_some fx.rfl)
theorem fr_x2_putThousandths_12_B123 (v5 : Int32) (v6 : Int32) (v7 : Int32) (t : St) : FR [200, 201] [] (x2_putThousandths_12_B123 v5 v6 v7 t) t (Sum.elim (fun (x : Int32 × St) => x.2) (fun (y : St) => y)) := by
  unfold x2_putThousandths_12_B123
  exact FR_ite (FR_some fx.rfl) (FR_bind (fr_x2_multiply_201 t (0 : Int32) (6 : Int32) (2 : Int32)) (fun q2 hq2 => FR_nm (fun x4 _ => FR_some hq2)))
theorem fr_x2_putThousandths_12_L123 (v5 : Int32) (v6 : Int32) (v7 : Int32) (t : St) : FR [200, 201] [] (lp (fun x => x2_putThousandths_12_B123 v5 v6 x.1 x.2) (v7, t)) t (fun (y : St) => y) := FR_lp (p := (fun (x : Int32 × St) => x.2)) (q := (fun (y : St) => y)) (fun x => fr_x2_putThousandths_12_B123 v5 v6 x.1 x.2) (v7, t)
theorem fr_x2_putThousandths_12_B150 (v6 : Int32) (v7 : Int32) (t : St) : FR [200, 201] [] (x2_putThousandths_12_B150 v6 v7 t) t (Sum.elim (fun (x : Int32 × St) => x.2) (fun (y : St) => y)) := by
  unfold x2_putThousandths_12_B150
  exact FR_ite (FR_some fx.rfl) (FR_bind (fr_x2_multiply_201 t (0 : Int32) (6 : Int32) (5 : Int32)) (fun q6 hq6 => FR_nm (fun x8 _ => FR_some hq6)))
theorem fr_x2_putThousandths_12_L150 (v6 : Int32) (v7 : Int32) (t : St) : FR [200, 201] [] (lp (fun x => x2_putThousandths_12_B150 v6 x.1 x.2) (v7, t)) t (fun (y : St) => y) := FR_lp (p := (fun (x : Int32 × St) => x.2)) (q := (fun (y : St) => y)) (fun x => fr_x2_putThousandths_12_B150 v6 x.1 x.2) (v7, t)
theorem fr_x2_putThousandths_12_B45 (v6 : Int32) (v5 : Int32) (t : St) : FR [200, 201] [] (x2_putThousandths_12_B45 v6 v5 t) t (Sum.elim (fun (x : Int32 × St) => x.2) (fun (y : Int32 × St) => y.2)) := by
  unfold x2_putThousandths_12_B45
  exact FR_ite (FR_some fx.rfl) (FR_bindn (fun q10 => FR_ite (FR_bind (fr_x2_divide_200 t (2 : Int32)) (fun q13 hq13 => FR_nm (fun x15 _ => FR_some hq13))) (FR_some fx.rfl)))
theorem fr_x2_putThousandths_12_L45 (v6 : Int32) (v5 : Int32) (t : St) : FR [200, 201] [] (lp (fun x => x2_putThousandths_12_B45 v6 x.1 x.2) (v5, t)) t (fun (y : Int32 × St) => y.2) := FR_lp (p := (fun (x : Int32 × St) => x.2)) (q := (fun (y : Int32 × St) => y.2)) (fun x => fr_x2_putThousandths_12_B45 v6 x.1 x.2) (v5, t)
theorem fr_x2_putThousandths_12_B75 (v5 : Int32) (v6 : Int32) (t : St) : FR [200, 201] [] (x2_putThousandths_12_B75 v5 v6 t) t (Sum.elim (fun (x : Int32 × St) => x.2) (fun (y : Int32 × St) => y.2)) := by
  unfold x2_putThousandths_12_B75
  exact FR_ite (FR_some fx.rfl) (FR_bindn (fun q17 => FR_ite (FR_bind (fr_x2_divide_200 t (5 : Int32)) (fun q20 hq20 => FR_nm (fun x22 _ => FR_some hq20))) (FR_some fx.rfl)))
theorem fr_x2_putThousandths_12_L75 (v5 : Int32) (v6 : Int32) (t : St) : FR [200, 201] [] (lp (fun x => x2_putThousandths_12_B75 v5 x.1 x.2) (v6, t)) t (fun (y : Int32 × St) => y.2) := FR_lp (p := (fun (x : Int32 × St) => x.2)) (q := (fun (y : Int32 × St) => y.2)) (fun x => fr_x2_putThousandths_12_B75 v5 x.1 x.2) (v6, t)
theorem fr_x2_putThousandths_12_J39 (t : St) (w0 : Int32) : FR [200, 201] [] (x2_putThousandths_12_J39 t w0) t (fun (a : St) => a) := by
  unfold x2_putThousandths_12_J39
  exact FR_bind (fr_x2_putThousandths_12_L45 w0 w0 t) (fun y23 hm24 => FR_bind (fr_x2_putThousandths_12_L75 y23.1 w0 y23.2) (fun y26 hm27 => FR_bind (fr_j7_fill_53178_201 y26.2 (0 : Int32)) (fun q29 hq29 => FR_gd (FR_nmS (fx_sA rfl) (fun t32 ht32 => FR_bind (fr_x2_putThousandths_12_L123 y23.1 y26.1 (0 : Int32) t32) (fun y33 hm34 => FR_bind (fr_x2_putThousandths_12_L150 y26.1 (0 : Int32) y33) (fun y36 hm37 => FR_some (fx.trans (fx.trans (fx.trans (fx.trans (fx.trans hm24 hm27) hq29) ht32) hm34) hm37))))))))
theorem fr_x2_putThousandths_12 (t : St) (a2 : Int32) (a3 : Int32) (a4 : Int32) : FR [200, 201] [] (x2_putThousandths_12 t a2 a3 a4) t (fun (a : St) => a) := by
  unfold x2_putThousandths_12
  exact FR_bind (fr_j7_fill_53178_200 t (0 : Int32)) (fun q39 hq39 => FR_cpk (FR_nmS (fx_sAr rfl) (fun t42 ht42 => FR_bindn (fun q43 => FR_ite (FR_wk (fx.trans hq39 ht42) (fr_x2_putThousandths_12_J39 t42 ((3 : Int32) * a4))) (FR_wk (fx.trans hq39 ht42) (fr_x2_putThousandths_12_J39 t42 (0 : Int32)))))))
theorem fr_x11_chance_J56 (t : St) (w0 : Int32) : FR [2, 3, 4, 5, 6, 7, 8, 9, 10, 11, 12, 14, 200, 201, 801, 802, 803, 804, 805, 806, 807, 808, 809, 810, 811, 812, 813, 814] [7, 8, 9, 10, 11, 12, 808, 9000, 9001] (x11_chance_J56 t w0) t (fun (a : Int32 × St) => a.2) := by
  unfold x11_chance_J56
  exact FR_bind (fr_x2_putThousandths_12 t w0 (gI t 6) (gI t 803)) (fun q1 hq1 => FR_some hq1)
theorem fr_x11_chance_J35 (t : St) (w0 : Int32) : FR [2, 3, 4, 5, 6, 7, 8, 9, 10, 11, 12, 14, 200, 201, 801, 802, 803, 804, 805, 806, 807, 808, 809, 810, 811, 812, 813, 814] [7, 8, 9, 10, 11, 12, 808, 9000, 9001] (x11_chance_J35 t w0) t (fun (a : Int32 × St) => a.2) := by
  unfold x11_chance_J35
  exact FR_ite (FR_some fx.rfl) (FR_bind (fr_x0_takeOdds t (0 : Int32)) (fun q4 hq4 => FR_bind (fr_x0_work q4) (fun q6 hq6 => FR_wk (fx.trans hq4 hq6) (fr_x11_chance_J56 q6.2 q6.1))))
theorem fr_x11_chance (t0 : St) (a1 : Int32) : FR [2, 3, 4, 5, 6, 7, 8, 9, 10, 11, 12, 14, 200, 201, 801, 802, 803, 804, 805, 806, 807, 808, 809, 810, 811, 812, 813, 814] [7, 8, 9, 10, 11, 12, 808, 9000, 9001] (x11_chance t0 a1) t0 (fun (a : Int32 × St) => a.2) := by
  unfold x11_chance
  exact FR_bindn (fun q8 => FR_ite (FR_gd (FR_nm (fun x13 _ => FR_ite (FR_bind (fr_x0_mayWork t0 x13) (fun q15 hq15 => FR_wk hq15 (fr_x11_chance_J35 q15.2 q15.1))) (FR_some fx.rfl)))) (FR_some fx.rfl))
theorem fr_j7_fill_53178_13_B5 (v1 : Int32) (v3 : Int32) (v2 : Int32) (t : St) : FR [13] [] (j7_fill_53178_13_B5 v1 v3 v2 t) t (Sum.elim (fun (x : Int32 × St) => x.2) (fun (y : St) => y)) := by
  unfold j7_fill_53178_13_B5
  exact FR_ite (FR_some fx.rfl) (FR_gd (FR_nmS (fx_sA rfl) (fun t3 ht3 => FR_nm (fun x4 _ => FR_some ht3))))
theorem fr_j7_fill_53178_13_L5 (v1 : Int32) (v3 : Int32) (v2 : Int32) (t : St) : FR [13] [] (lp (fun x => j7_fill_53178_13_B5 v1 v3 x.1 x.2) (v2, t)) t (fun (y : St) => y) := FR_lp (p := (fun (x : Int32 × St) => x.2)) (q := (fun (y : St) => y)) (fun x => fr_j7_fill_53178_13_B5 v1 v3 x.1 x.2) (v2, t)
theorem fr_j7_fill_53178_13 (t : St) (a1 : Int32) : FR [13] [] (j7_fill_53178_13 t a1) t (fun (a : St) => a) := by
  unfold j7_fill_53178_13
  exact FR_nm (fun x5 _ => FR_bind (fr_j7_fill_53178_13_L5 a1 x5 (0 : Int32) t) (fun y6 hm7 => FR_some hm7))
theorem fr_x2_subtract_13_12_B6 (v2 : Int32) (v3 : Int32) (v4 : Int64) (v6 : Int32) (t : St) : FR [13] [] (x2_subtract_13_12_B6 v2 v3 v4 v6 t) t (Sum.elim (fun (x : Int64 × Int32 × St) => x.2.2) (fun (y : St) => y)) := by
  unfold x2_subtract_13_12_B6
  exact FR_ite (FR_some fx.rfl) (FR_gd (FR_gd (FR_nm (fun x4 _ => FR_gd (FR_nmS (fx_sA rfl) (fun t6 ht6 => FR_nm (fun x7 _ => FR_nm (fun x8 _ => FR_some ht6))))))))
theorem fr_x2_subtract_13_12_L6 (v2 : Int32) (v3 : Int32) (v4 : Int64) (v6 : Int32) (t : St) : FR [13] [] (lp (fun x => x2_subtract_13_12_B6 v2 v3 x.1 x.2.1 x.2.2) (v4, v6, t)) t (fun (y : St) => y) := FR_lp (p := (fun (x : Int64 × Int32 × St) => x.2.2)) (q := (fun (y : St) => y)) (fun x => fr_x2_subtract_13_12_B6 v2 v3 x.1 x.2.1 x.2.2) (v4, v6, t)
theorem fr_x2_subtract_13_12 (t : St) (a2 : Int32) (a3 : Int32) : FR [13] [] (x2_subtract_13_12 t a2 a3) t (fun (a : St) => a) := by
  unfold x2_subtract_13_12
  exact FR_bind (fr_x2_subtract_13_12_L6 a2 a3 (0 : Int64) (0 : Int32) t) (fun y9 hm10 => FR_some hm10)
theorem fr_x0_workWeight_J79 (t : St) (w0 : Int32) : FR [12, 13, 14] [12, 9000, 9001] (x0_workWeight_J79 t w0) t (fun (a : St) => a) := by
  unfold x0_workWeight_J79
  exact FR_bind (fr_x2_subtract_13_12 t w0 (gI t 6)) (fun q1 hq1 => FR_some hq1)
theorem fr_x0_workWeight_J50 (t : St) (v2 : Int32) (w0 : Int32) : FR [12, 13, 14] [12, 9000, 9001] (x0_workWeight_J50 t v2 w0) t (fun (a : St) => a) := by
  unfold x0_workWeight_J50
  exact FR_cpk (FR_nmS (fx_sAr rfl) (fun t4 ht4 => FR_gd (FR_nmS (fx_sA rfl) (fun t6 ht6 => FR_bind (fr_x0_work t6) (fun q7 hq7 => FR_wk (fx.trans (fx.trans ht4 ht6) hq7) (fr_x0_workWeight_J79 q7.2 q7.1))))))
theorem fr_x0_workWeight (t0 : St) (a1 : Int32) : FR [12, 13, 14] [12, 9000, 9001] (x0_workWeight t0 a1) t0 (fun (a : St) => a) := by
  unfold x0_workWeight
  exact FR_bind (fr_j7_fill_53178_13 t0 (0 : Int32)) (fun q9 hq9 => FR_bindn (fun q11 => FR_ite (FR_some hq9) (FR_bind (fr_x0_takeOdds q9 (0 : Int32)) (fun q14 hq14 => FR_gd (FR_nm (fun x17 _ => FR_gd (FR_nmS (fx_sA rfl) (fun t19 ht19 => FR_bind (fr_x0_work t19) (fun q20 hq20 => FR_wk (fx.trans (fx.trans (fx.trans hq9 hq14) ht19) hq20) (fr_x0_workWeight_J50 q20.2 x17 q20.1))))))))))
theorem fr_x2_putThousandths_13_B123 (v5 : Int32) (v6 : Int32) (v7 : Int32) (t : St) : FR [200, 201] [] (x2_putThousandths_13_B123 v5 v6 v7 t) t (Sum.elim (fun (x : Int32 × St) => x.2) (fun (y : St) => y)) := by
  unfold x2_putThousandths_13_B123
  exact FR_ite (FR_some fx.rfl) (FR_bind (fr_x2_multiply_201 t (0 : Int32) (6 : Int32) (2 : Int32)) (fun q2 hq2 => FR_nm (fun x4 _ => FR_some hq2)))
theorem fr_x2_putThousandths_13_L123 (v5 : Int32) (v6 : Int32) (v7 : Int32) (t : St) : FR [200, 201] [] (lp (fun x => x2_putThousandths_13_B123 v5 v6 x.1 x.2) (v7, t)) t (fun (y : St) => y) := FR_lp (p := (fun (x : Int32 × St) => x.2)) (q := (fun (y : St) => y)) (fun x => fr_x2_putThousandths_13_B123 v5 v6 x.1 x.2) (v7, t)
theorem fr_x2_putThousandths_13_B150 (v6 : Int32) (v7 : Int32) (t : St) : FR [200, 201] [] (x2_putThousandths_13_B150 v6 v7 t) t (Sum.elim (fun (x : Int32 × St) => x.2) (fun (y : St) => y)) := by
  unfold x2_putThousandths_13_B150
  exact FR_ite (FR_some fx.rfl) (FR_bind (fr_x2_multiply_201 t (0 : Int32) (6 : Int32) (5 : Int32)) (fun q6 hq6 => FR_nm (fun x8 _ => FR_some hq6)))
theorem fr_x2_putThousandths_13_L150 (v6 : Int32) (v7 : Int32) (t : St) : FR [200, 201] [] (lp (fun x => x2_putThousandths_13_B150 v6 x.1 x.2) (v7, t)) t (fun (y : St) => y) := FR_lp (p := (fun (x : Int32 × St) => x.2)) (q := (fun (y : St) => y)) (fun x => fr_x2_putThousandths_13_B150 v6 x.1 x.2) (v7, t)
theorem fr_x2_putThousandths_13_B45 (v6 : Int32) (v5 : Int32) (t : St) : FR [200, 201] [] (x2_putThousandths_13_B45 v6 v5 t) t (Sum.elim (fun (x : Int32 × St) => x.2) (fun (y : Int32 × St) => y.2)) := by
  unfold x2_putThousandths_13_B45
  exact FR_ite (FR_some fx.rfl) (FR_bindn (fun q10 => FR_ite (FR_bind (fr_x2_divide_200 t (2 : Int32)) (fun q13 hq13 => FR_nm (fun x15 _ => FR_some hq13))) (FR_some fx.rfl)))
theorem fr_x2_putThousandths_13_L45 (v6 : Int32) (v5 : Int32) (t : St) : FR [200, 201] [] (lp (fun x => x2_putThousandths_13_B45 v6 x.1 x.2) (v5, t)) t (fun (y : Int32 × St) => y.2) := FR_lp (p := (fun (x : Int32 × St) => x.2)) (q := (fun (y : Int32 × St) => y.2)) (fun x => fr_x2_putThousandths_13_B45 v6 x.1 x.2) (v5, t)
theorem fr_x2_putThousandths_13_B75 (v5 : Int32) (v6 : Int32) (t : St) : FR [200, 201] [] (x2_putThousandths_13_B75 v5 v6 t) t (Sum.elim (fun (x : Int32 × St) => x.2) (fun (y : Int32 × St) => y.2)) := by
  unfold x2_putThousandths_13_B75
  exact FR_ite (FR_some fx.rfl) (FR_bindn (fun q17 => FR_ite (FR_bind (fr_x2_divide_200 t (5 : Int32)) (fun q20 hq20 => FR_nm (fun x22 _ => FR_some hq20))) (FR_some fx.rfl)))
theorem fr_x2_putThousandths_13_L75 (v5 : Int32) (v6 : Int32) (t : St) : FR [200, 201] [] (lp (fun x => x2_putThousandths_13_B75 v5 x.1 x.2) (v6, t)) t (fun (y : Int32 × St) => y.2) := FR_lp (p := (fun (x : Int32 × St) => x.2)) (q := (fun (y : Int32 × St) => y.2)) (fun x => fr_x2_putThousandths_13_B75 v5 x.1 x.2) (v6, t)
theorem fr_x2_putThousandths_13_J39 (t : St) (w0 : Int32) : FR [200, 201] [] (x2_putThousandths_13_J39 t w0) t (fun (a : St) => a) := by
  unfold x2_putThousandths_13_J39
  exact FR_bind (fr_x2_putThousandths_13_L45 w0 w0 t) (fun y23 hm24 => FR_bind (fr_x2_putThousandths_13_L75 y23.1 w0 y23.2) (fun y26 hm27 => FR_bind (fr_j7_fill_53178_201 y26.2 (0 : Int32)) (fun q29 hq29 => FR_gd (FR_nmS (fx_sA rfl) (fun t32 ht32 => FR_bind (fr_x2_putThousandths_13_L123 y23.1 y26.1 (0 : Int32) t32) (fun y33 hm34 => FR_bind (fr_x2_putThousandths_13_L150 y26.1 (0 : Int32) y33) (fun y36 hm37 => FR_some (fx.trans (fx.trans (fx.trans (fx.trans (fx.trans hm24 hm27) hq29) ht32) hm34) hm37))))))))
theorem fr_x2_putThousandths_13 (t : St) (a2 : Int32) (a3 : Int32) (a4 : Int32) : FR [200, 201] [] (x2_putThousandths_13 t a2 a3 a4) t (fun (a : St) => a) := by
  unfold x2_putThousandths_13
  exact FR_bind (fr_j7_fill_53178_200 t (0 : Int32)) (fun q39 hq39 => FR_cpk (FR_nmS (fx_sAr rfl) (fun t42 ht42 => FR_bindn (fun q43 => FR_ite (FR_wk (fx.trans hq39 ht42) (fr_x2_putThousandths_13_J39 t42 ((3 : Int32) * a4))) (FR_wk (fx.trans hq39 ht42) (fr_x2_putThousandths_13_J39 t42 (0 : Int32)))))))
theorem fr_x11_weight_J56 (t : St) : FR [2, 3, 4, 5, 6, 7, 8, 9, 10, 11, 12, 13, 14, 200, 201, 801, 802, 803, 804, 805, 806, 807, 808, 809, 810, 811, 812, 813, 814] [7, 8, 9, 10, 11, 12, 808, 9000, 9001] (x11_weight_J56 t) t (fun (a : Int32 × St) => a.2) := by
  unfold x11_weight_J56
  exact FR_bind (fr_x2_putThousandths_13 t (0 : Int32) (gI t 6) (gI t 803)) (fun q1 hq1 => FR_bindn (fun q3 => FR_ite (FR_some hq1) (FR_some hq1)))
theorem fr_x11_weight_J42 (t : St) (v2 : Int32) (w0 : Int32) : FR [2, 3, 4, 5, 6, 7, 8, 9, 10, 11, 12, 13, 14, 200, 201, 801, 802, 803, 804, 805, 806, 807, 808, 809, 810, 811, 812, 813, 814] [7, 8, 9, 10, 11, 12, 808, 9000, 9001] (x11_weight_J42 t v2 w0) t (fun (a : Int32 × St) => a.2) := by
  unfold x11_weight_J42
  exact FR_ite (FR_some fx.rfl) (FR_bind (fr_x0_workWeight t v2) (fun q8 hq8 => FR_wk hq8 (fr_x11_weight_J56 q8)))
theorem fr_x11_weight (t0 : St) (a1 : Int32) (a2 : Int32) : FR [2, 3, 4, 5, 6, 7, 8, 9, 10, 11, 12, 13, 14, 200, 201, 801, 802, 803, 804, 805, 806, 807, 808, 809, 810, 811, 812, 813, 814] [7, 8, 9, 10, 11, 12, 808, 9000, 9001] (x11_weight t0 a1 a2) t0 (fun (a : Int32 × St) => a.2) := by
  unfold x11_weight
  exact FR_bindn (fun q10 => FR_ite (FR_bindn (fun q14 => FR_ite (FR_gd (FR_nm (fun x19 _ => FR_ite (FR_bind (fr_x0_mayWork t0 x19) (fun q21 hq21 => FR_wk hq21 (fr_x11_weight_J42 q21.2 a2 q21.1))) (FR_some fx.rfl)))) (FR_some fx.rfl))) (FR_some fx.rfl))
theorem fr_x0_workSets_B34 (v1 : Int32) (v2 : Int32) (t : St) : FR [12, 14] [12, 9000, 9001] (x0_workSets_B34 v1 v2 t) t (Sum.elim (fun (x : Int32 × St) => x.2) (fun (y : St) => y)) := by
  unfold x0_workSets_B34
  exact FR_ite (FR_some fx.rfl) (FR_bindn (fun q2 => FR_ite (FR_bind (fr_x2_putPower_12 t (v2 * (gI t 6)) (gI t 6) (gI t 803)) (fun q8 hq8 => FR_nm (fun x10 _ => FR_some hq8))) (FR_bind (fr_x2_wipe_12 t (v2 * (gI t 6)) (gI t 6)) (fun q5 hq5 => FR_nm (fun x7 _ => FR_some hq5)))))
theorem fr_x0_workSets_L34 (v1 : Int32) (v2 : Int32) (t : St) : FR [12, 14] [12, 9000, 9001] (lp (fun x => x0_workSets_B34 v1 x.1 x.2) (v2, t)) t (fun (y : St) => y) := FR_lp (p := (fun (x : Int32 × St) => x.2)) (q := (fun (y : St) => y)) (fun x => fr_x0_workSets_B34 v1 x.1 x.2) (v2, t)
theorem fr_x0_workSets_B116 (v1 : Int32) (v2 : Int32) (v3 : Int32) (t : St) : FR [12, 14] [12, 9000, 9001] (x0_workSets_B116 v1 v2 v3 t) t (Sum.elim (fun (x : Int32 × St) => x.2) (fun (y : St) => y)) := by
  unfold x0_workSets_B116
  exact FR_ite (FR_some fx.rfl) (FR_ite (FR_nm (fun x18 _ => FR_some fx.rfl)) (FR_nm (fun x13 _ => FR_gd (FR_bind (fr_x2_blend_12 t x13 x13 ((v3 ^^^ ((1 : Int32) <<< (v2 &&& 31))) * (gI t 6)) (gA t 14 (v2).toNatClampNeg) (gI t 6)) (fun q15 hq15 => FR_nm (fun x17 _ => FR_some hq15))))))
theorem fr_x0_workSets_L116 (v1 : Int32) (v2 : Int32) (v3 : Int32) (t : St) : FR [12, 14] [12, 9000, 9001] (lp (fun x => x0_workSets_B116 v1 v2 x.1 x.2) (v3, t)) t (fun (y : St) => y) := FR_lp (p := (fun (x : Int32 × St) => x.2)) (q := (fun (y : St) => y)) (fun x => fr_x0_workSets_B116 v1 v2 x.1 x.2) (v3, t)
theorem fr_x0_workSets_B103 (v1 : Int32) (v2 : Int32) (t : St) : FR [12, 14] [12, 9000, 9001] (x0_workSets_B103 v1 v2 t) t (Sum.elim (fun (x : Int32 × St) => x.2) (fun (y : St) => y)) := by
  unfold x0_workSets_B103
  exact FR_ite (FR_some fx.rfl) (FR_bind (fr_x0_workSets_L116 v1 v2 (0 : Int32) t) (fun y20 hm21 => FR_nm (fun x23 _ => FR_some hm21)))
theorem fr_x0_workSets_L103 (v1 : Int32) (v2 : Int32) (t : St) : FR [12, 14] [12, 9000, 9001] (lp (fun x => x0_workSets_B103 v1 x.1 x.2) (v2, t)) t (fun (y : St) => y) := FR_lp (p := (fun (x : Int32 × St) => x.2)) (q := (fun (y : St) => y)) (fun x => fr_x0_workSets_B103 v1 x.1 x.2) (v2, t)
theorem fr_x0_workSets_J27 (t : St) (v1 : Int32) : FR [12, 14] [12, 9000, 9001] (x0_workSets_J27 t v1) t (fun (a : St) => a) := by
  unfold x0_workSets_J27
  exact FR_bind (fr_x0_takeOdds t (0 : Int32)) (fun q24 hq24 => FR_bind (fr_x0_workSets_L34 v1 (0 : Int32) q24) (fun y26 hm27 => FR_bind (fr_x0_workSets_L103 v1 (0 : Int32) y26) (fun y29 hm30 => FR_some (fx.trans (fx.trans hq24 hm27) hm30))))
theorem fr_x0_workSets (t0 : St) : FR [12, 14] [12, 9000, 9001] (x0_workSets t0) t0 (fun (a : St) => a) := by
  unfold x0_workSets
  exact FR_nm (fun x32 _ => FR_grw rfl rfl rfl rfl (fun t33 ht33 => FR_wk ht33 (fr_x0_workSets_J27 t33 x32)))
theorem fr_x0_bestSet_J4 (t : St) (v1 : Int32) : FR [12, 14] [12, 9000, 9001] (x0_bestSet_J4 t v1) t (fun (a : Int32 × St) => a.2) := by
  unfold x0_bestSet_J4
  exact FR_bindn (fun y16 => FR_some fx.rfl)
theorem fr_x0_bestSet (t0 : St) (a1 : Int32) : FR [12, 14] [12, 9000, 9001] (x0_bestSet t0 a1) t0 (fun (a : Int32 × St) => a.2) := by
  unfold x0_bestSet
  exact FR_bind (fr_x0_workSets t0) (fun q19 hq19 => FR_wk hq19 (fr_x0_bestSet_J4 q19 a1))
theorem fr_x11_best_J77 (t : St) (w0 : Int32) : FR [2, 3, 4, 5, 6, 7, 8, 9, 10, 11, 12, 14, 200, 201, 801, 802, 803, 804, 805, 806, 807, 808, 809, 810, 811, 812, 813, 814] [7, 8, 9, 10, 11, 12, 808, 9000, 9001] (x11_best_J77 t w0) t (fun (a : Int32 × St) => a.2) := by
  unfold x11_best_J77
  exact FR_bind (fr_x2_putThousandths_12 t (w0 * (gI t 6)) (gI t 6) (gI t 803)) (fun q1 hq1 => FR_bindn (fun q3 => FR_some hq1))
theorem fr_x11_best_J63 (t : St) (v2 : Int32) (w0 : Int32) : FR [2, 3, 4, 5, 6, 7, 8, 9, 10, 11, 12, 14, 200, 201, 801, 802, 803, 804, 805, 806, 807, 808, 809, 810, 811, 812, 813, 814] [7, 8, 9, 10, 11, 12, 808, 9000, 9001] (x11_best_J63 t v2 w0) t (fun (a : Int32 × St) => a.2) := by
  unfold x11_best_J63
  exact FR_ite (FR_some fx.rfl) (FR_bind (fr_x0_bestSet t v2) (fun q6 hq6 => FR_wk hq6 (fr_x11_best_J77 q6.2 q6.1)))
theorem fr_x11_best (t0 : St) (a1 : Int32) (a2 : Int32) : FR [2, 3, 4, 5, 6, 7, 8, 9, 10, 11, 12, 14, 200, 201, 801, 802, 803, 804, 805, 806, 807, 808, 809, 810, 811, 812, 813, 814] [7, 8, 9, 10, 11, 12, 808, 9000, 9001] (x11_best t0 a1 a2) t0 (fun (a : Int32 × St) => a.2) := by
  unfold x11_best
  exact FR_bindn (fun q8 => FR_ite (FR_bindn (fun q12 => FR_ite (FR_gd (FR_nm (fun x17 _ => FR_ite (FR_some fx.rfl) (FR_gd (FR_bindn (fun q20 => FR_ite (FR_bind (fr_x0_mayWork t0 x17) (fun q23 hq23 => FR_wk hq23 (fr_x11_best_J63 q23.2 a2 q23.1))) (FR_some fx.rfl))))))) (FR_some fx.rfl))) (FR_some fx.rfl))
theorem fr_x4_hire_B49 (v1 : Int32) (v2 : Int32) (v3 : Int32) (v4 : Int32) (t : St) : FR [402, 403, 404, 409] [403, 404, 9000, 9001] (x4_hire_B49 v1 v2 v3 v4 t) t (Sum.elim (fun (x : Int32 × St) => x.2) (fun (y : St) => y)) := by
  unfold x4_hire_B49
  exact FR_ite (FR_some fx.rfl) (FR_gd (FR_gd (FR_nmS (fx_sA rfl) (fun t4 ht4 => FR_gd (FR_gd (FR_nmS (fx_sA rfl) (fun t7 ht7 => FR_nm (fun x8 _ => FR_some (fx.trans ht4 ht7)))))))))
theorem fr_x4_hire_L49 (v1 : Int32) (v2 : Int32) (v3 : Int32) (v4 : Int32) (t : St) : FR [402, 403, 404, 409] [403, 404, 9000, 9001] (lp (fun x => x4_hire_B49 v1 v2 v3 x.1 x.2) (v4, t)) t (fun (y : St) => y) := FR_lp (p := (fun (x : Int32 × St) => x.2)) (q := (fun (y : St) => y)) (fun x => fr_x4_hire_B49 v1 v2 v3 x.1 x.2) (v4, t)
theorem fr_x4_hire_J46 (t : St) (v1 : Int32) (v2 : Int32) (v3 : Int32) : FR [402, 403, 404, 409] [403, 404, 9000, 9001] (x4_hire_J46 t v1 v2 v3) t (fun (a : Int32 × St) => a.2) := by
  unfold x4_hire_J46
  exact FR_bind (fr_x4_hire_L49 v1 v2 v3 (0 : Int32) t) (fun y9 hm10 => FR_nmS (fx_sI rfl) (fun t12 ht12 => FR_bind (fr_x4_forgetFront t12) (fun q13 hq13 => FR_some (fx.trans (fx.trans hm10 ht12) hq13))))
theorem fr_x4_hire_J32 (t : St) (v1 : Int32) (v2 : Int32) (v3 : Int32) : FR [402, 403, 404, 409] [403, 404, 9000, 9001] (x4_hire_J32 t v1 v2 v3) t (fun (a : Int32 × St) => a.2) := by
  unfold x4_hire_J32
  exact FR_cpy rfl rfl rfl rfl (fun t15 ht15 => FR_wk ht15 (fr_x4_hire_J46 t15 v1 v2 v3))
theorem fr_x4_hire (t0 : St) (a1 : Int32) (a2 : Int32) : FR [402, 403, 404, 409] [403, 404, 9000, 9001] (x4_hire t0 a1 a2) t0 (fun (a : Int32 × St) => a.2) := by
  unfold x4_hire
  exact FR_ite (FR_nm (fun x18 _ => FR_cpy rfl rfl rfl rfl (fun t19 ht19 => FR_wk ht19 (fr_x4_hire_J32 t19 a1 a2 x18)))) (FR_some fx.rfl)
theorem fr_x11_guard_J33 (t : St) (w0 : Int32) : FR [402, 403, 404, 409] [403, 404, 9000, 9001] (x11_guard_J33 t w0) t (fun (a : Int32 × St) => a.2) := by
  unfold x11_guard_J33
  exact FR_ite (FR_some fx.rfl) (FR_some fx.rfl)
theorem fr_x11_guard (t0 : St) (a1 : Int32) (a2 : Int32) : FR [402, 403, 404, 409] [403, 404, 9000, 9001] (x11_guard t0 a1 a2) t0 (fun (a : Int32 × St) => a.2) := by
  unfold x11_guard
  exact FR_bindn (fun q2 => FR_ite (FR_bindn (fun q6 => FR_ite (FR_bind (fr_x4_hire t0 a1 a2) (fun q10 hq10 => FR_wk hq10 (fr_x11_guard_J33 q10.2 q10.1))) (FR_some fx.rfl))) (FR_some fx.rfl))
theorem fr_x11_holds (t : St) (a1 : Int32) (a2 : Int32) : FR [611] [] (x11_holds t a1 a2) t (fun (a : Int32 × St) => a.2) := by
  unfold x11_holds
  exact FR_bindn (fun q1 => FR_ite (FR_bindn (fun q5 => FR_ite (FR_gd (FR_nm (fun x10 _ => FR_ite (FR_gd (FR_bind (fr_x6_isReachedBy t x10 ((65535 : Int32) &&& ((gA t 403 (a2).toNatClampNeg) ^^^ (-1 : Int32)))) (fun q13 hq13 => FR_ite (FR_some hq13) (FR_some hq13)))) (FR_some fx.rfl)))) (FR_some fx.rfl))) (FR_some fx.rfl))
theorem fr_x4_leastHolding_J8 (t : St) : FR [801, 802, 803, 804, 805, 806, 807, 808, 809, 810, 811, 812, 813, 814] [808, 9000, 9001] (x4_leastHolding_J8 t) t (fun (a : Int32 × St) => a.2) := by
  unfold x4_leastHolding_J8
  exact FR_bindn (fun y16 => FR_some fx.rfl)
theorem fr_x4_leastHolding (t0 : St) (a1 : Int32) : FR [801, 802, 803, 804, 805, 806, 807, 808, 809, 810, 811, 812, 813, 814] [808, 9000, 9001] (x4_leastHolding t0 a1) t0 (fun (a : Int32 × St) => a.2) := by
  unfold x4_leastHolding
  exact FR_bind (fr_x8_fillFor t0 a1) (fun q19 hq19 => FR_wk hq19 (fr_x4_leastHolding_J8 q19))
theorem fr_x11_leastGuards_J37 (t : St) (w0 : Int32) : FR [801, 802, 803, 804, 805, 806, 807, 808, 809, 810, 811, 812, 813, 814] [808, 9000, 9001] (x11_leastGuards_J37 t w0) t (fun (a : Int32 × St) => a.2) := by
  unfold x11_leastGuards_J37
  exact FR_some fx.rfl
theorem fr_x11_leastGuards (t0 : St) (a1 : Int32) : FR [801, 802, 803, 804, 805, 806, 807, 808, 809, 810, 811, 812, 813, 814] [808, 9000, 9001] (x11_leastGuards t0 a1) t0 (fun (a : Int32 × St) => a.2) := by
  unfold x11_leastGuards
  exact FR_bindn (fun q1 => FR_ite (FR_gd (FR_nm (fun x6 _ => FR_ite (FR_bind (fr_x4_leastHolding t0 x6) (fun q8 hq8 => FR_wk hq8 (fr_x11_leastGuards_J37 q8.2 q8.1))) (FR_wk fx.rfl (fr_x11_leastGuards_J37 t0 (-3 : Int32)))))) (FR_some fx.rfl))
theorem fr_x4_workChances_J76 (t : St) (v1 : Int32) (v2 : Int32) (v3 : Int32) (w0 : Int32) : FR [12, 14, 405, 407] [12, 405, 407, 9000, 9001] (x4_workChances_J76 t v1 v2 v3 w0) t (Sum.elim (fun (x : Int32 × Int32 × St) => x.2.2) (fun (y : Int32 × St) => y.2)) := by
  unfold x4_workChances_J76
  exact FR_cpk (FR_nmS (fx_sAr rfl) (fun t2 ht2 => FR_gd (FR_gd (FR_nmS (fx_sA rfl) (fun t5 ht5 => FR_nm (fun x6 _ => FR_nm (fun x7 _ => FR_some (fx.trans ht2 ht5))))))))
theorem fr_x4_workChances_B40 (v1 : Int32) (v2 : Int32) (v3 : Int32) (t : St) : FR [12, 14, 405, 407] [12, 405, 407, 9000, 9001] (x4_workChances_B40 v1 v2 v3 t) t (Sum.elim (fun (x : Int32 × Int32 × St) => x.2.2) (fun (y : Int32 × St) => y.2)) := by
  unfold x4_workChances_B40
  exact FR_ite (FR_some fx.rfl) (FR_bindn (fun q9 => FR_ite (FR_gd (FR_bind (fr_x0_takeOdds t (gA t 403 (v3).toNatClampNeg)) (fun q14 hq14 => FR_bind (fr_x0_work q14) (fun q16 hq16 => FR_wk (fx.trans hq14 hq16) (fr_x4_workChances_J76 q16.2 v1 v2 v3 q16.1))))) (FR_nm (fun x18 _ => FR_some fx.rfl))))
theorem fr_x4_workChances_L40 (v1 : Int32) (v2 : Int32) (v3 : Int32) (t : St) : FR [12, 14, 405, 407] [12, 405, 407, 9000, 9001] (lp (fun x => x4_workChances_B40 v1 x.1 x.2.1 x.2.2) (v2, v3, t)) t (fun (y : Int32 × St) => y.2) := FR_lp (p := (fun (x : Int32 × Int32 × St) => x.2.2)) (q := (fun (y : Int32 × St) => y.2)) (fun x => fr_x4_workChances_B40 v1 x.1 x.2.1 x.2.2) (v2, v3, t)
theorem fr_x4_workChances_J130 (t : St) (v2 : Int32) : FR [12, 14, 405, 407] [12, 405, 407, 9000, 9001] (x4_workChances_J130 t v2) t (fun (a : Int32 × St) => a.2) := by
  unfold x4_workChances_J130
  exact FR_some fx.rfl
theorem fr_x4_workChances_J36 (t : St) (v1 : Int32) : FR [12, 14, 405, 407] [12, 405, 407, 9000, 9001] (x4_workChances_J36 t v1) t (fun (a : Int32 × St) => a.2) := by
  unfold x4_workChances_J36
  exact FR_bind (fr_x4_workChances_L40 v1 (0 : Int32) (0 : Int32) t) (fun y19 hm20 => FR_wk hm20 (fr_x4_workChances_J130 y19.2 y19.1))
theorem fr_x4_workChances_J24 (t : St) (v1 : Int32) : FR [12, 14, 405, 407] [12, 405, 407, 9000, 9001] (x4_workChances_J24 t v1) t (fun (a : Int32 × St) => a.2) := by
  unfold x4_workChances_J24
  exact FR_grw rfl rfl rfl rfl (fun t22 ht22 => FR_wk ht22 (fr_x4_workChances_J36 t22 v1))
theorem fr_x4_workChances (t0 : St) : FR [12, 14, 405, 407] [12, 405, 407, 9000, 9001] (x4_workChances t0) t0 (fun (a : Int32 × St) => a.2) := by
  unfold x4_workChances
  exact FR_nm (fun x24 _ => FR_grw rfl rfl rfl rfl (fun t25 ht25 => FR_wk ht25 (fr_x4_workChances_J24 t25 x24)))
theorem fr_x4_sort_B26 (v1 : Int32) (v2 : Int32) (v3 : Int32) (v4 : Int32) (v5 : Int32) (t : St) : FR [407] [] (x4_sort_B26 v1 v2 v3 v4 v5 t) t (Sum.elim (fun (x : Int32 × St) => x.2) (fun (y : Int32 × St) => y.2)) := by
  unfold x4_sort_B26
  exact FR_ite (FR_some fx.rfl) (FR_gd (FR_ite (FR_some fx.rfl) (FR_gd (FR_gd (FR_nmS (fx_sA rfl) (fun t6 ht6 => FR_nm (fun x7 _ => FR_some ht6)))))))
theorem fr_x4_sort_L26 (v1 : Int32) (v2 : Int32) (v3 : Int32) (v4 : Int32) (v5 : Int32) (t : St) : FR [407] [] (lp (fun x => x4_sort_B26 v1 v2 v3 v4 x.1 x.2) (v5, t)) t (fun (y : Int32 × St) => y.2) := FR_lp (p := (fun (x : Int32 × St) => x.2)) (q := (fun (y : Int32 × St) => y.2)) (fun x => fr_x4_sort_B26 v1 v2 v3 v4 x.1 x.2) (v5, t)
theorem fr_x4_sort_B10 (v1 : Int32) (v2 : Int32) (v3 : Int32) (t : St) : FR [407] [] (x4_sort_B10 v1 v2 v3 t) t (Sum.elim (fun (x : Int32 × St) => x.2) (fun (y : St) => y)) := by
  unfold x4_sort_B10
  exact FR_ite (FR_some fx.rfl) (FR_gd (FR_nm (fun x10 _ => FR_bind (fr_x4_sort_L26 v1 v2 v3 x10 v3 t) (fun y11 hm12 => FR_gd (FR_nmS (fx_sA rfl) (fun t15 ht15 => FR_nm (fun x16 _ => FR_some (fx.trans hm12 ht15))))))))
theorem fr_x4_sort_L10 (v1 : Int32) (v2 : Int32) (v3 : Int32) (t : St) : FR [407] [] (lp (fun x => x4_sort_B10 v1 v2 x.1 x.2) (v3, t)) t (fun (y : St) => y) := FR_lp (p := (fun (x : Int32 × St) => x.2)) (q := (fun (y : St) => y)) (fun x => fr_x4_sort_B10 v1 v2 x.1 x.2) (v3, t)
theorem fr_x4_sort_B4 (v1 : Int32) (v2 : Int32) (t : St) : FR [407] [] (x4_sort_B4 v1 v2 t) t (Sum.elim (fun (x : Int32 × St) => x.2) (fun (y : St) => y)) := by
  unfold x4_sort_B4
  exact FR_ite (FR_some fx.rfl) (FR_bind (fr_x4_sort_L10 v1 v2 v2 t) (fun y18 hm19 => FR_nm (fun x21 _ => FR_some hm19)))
theorem fr_x4_sort_L4 (v1 : Int32) (v2 : Int32) (t : St) : FR [407] [] (lp (fun x => x4_sort_B4 v1 x.1 x.2) (v2, t)) t (fun (y : St) => y) := FR_lp (p := (fun (x : Int32 × St) => x.2)) (q := (fun (y : St) => y)) (fun x => fr_x4_sort_B4 v1 x.1 x.2) (v2, t)
theorem fr_x4_sort (t : St) (a1 : Int32) : FR [407] [] (x4_sort t a1) t (fun (a : St) => a) := by
  unfold x4_sort
  exact FR_nm (fun x22 _ => FR_bind (fr_x4_sort_L4 a1 x22 t) (fun y23 hm24 => FR_some hm24))
theorem fr_x4_pickFront_J115 (t : St) (v1 : Int32) (v2 : Int32) (v3 : Int32) : FR [406, 408] [406, 9000, 9001] (x4_pickFront_J115 t v1 v2 v3) t (Sum.elim (fun (x : Int32 × St) => x.2) (fun (y : St) => y)) := by
  unfold x4_pickFront_J115
  exact FR_gd (FR_nmS (fx_sA rfl) (fun t2 ht2 => FR_nmS (fx_sI rfl) (fun t3 ht3 => FR_nm (fun x4 _ => FR_some (fx.trans ht2 ht3)))))
theorem fr_x4_pickFront_B19 (v1 : Int32) (v2 : Int32) (t : St) : FR [406, 408] [406, 9000, 9001] (x4_pickFront_B19 v1 v2 t) t (Sum.elim (fun (x : Int32 × St) => x.2) (fun (y : St) => y)) := by
  unfold x4_pickFront_B19
  exact FR_ite (FR_some fx.rfl) (FR_gd (FR_nm (fun x7 _ => FR_ite (FR_wk fx.rfl (fr_x4_pickFront_J115 t v1 v2 x7)) (FR_gd (FR_nm (fun x10 _ => FR_nm (fun x11 _ => FR_bindn (fun q12 => FR_ite (FR_gd (FR_gd (FR_ite (FR_nmS (fx_sI rfl) (fun t18 ht18 => FR_wk ht18 (fr_x4_pickFront_J115 t18 v1 v2 x7))) (FR_wk fx.rfl (fr_x4_pickFront_J115 t v1 v2 x7))))) (FR_nm (fun x19 _ => FR_some fx.rfl))))))))))
theorem fr_x4_pickFront_L19 (v1 : Int32) (v2 : Int32) (t : St) : FR [406, 408] [406, 9000, 9001] (lp (fun x => x4_pickFront_B19 v1 x.1 x.2) (v2, t)) t (fun (y : St) => y) := FR_lp (p := (fun (x : Int32 × St) => x.2)) (q := (fun (y : St) => y)) (fun x => fr_x4_pickFront_B19 v1 x.1 x.2) (v2, t)
theorem fr_x4_pickFront_J12 (t : St) (v1 : Int32) : FR [406, 408] [406, 9000, 9001] (x4_pickFront_J12 t v1) t (fun (a : St) => a) := by
  unfold x4_pickFront_J12
  exact FR_nmS (fx_sI rfl) (fun t20 ht20 => FR_bind (fr_x4_pickFront_L19 v1 (0 : Int32) t20) (fun y21 hm22 => FR_some (fx.trans ht20 hm22)))
theorem fr_x4_pickFront (t0 : St) (a1 : Int32) : FR [406, 408] [406, 9000, 9001] (x4_pickFront t0 a1) t0 (fun (a : St) => a) := by
  unfold x4_pickFront
  exact FR_grw rfl rfl rfl rfl (fun t24 ht24 => FR_wk ht24 (fr_x4_pickFront_J12 t24 a1))
theorem fr_x4_drawFront_J75 (t : St) : FR [2, 3, 4, 5, 6, 7, 8, 9, 10, 11, 12, 14, 405, 406, 407, 408, 409, 410, 411, 801, 802, 803, 804, 805, 806, 807, 808, 809, 810, 811, 812, 813, 814] [7, 8, 9, 10, 11, 12, 405, 406, 407, 808, 9000, 9001] (x4_drawFront_J75 t) t (fun (a : Int32 × St) => a.2) := by
  unfold x4_drawFront_J75
  exact FR_some fx.rfl
theorem fr_x4_drawFront_J64 (t : St) (w0 : Int32) : FR [2, 3, 4, 5, 6, 7, 8, 9, 10, 11, 12, 14, 405, 406, 407, 408, 409, 410, 411, 801, 802, 803, 804, 805, 806, 807, 808, 809, 810, 811, 812, 813, 814] [7, 8, 9, 10, 11, 12, 405, 406, 407, 808, 9000, 9001] (x4_drawFront_J64 t w0) t (fun (a : Int32 × St) => a.2) := by
  unfold x4_drawFront_J64
  exact FR_bind (fr_x4_sort t w0) (fun q1 hq1 => FR_bind (fr_x4_pickFront q1 w0) (fun q3 hq3 => FR_wk (fx.trans hq1 hq3) (fr_x4_drawFront_J75 q3)))
theorem fr_x4_drawFront_J18 (t : St) (v1 : Int32) : FR [2, 3, 4, 5, 6, 7, 8, 9, 10, 11, 12, 14, 405, 406, 407, 408, 409, 410, 411, 801, 802, 803, 804, 805, 806, 807, 808, 809, 810, 811, 812, 813, 814] [7, 8, 9, 10, 11, 12, 405, 406, 407, 808, 9000, 9001] (x4_drawFront_J18 t v1) t (fun (a : Int32 × St) => a.2) := by
  unfold x4_drawFront_J18
  exact FR_bindn (fun q5 => FR_ite (FR_nmS (fx_sI rfl) (fun t8 ht8 => FR_nmS (fx_sI rfl) (fun t9 ht9 => FR_nmS (fx_sI rfl) (fun t10 ht10 => FR_bind (fr_x4_workChances t10) (fun q11 hq11 => FR_wk (fx.trans (fx.trans (fx.trans ht8 ht9) ht10) hq11) (fr_x4_drawFront_J64 q11.2 q11.1)))))) (FR_some fx.rfl))
theorem fr_x4_drawFront (t0 : St) (a1 : Int32) : FR [2, 3, 4, 5, 6, 7, 8, 9, 10, 11, 12, 14, 405, 406, 407, 408, 409, 410, 411, 801, 802, 803, 804, 805, 806, 807, 808, 809, 810, 811, 812, 813, 814] [7, 8, 9, 10, 11, 12, 405, 406, 407, 808, 9000, 9001] (x4_drawFront t0 a1) t0 (fun (a : Int32 × St) => a.2) := by
  unfold x4_drawFront
  exact FR_ite (FR_some fx.rfl) (FR_bind (fr_x0_draw t0 a1) (fun q14 hq14 => FR_wk hq14 (fr_x4_drawFront_J18 q14 a1)))
theorem fr_x11_front_J35 (t : St) (w0 : Int32) : FR [2, 3, 4, 5, 6, 7, 8, 9, 10, 11, 12, 14, 405, 406, 407, 408, 409, 410, 411, 801, 802, 803, 804, 805, 806, 807, 808, 809, 810, 811, 812, 813, 814] [7, 8, 9, 10, 11, 12, 405, 406, 407, 808, 9000, 9001] (x11_front_J35 t w0) t (fun (a : Int32 × St) => a.2) := by
  unfold x11_front_J35
  exact FR_ite (FR_some fx.rfl) (FR_some fx.rfl)
theorem fr_x11_front (t0 : St) (a1 : Int32) : FR [2, 3, 4, 5, 6, 7, 8, 9, 10, 11, 12, 14, 405, 406, 407, 408, 409, 410, 411, 801, 802, 803, 804, 805, 806, 807, 808, 809, 810, 811, 812, 813, 814] [7, 8, 9, 10, 11, 12, 405, 406, 407, 808, 9000, 9001] (x11_front t0 a1) t0 (fun (a : Int32 × St) => a.2) := by
  unfold x11_front
  exact FR_bindn (fun q2 => FR_ite (FR_gd (FR_nm (fun x7 _ => FR_ite (FR_bind (fr_x4_drawFront t0 x7) (fun q9 hq9 => FR_wk hq9 (fr_x11_front_J35 q9.2 q9.1))) (FR_some fx.rfl)))) (FR_some fx.rfl))
theorem fr_x2_putThousandths_405_B123 (v5 : Int32) (v6 : Int32) (v7 : Int32) (t : St) : FR [200, 201] [] (x2_putThousandths_405_B123 v5 v6 v7 t) t (Sum.elim (fun (x : Int32 × St) => x.2) (fun (y : St) => y)) := by
  unfold x2_putThousandths_405_B123
  exact FR_ite (FR_some fx.rfl) (FR_bind (fr_x2_multiply_201 t (0 : Int32) (6 : Int32) (2 : Int32)) (fun q2 hq2 => FR_nm (fun x4 _ => FR_some hq2)))
theorem fr_x2_putThousandths_405_L123 (v5 : Int32) (v6 : Int32) (v7 : Int32) (t : St) : FR [200, 201] [] (lp (fun x => x2_putThousandths_405_B123 v5 v6 x.1 x.2) (v7, t)) t (fun (y : St) => y) := FR_lp (p := (fun (x : Int32 × St) => x.2)) (q := (fun (y : St) => y)) (fun x => fr_x2_putThousandths_405_B123 v5 v6 x.1 x.2) (v7, t)
theorem fr_x2_putThousandths_405_B150 (v6 : Int32) (v7 : Int32) (t : St) : FR [200, 201] [] (x2_putThousandths_405_B150 v6 v7 t) t (Sum.elim (fun (x : Int32 × St) => x.2) (fun (y : St) => y)) := by
  unfold x2_putThousandths_405_B150
  exact FR_ite (FR_some fx.rfl) (FR_bind (fr_x2_multiply_201 t (0 : Int32) (6 : Int32) (5 : Int32)) (fun q6 hq6 => FR_nm (fun x8 _ => FR_some hq6)))
theorem fr_x2_putThousandths_405_L150 (v6 : Int32) (v7 : Int32) (t : St) : FR [200, 201] [] (lp (fun x => x2_putThousandths_405_B150 v6 x.1 x.2) (v7, t)) t (fun (y : St) => y) := FR_lp (p := (fun (x : Int32 × St) => x.2)) (q := (fun (y : St) => y)) (fun x => fr_x2_putThousandths_405_B150 v6 x.1 x.2) (v7, t)
theorem fr_x2_putThousandths_405_B45 (v6 : Int32) (v5 : Int32) (t : St) : FR [200, 201] [] (x2_putThousandths_405_B45 v6 v5 t) t (Sum.elim (fun (x : Int32 × St) => x.2) (fun (y : Int32 × St) => y.2)) := by
  unfold x2_putThousandths_405_B45
  exact FR_ite (FR_some fx.rfl) (FR_bindn (fun q10 => FR_ite (FR_bind (fr_x2_divide_200 t (2 : Int32)) (fun q13 hq13 => FR_nm (fun x15 _ => FR_some hq13))) (FR_some fx.rfl)))
theorem fr_x2_putThousandths_405_L45 (v6 : Int32) (v5 : Int32) (t : St) : FR [200, 201] [] (lp (fun x => x2_putThousandths_405_B45 v6 x.1 x.2) (v5, t)) t (fun (y : Int32 × St) => y.2) := FR_lp (p := (fun (x : Int32 × St) => x.2)) (q := (fun (y : Int32 × St) => y.2)) (fun x => fr_x2_putThousandths_405_B45 v6 x.1 x.2) (v5, t)
theorem fr_x2_putThousandths_405_B75 (v5 : Int32) (v6 : Int32) (t : St) : FR [200, 201] [] (x2_putThousandths_405_B75 v5 v6 t) t (Sum.elim (fun (x : Int32 × St) => x.2) (fun (y : Int32 × St) => y.2)) := by
  unfold x2_putThousandths_405_B75
  exact FR_ite (FR_some fx.rfl) (FR_bindn (fun q17 => FR_ite (FR_bind (fr_x2_divide_200 t (5 : Int32)) (fun q20 hq20 => FR_nm (fun x22 _ => FR_some hq20))) (FR_some fx.rfl)))
theorem fr_x2_putThousandths_405_L75 (v5 : Int32) (v6 : Int32) (t : St) : FR [200, 201] [] (lp (fun x => x2_putThousandths_405_B75 v5 x.1 x.2) (v6, t)) t (fun (y : Int32 × St) => y.2) := FR_lp (p := (fun (x : Int32 × St) => x.2)) (q := (fun (y : Int32 × St) => y.2)) (fun x => fr_x2_putThousandths_405_B75 v5 x.1 x.2) (v6, t)
theorem fr_x2_putThousandths_405_J39 (t : St) (w0 : Int32) : FR [200, 201] [] (x2_putThousandths_405_J39 t w0) t (fun (a : St) => a) := by
  unfold x2_putThousandths_405_J39
  exact FR_bind (fr_x2_putThousandths_405_L45 w0 w0 t) (fun y23 hm24 => FR_bind (fr_x2_putThousandths_405_L75 y23.1 w0 y23.2) (fun y26 hm27 => FR_bind (fr_j7_fill_53178_201 y26.2 (0 : Int32)) (fun q29 hq29 => FR_gd (FR_nmS (fx_sA rfl) (fun t32 ht32 => FR_bind (fr_x2_putThousandths_405_L123 y23.1 y26.1 (0 : Int32) t32) (fun y33 hm34 => FR_bind (fr_x2_putThousandths_405_L150 y26.1 (0 : Int32) y33) (fun y36 hm37 => FR_some (fx.trans (fx.trans (fx.trans (fx.trans (fx.trans hm24 hm27) hq29) ht32) hm34) hm37))))))))
theorem fr_x2_putThousandths_405 (t : St) (a2 : Int32) (a3 : Int32) (a4 : Int32) : FR [200, 201] [] (x2_putThousandths_405 t a2 a3 a4) t (fun (a : St) => a) := by
  unfold x2_putThousandths_405
  exact FR_bind (fr_j7_fill_53178_200 t (0 : Int32)) (fun q39 hq39 => FR_cpk (FR_nmS (fx_sAr rfl) (fun t42 ht42 => FR_bindn (fun q43 => FR_ite (FR_wk (fx.trans hq39 ht42) (fr_x2_putThousandths_405_J39 t42 ((3 : Int32) * a4))) (FR_wk (fx.trans hq39 ht42) (fr_x2_putThousandths_405_J39 t42 (0 : Int32)))))))
theorem fr_x11_frontAt_J51 (t : St) (v2 : Int32) (v3 : Int32) (w0 : Int32) : FR [2, 3, 4, 5, 6, 7, 8, 9, 10, 11, 12, 14, 200, 201, 405, 406, 407, 408, 409, 410, 411, 801, 802, 803, 804, 805, 806, 807, 808, 809, 810, 811, 812, 813, 814] [7, 8, 9, 10, 11, 12, 405, 406, 407, 808, 9000, 9001] (x11_frontAt_J51 t v2 v3 w0) t (fun (a : Int32 × St) => a.2) := by
  unfold x11_frontAt_J51
  exact FR_ite (FR_some fx.rfl) (FR_ite (FR_gd (FR_nm (fun x4 _ => FR_nm (fun x5 _ => FR_bind (fr_x2_putThousandths_405 t (x4 * x5) x5 (gI t 411)) (fun q6 hq6 => FR_ite (FR_some hq6) (FR_gd (FR_some hq6))))))) (FR_some fx.rfl))
theorem fr_x11_frontAt (t0 : St) (a1 : Int32) (a2 : Int32) (a3 : Int32) : FR [2, 3, 4, 5, 6, 7, 8, 9, 10, 11, 12, 14, 200, 201, 405, 406, 407, 408, 409, 410, 411, 801, 802, 803, 804, 805, 806, 807, 808, 809, 810, 811, 812, 813, 814] [7, 8, 9, 10, 11, 12, 405, 406, 407, 808, 9000, 9001] (x11_frontAt t0 a1 a2 a3) t0 (fun (a : Int32 × St) => a.2) := by
  unfold x11_frontAt
  exact FR_bindn (fun q10 => FR_ite (FR_ite (FR_some fx.rfl) (FR_bindn (fun q15 => FR_ite (FR_gd (FR_nm (fun x20 _ => FR_ite (FR_bind (fr_x4_drawFront t0 x20) (fun q22 hq22 => FR_wk hq22 (fr_x11_frontAt_J51 q22.2 a2 a3 q22.1))) (FR_some fx.rfl)))) (FR_some fx.rfl)))) (FR_some fx.rfl))
theorem fr_x2_wipe_301_B2 (v1 : Int32) (v2 : Int32) (v3 : Int32) (t : St) : FR [301] [] (x2_wipe_301_B2 v1 v2 v3 t) t (Sum.elim (fun (x : Int32 × St) => x.2) (fun (y : St) => y)) := by
  unfold x2_wipe_301_B2
  exact FR_ite (FR_some fx.rfl) (FR_gd (FR_nmS (fx_sA rfl) (fun t3 ht3 => FR_nm (fun x4 _ => FR_some ht3))))
theorem fr_x2_wipe_301_L2 (v1 : Int32) (v2 : Int32) (v3 : Int32) (t : St) : FR [301] [] (lp (fun x => x2_wipe_301_B2 v1 v2 x.1 x.2) (v3, t)) t (fun (y : St) => y) := FR_lp (p := (fun (x : Int32 × St) => x.2)) (q := (fun (y : St) => y)) (fun x => fr_x2_wipe_301_B2 v1 v2 x.1 x.2) (v3, t)
theorem fr_x2_wipe_301 (t : St) (a1 : Int32) (a2 : Int32) : FR [301] [] (x2_wipe_301 t a1 a2) t (fun (a : St) => a) := by
  unfold x2_wipe_301
  exact FR_bind (fr_x2_wipe_301_L2 a1 a2 (0 : Int32) t) (fun y5 hm6 => FR_some hm6)
theorem fr_x3_hire (t : St) : FR [301, 302] [] (x3_hire t) t (fun (a : Int32 × St) => a.2) := by
  unfold x3_hire
  exact FR_ite (FR_bind (fr_x2_wipe_301 t ((gI t 302) * (16 : Int32)) (16 : Int32)) (fun q2 hq2 => FR_nmS (fx_sI rfl) (fun t4 ht4 => FR_some (fx.trans hq2 ht4)))) (FR_some fx.rfl)
theorem fr_x11_patrol (t : St) : FR [301, 302] [] (x11_patrol t) t (fun (a : Int32 × St) => a.2) := by
  unfold x11_patrol
  exact FR_bind (fr_x3_hire t) (fun q1 hq1 => FR_ite (FR_some hq1) (FR_some hq1))
theorem fr_x3_putCatch (t : St) (a1 : Int32) (a2 : Int32) (a3 : Int32) : FR [301] [] (x3_putCatch t a1 a2 a3) t (fun (a : St) => a) := by
  unfold x3_putCatch
  exact FR_gd (FR_nmS (fx_sA rfl) (fun t2 ht2 => FR_some ht2))
theorem fr_x11_catches (t : St) (a1 : Int32) (a2 : Int32) (a3 : Int32) : FR [301] [] (x11_catches t a1 a2 a3) t (fun (a : Int32 × St) => a.2) := by
  unfold x11_catches
  exact FR_bindn (fun q1 => FR_ite (FR_bindn (fun q5 => FR_ite (FR_bindn (fun q9 => FR_ite (FR_bindn (fun q13 => FR_bind (fr_x3_putCatch t a1 a2 a3) (fun q15 hq15 => FR_some hq15))) (FR_some fx.rfl))) (FR_some fx.rfl))) (FR_some fx.rfl))
theorem fr_x3_layOut_B124 (v1 : Int32) (t : St) : FR [303, 304, 305, 306, 307, 308] [] (x3_layOut_B124 v1 t) t (Sum.elim (fun (x : Int32 × St) => x.2) (fun (y : St) => y)) := by
  unfold x3_layOut_B124
  exact FR_ite (FR_some fx.rfl) (FR_gd (FR_nmS (fx_sA rfl) (fun t3 ht3 => FR_gd (FR_nmS (fx_sB rfl) (fun t5 ht5 => FR_nm (fun x6 _ => FR_some (fx.trans ht3 ht5)))))))
theorem fr_x3_layOut_L124 (v1 : Int32) (t : St) : FR [303, 304, 305, 306, 307, 308] [] (lp (fun x => x3_layOut_B124 x.1 x.2) (v1, t)) t (fun (y : St) => y) := FR_lp (p := (fun (x : Int32 × St) => x.2)) (q := (fun (y : St) => y)) (fun x => fr_x3_layOut_B124 x.1 x.2) (v1, t)
theorem fr_x3_layOut_B55 (v1 : Int32) (v2 : Int32) (t : St) : FR [303, 304, 305, 306, 307, 308] [] (x3_layOut_B55 v1 v2 t) t (Sum.elim (fun (x : Int32 × St) => x.2) (fun (y : St) => y)) := by
  unfold x3_layOut_B55
  exact FR_ite (FR_some fx.rfl) (FR_gd (FR_bindn (fun q9 => FR_gd (FR_nmS (fx_sB rfl) (fun t12 ht12 => FR_nm (fun x13 _ => FR_some ht12))))))
theorem fr_x3_layOut_L55 (v1 : Int32) (v2 : Int32) (t : St) : FR [303, 304, 305, 306, 307, 308] [] (lp (fun x => x3_layOut_B55 v1 x.1 x.2) (v2, t)) t (fun (y : St) => y) := FR_lp (p := (fun (x : Int32 × St) => x.2)) (q := (fun (y : St) => y)) (fun x => fr_x3_layOut_B55 v1 x.1 x.2) (v2, t)
theorem fr_x3_layOut_B33 (v1 : Int32) (t : St) : FR [303, 304, 305, 306, 307, 308] [] (x3_layOut_B33 v1 t) t (Sum.elim (fun (x : Int32 × St) => x.2) (fun (y : St) => y)) := by
  unfold x3_layOut_B33
  exact FR_ite (FR_some fx.rfl) (FR_gd (FR_nmS (fx_sA rfl) (fun t16 ht16 => FR_bind (fr_x3_layOut_L55 v1 (0 : Int32) t16) (fun y17 hm18 => FR_gd (FR_nmS (fx_sB rfl) (fun t21 ht21 => FR_nm (fun x22 _ => FR_some (fx.trans (fx.trans ht16 hm18) ht21))))))))
theorem fr_x3_layOut_L33 (v1 : Int32) (t : St) : FR [303, 304, 305, 306, 307, 308] [] (lp (fun x => x3_layOut_B33 x.1 x.2) (v1, t)) t (fun (y : St) => y) := FR_lp (p := (fun (x : Int32 × St) => x.2)) (q := (fun (y : St) => y)) (fun x => fr_x3_layOut_B33 x.1 x.2) (v1, t)
theorem fr_x3_layOut (t : St) : FR [303, 304, 305, 306, 307, 308] [] (x3_layOut t) t (fun (a : St) => a) := by
  unfold x3_layOut
  exact FR_nmS (fx_sI rfl) (fun t23 ht23 => FR_nmS (fx_sI rfl) (fun t24 ht24 => FR_nmS (fx_sJ rfl) (fun t25 ht25 => FR_bind (fr_x3_layOut_L33 (0 : Int32) t25) (fun y26 hm27 => FR_bind (fr_x3_layOut_L124 (0 : Int32) y26) (fun y29 hm30 => FR_gd (FR_nmS (fx_sB rfl) (fun t33 ht33 => FR_some (fx.trans (fx.trans (fx.trans (fx.trans (fx.trans ht23 ht24) ht25) hm27) hm30) ht33))))))))
theorem fr_x3_turn_B83 (v1 : Int32) (v2 : Int32) (v3 : Int64) (v5 : Int32) (v6 : Int64) (v8 : Int32) (v9 : Int64) (v11 : Int32) (t : St) : FR [303, 304, 305, 308] [] (x3_turn_B83 v1 v2 v3 v5 v6 v8 v9 v11 t) t (Sum.elim (fun (x : Int32 × St) => x.2) (fun (y : St) => y)) := by
  unfold x3_turn_B83
  exact FR_ite (FR_some fx.rfl) (FR_ite (FR_nm (fun x14 _ => FR_some fx.rfl)) (FR_gd (FR_nm (fun x4 _ => FR_gd (FR_nm (fun x6 _ => FR_bindn (fun q7 => FR_bindn (fun q9 => FR_gd (FR_nmS (fx_sB rfl) (fun t12 ht12 => FR_nm (fun x13 _ => FR_some ht12)))))))))))
theorem fr_x3_turn_L83 (v1 : Int32) (v2 : Int32) (v3 : Int64) (v5 : Int32) (v6 : Int64) (v8 : Int32) (v9 : Int64) (v11 : Int32) (t : St) : FR [303, 304, 305, 308] [] (lp (fun x => x3_turn_B83 v1 v2 v3 v5 v6 v8 v9 x.1 x.2) (v11, t)) t (fun (y : St) => y) := FR_lp (p := (fun (x : Int32 × St) => x.2)) (q := (fun (y : St) => y)) (fun x => fr_x3_turn_B83 v1 v2 v3 v5 v6 v8 v9 x.1 x.2) (v11, t)
theorem fr_x3_turn_B46 (v1 : Int32) (v2 : Int32) (v3 : Int64) (v5 : Int32) (v6 : Int64) (v8 : Int32) (t : St) : FR [303, 304, 305, 308] [] (x3_turn_B46 v1 v2 v3 v5 v6 v8 t) t (Sum.elim (fun (x : Int32 × St) => x.2) (fun (y : St) => y)) := by
  unfold x3_turn_B46
  exact FR_ite (FR_some fx.rfl) (FR_ite (FR_nm (fun x25 _ => FR_some fx.rfl)) (FR_gd (FR_nm (fun x18 _ => FR_bind (fr_x3_turn_L83 v1 v2 v3 v5 v6 v8 x18 (0 : Int32) t) (fun y19 hm20 => FR_gd (FR_nmS (fx_sB rfl) (fun t23 ht23 => FR_nm (fun x24 _ => FR_some (fx.trans hm20 ht23)))))))))
theorem fr_x3_turn_L46 (v1 : Int32) (v2 : Int32) (v3 : Int64) (v5 : Int32) (v6 : Int64) (v8 : Int32) (t : St) : FR [303, 304, 305, 308] [] (lp (fun x => x3_turn_B46 v1 v2 v3 v5 v6 x.1 x.2) (v8, t)) t (fun (y : St) => y) := FR_lp (p := (fun (x : Int32 × St) => x.2)) (q := (fun (y : St) => y)) (fun x => fr_x3_turn_B46 v1 v2 v3 v5 v6 x.1 x.2) (v8, t)
theorem fr_x3_turn (t : St) (a1 : Int32) (a2 : Int32) : FR [303, 304, 305, 308] [] (x3_turn t a1 a2) t (fun (a : St) => a) := by
  unfold x3_turn
  exact FR_gd (FR_nm (fun x27 _ => FR_bindn (fun q28 => FR_bindn (fun q30 => FR_bind (fr_x3_turn_L46 a1 a2 x27 q28 q30 (0 : Int32) t) (fun y32 hm33 => FR_gd (FR_nmS (fx_sB rfl) (fun t36 ht36 => FR_nmS (fx_sJ rfl) (fun t37 ht37 => FR_gd (FR_nm (fun x39 _ => FR_gd (FR_gd (FR_nmS (fx_sA rfl) (fun t42 ht42 => FR_gd (FR_nmS (fx_sA rfl) (fun t44 ht44 => FR_some (fx.trans (fx.trans (fx.trans (fx.trans hm33 ht36) ht37) ht42) ht44))))))))))))))))
theorem fr_x3_play_B6 (v1 : Int32) (t : St) : FR [303, 304, 305, 306, 307, 308, 309, 310] [] (x3_play_B6 v1 t) t (Sum.elim (fun (x : Int32 × St) => x.2) (Sum.elim (fun (y : St) => y) (Sum.elim (fun (y : St) => y) (fun (y : St) => y)))) := by
  unfold x3_play_B6
  exact FR_ite (FR_some fx.rfl) (FR_bindn (fun q2 => FR_ite (FR_bindn (fun q5 => FR_ite (FR_bind (fr_x3_turn t q5 q2) (fun q8 hq8 => FR_nm (fun x10 _ => FR_some hq8))) (FR_some fx.rfl))) (FR_some fx.rfl)))
theorem fr_x3_play_L6 (v1 : Int32) (t : St) : FR [303, 304, 305, 306, 307, 308, 309, 310] [] (lp (fun x => x3_play_B6 x.1 x.2) (v1, t)) t (Sum.elim (fun (y : St) => y) (Sum.elim (fun (y : St) => y) (fun (y : St) => y))) := FR_lp (p := (fun (x : Int32 × St) => x.2)) (q := (Sum.elim (fun (y : St) => y) (Sum.elim (fun (y : St) => y) (fun (y : St) => y)))) (fun x => fr_x3_play_B6 x.1 x.2) (v1, t)
theorem fr_x3_play_J101 (t : St) (w1 : Int64) : FR [303, 304, 305, 306, 307, 308, 309, 310] [] (x3_play_J101 t w1) t (fun (a : St) => a) := by
  unfold x3_play_J101
  exact FR_nmS (fx_sJ rfl) (fun t11 ht11 => FR_some ht11)
theorem fr_x3_play_J86 (t : St) (v1 : Int64) (w1 : Int64) : FR [303, 304, 305, 306, 307, 308, 309, 310] [] (x3_play_J86 t v1 w1) t (fun (a : St) => a) := by
  unfold x3_play_J86
  exact FR_nmS (fx_sJ rfl) (fun t12 ht12 => FR_ite (FR_wk ht12 (fr_x3_play_J101 t12 (1 : Int64))) (FR_wk ht12 (fr_x3_play_J101 t12 v1)))
theorem fr_x3_play_J49 (t : St) : FR [303, 304, 305, 306, 307, 308, 309, 310] [] (x3_play_J49 t) t (fun (a : St) => a) := by
  unfold x3_play_J49
  exact FR_gd (FR_nm (fun x15 _ => FR_ite (FR_wk fx.rfl (fr_x3_play_J86 t x15 (0 : Int64))) (FR_wk fx.rfl (fr_x3_play_J86 t x15 ((gJ t 308) - x15)))))
theorem fr_x3_play (t : St) : FR [303, 304, 305, 306, 307, 308, 309, 310] [] (x3_play t) t (fun (a : St) => a) := by
  unfold x3_play
  exact FR_bind (fr_x3_layOut t) (fun q17 hq17 => FR_bind (fr_x3_play_L6 (0 : Int32) q17) (fun y19 hm20 => (FR_sum y19 hm20 (fun u22 hm20 => FR_wk (fx.trans hq17 hm20) (fr_x3_play_J49 u22)) (fun u23 hm20 => (FR_sum u23 hm20 (fun u22 hm20 => FR_wk (fx.trans hq17 hm20) (fr_x3_play_J49 u22)) (fun u22 hm20 => FR_wk (fx.trans hq17 hm20) (fr_x3_play_J49 u22)))))))
theorem fr_x2_spread_200_B7 (v0 : Int64) (v3 : Int32) (t : St) : FR [200] [] (x2_spread_200_B7 v0 v3 t) t (Sum.elim (fun (x : Int64 × Int32 × St) => x.2.2) (fun (y : St) => y)) := by
  unfold x2_spread_200_B7
  exact FR_ite (FR_some fx.rfl) (FR_gd (FR_nmS (fx_sA rfl) (fun t3 ht3 => FR_nm (fun x4 _ => FR_nm (fun x5 _ => FR_some ht3)))))
theorem fr_x2_spread_200_L7 (v0 : Int64) (v3 : Int32) (t : St) : FR [200] [] (lp (fun x => x2_spread_200_B7 x.1 x.2.1 x.2.2) (v0, v3, t)) t (fun (y : St) => y) := FR_lp (p := (fun (x : Int64 × Int32 × St) => x.2.2)) (q := (fun (y : St) => y)) (fun x => fr_x2_spread_200_B7 x.1 x.2.1 x.2.2) (v0, v3, t)
theorem fr_x2_spread_200 (t : St) (a0 : Int64) : FR [200] [] (x2_spread_200 t a0) t (fun (a : St) => a) := by
  unfold x2_spread_200
  exact FR_bind (fr_j7_fill_53178_200 t (0 : Int32)) (fun q6 hq6 => FR_bind (fr_x2_spread_200_L7 a0 (0 : Int32) q6) (fun y8 hm9 => FR_some (fx.trans hq6 hm9)))
theorem fr_x2_spread_201_B7 (v0 : Int64) (v3 : Int32) (t : St) : FR [201] [] (x2_spread_201_B7 v0 v3 t) t (Sum.elim (fun (x : Int64 × Int32 × St) => x.2.2) (fun (y : St) => y)) := by
  unfold x2_spread_201_B7
  exact FR_ite (FR_some fx.rfl) (FR_gd (FR_nmS (fx_sA rfl) (fun t3 ht3 => FR_nm (fun x4 _ => FR_nm (fun x5 _ => FR_some ht3)))))
theorem fr_x2_spread_201_L7 (v0 : Int64) (v3 : Int32) (t : St) : FR [201] [] (lp (fun x => x2_spread_201_B7 x.1 x.2.1 x.2.2) (v0, v3, t)) t (fun (y : St) => y) := FR_lp (p := (fun (x : Int64 × Int32 × St) => x.2.2)) (q := (fun (y : St) => y)) (fun x => fr_x2_spread_201_B7 x.1 x.2.1 x.2.2) (v0, v3, t)
theorem fr_x2_spread_201 (t : St) (a0 : Int64) : FR [201] [] (x2_spread_201 t a0) t (fun (a : St) => a) := by
  unfold x2_spread_201
  exact FR_bind (fr_j7_fill_53178_201 t (0 : Int32)) (fun q6 hq6 => FR_bind (fr_x2_spread_201_L7 a0 (0 : Int32) q6) (fun y8 hm9 => FR_some (fx.trans hq6 hm9)))
theorem fr_x2_putRatio_J17 (t : St) (v1 : Int64) (v3 : Int64) (v5 : Int64) : FR [200, 201] [] (x2_putRatio_J17 t v1 v3 v5) t (fun (a : St) => a) := by
  unfold x2_putRatio_J17
  exact FR_dvl (FR_bind (fr_x2_spread_200 t (v1 / v5)) (fun q2 hq2 => FR_dvl (FR_bind (fr_x2_spread_201 q2 (v3 / v5)) (fun q5 hq5 => FR_some (fx.trans hq2 hq5)))))
theorem fr_x2_putRatio (t : St) (a1 : Int64) (a3 : Int64) : FR [200, 201] [] (x2_putRatio t a1 a3) t (fun (a : St) => a) := by
  unfold x2_putRatio
  exact FR_bindn (fun q7 => FR_ite (FR_wk fx.rfl (fr_x2_putRatio_J17 t a1 a3 q7)) (FR_wk fx.rfl (fr_x2_putRatio_J17 t a1 a3 (1 : Int64))))
theorem fr_x11_game_J45 (t : St) (w0 : Int32) : FR [200, 201, 303, 304, 305, 306, 307, 308, 309, 310, 801, 802, 803, 804, 805, 806, 807, 808, 809, 810, 811, 812, 813, 814, 1002, 1003, 1004, 1005] [808, 9000, 9001] (x11_game_J45 t w0) t (fun (a : Int32 × St) => a.2) := by
  unfold x11_game_J45
  exact FR_ite (FR_some fx.rfl) (FR_ite (FR_bind (fr_x3_play t) (fun q3 hq3 => FR_bind (fr_x2_putRatio q3 (gJ q3 309) (gJ q3 310)) (fun q5 hq5 => FR_some (fx.trans hq3 hq5)))) (FR_some fx.rfl))
theorem fr_x11_game (t0 : St) (a1 : Int32) : FR [200, 201, 303, 304, 305, 306, 307, 308, 309, 310, 801, 802, 803, 804, 805, 806, 807, 808, 809, 810, 811, 812, 813, 814, 1002, 1003, 1004, 1005] [808, 9000, 9001] (x11_game t0 a1) t0 (fun (a : Int32 × St) => a.2) := by
  unfold x11_game
  exact FR_bindn (fun q7 => FR_ite (FR_gd (FR_nm (fun x12 _ => FR_ite (FR_some fx.rfl) (FR_ite (FR_some fx.rfl) (FR_bind (fr_x10_listAll t0 x12) (fun q15 hq15 => FR_wk hq15 (fr_x11_game_J45 q15.2 q15.1))))))) (FR_some fx.rfl))
theorem fr_x10_bribe (t : St) (a1 : Int32) : FR [1006, 1007] [] (x10_bribe t a1) t (fun (a : Int32 × St) => a.2) := by
  unfold x10_bribe
  exact FR_ite (FR_gd (FR_nmS (fx_sA rfl) (fun t3 ht3 => FR_nmS (fx_sI rfl) (fun t4 ht4 => FR_some (fx.trans ht3 ht4))))) (FR_some fx.rfl)
theorem fr_x11_insider (t : St) (a1 : Int32) : FR [1006, 1007] [] (x11_insider t a1) t (fun (a : Int32 × St) => a.2) := by
  unfold x11_insider
  exact FR_bindn (fun q1 => FR_ite (FR_bind (fr_x10_bribe t a1) (fun q5 hq5 => FR_ite (FR_some hq5) (FR_some hq5))) (FR_some fx.rfl))
theorem fr_x11_worst_J62 (t : St) (v2 : Int32) (v3 : Int32) (w0 : Int32) : FR [801, 802, 803, 804, 805, 806, 807, 808, 809, 810, 811, 812, 813, 814, 1002, 1003, 1004, 1005] [808, 9000, 9001] (x11_worst_J62 t v2 v3 w0) t (fun (a : Int32 × St) => a.2) := by
  unfold x11_worst_J62
  exact FR_ite (FR_some fx.rfl) (FR_bindn (fun q2 => FR_ite (FR_bindn (fun q5 => FR_bindn (fun q7 => FR_some fx.rfl))) (FR_some fx.rfl)))
theorem fr_x11_worst (t0 : St) (a1 : Int32) (a2 : Int32) (a3 : Int32) : FR [801, 802, 803, 804, 805, 806, 807, 808, 809, 810, 811, 812, 813, 814, 1002, 1003, 1004, 1005] [808, 9000, 9001] (x11_worst t0 a1 a2 a3) t0 (fun (a : Int32 × St) => a.2) := by
  unfold x11_worst
  exact FR_bindn (fun q9 => FR_ite (FR_bindn (fun q13 => FR_ite (FR_bindn (fun q17 => FR_ite (FR_gd (FR_nm (fun x22 _ => FR_ite (FR_bind (fr_x10_listAll t0 x22) (fun q24 hq24 => FR_wk hq24 (fr_x11_worst_J62 q24.2 a2 a3 q24.1))) (FR_some fx.rfl)))) (FR_some fx.rfl))) (FR_some fx.rfl))) (FR_some fx.rfl))
theorem fr_x10_sift_B5 (v1 : Int32) (v2 : Int32) (v3 : Int32) (v4 : Int32) (t : St) : FR [1008] [] (x10_sift_B5 v1 v2 v3 v4 t) t (Sum.elim (fun (x : Int32 × Int32 × St) => x.2.2) (fun (y : Int32 × St) => y.2)) := by
  unfold x10_sift_B5
  exact FR_ite (FR_some fx.rfl) (FR_gd (FR_bindn (fun q3 => FR_ite (FR_ite (FR_gd (FR_nmS (fx_sA rfl) (fun t10 ht10 => FR_nm (fun x11 _ => FR_nm (fun x12 _ => FR_some ht10))))) (FR_nm (fun x8 _ => FR_some fx.rfl))) (FR_nm (fun x6 _ => FR_some fx.rfl)))))
theorem fr_x10_sift_L5 (v1 : Int32) (v2 : Int32) (v3 : Int32) (v4 : Int32) (t : St) : FR [1008] [] (lp (fun x => x10_sift_B5 v1 v2 x.1 x.2.1 x.2.2) (v3, v4, t)) t (fun (y : Int32 × St) => y.2) := FR_lp (p := (fun (x : Int32 × Int32 × St) => x.2.2)) (q := (fun (y : Int32 × St) => y.2)) (fun x => fr_x10_sift_B5 v1 v2 x.1 x.2.1 x.2.2) (v3, v4, t)
theorem fr_x10_sift (t : St) (a1 : Int32) (a2 : Int32) : FR [1008] [] (x10_sift t a1 a2) t (fun (a : Int32 × St) => a.2) := by
  unfold x10_sift
  exact FR_bind (fr_x10_sift_L5 a1 a2 (0 : Int32) (0 : Int32) t) (fun y13 hm14 => FR_some hm14)
theorem fr_x11_may_J46 (t : St) (v2 : Int32) (v3 : Int32) (w0 : Int32) : FR [801, 802, 803, 804, 805, 806, 807, 808, 809, 810, 811, 812, 813, 814, 1002, 1003, 1004, 1005, 1008] [808, 9000, 9001] (x11_may_J46 t v2 v3 w0) t (fun (a : Int32 × St) => a.2) := by
  unfold x11_may_J46
  exact FR_ite (FR_some fx.rfl) (FR_bind (fr_x10_sift t v2 v3) (fun q2 hq2 => FR_some hq2))
theorem fr_x11_may (t0 : St) (a1 : Int32) (a2 : Int32) (a3 : Int32) : FR [801, 802, 803, 804, 805, 806, 807, 808, 809, 810, 811, 812, 813, 814, 1002, 1003, 1004, 1005, 1008] [808, 9000, 9001] (x11_may t0 a1 a2 a3) t0 (fun (a : Int32 × St) => a.2) := by
  unfold x11_may
  exact FR_bindn (fun q4 => FR_ite (FR_bindn (fun q8 => FR_ite (FR_gd (FR_nm (fun x13 _ => FR_ite (FR_bind (fr_x10_listAll t0 x13) (fun q15 hq15 => FR_wk hq15 (fr_x11_may_J46 q15.2 a2 a3 q15.1))) (FR_some fx.rfl)))) (FR_some fx.rfl))) (FR_some fx.rfl))
theorem fr_x10_markToAsk (t : St) (a1 : Int32) (a2 : Int32) : FR [1008] [] (x10_markToAsk t a1 a2) t (fun (a : Int32 × St) => a.2) := by
  unfold x10_markToAsk
  exact FR_bind (fr_x10_sift t a1 a2) (fun q15 hq15 => FR_bindn (fun y17 => FR_some hq15))
theorem fr_x11_ask_J46 (t : St) (v2 : Int32) (v3 : Int32) (w0 : Int32) : FR [801, 802, 803, 804, 805, 806, 807, 808, 809, 810, 811, 812, 813, 814, 1002, 1003, 1004, 1005, 1008] [808, 9000, 9001] (x11_ask_J46 t v2 v3 w0) t (fun (a : Int32 × St) => a.2) := by
  unfold x11_ask_J46
  exact FR_ite (FR_some fx.rfl) (FR_bind (fr_x10_markToAsk t v2 v3) (fun q2 hq2 => FR_some hq2))
theorem fr_x11_ask (t0 : St) (a1 : Int32) (a2 : Int32) (a3 : Int32) : FR [801, 802, 803, 804, 805, 806, 807, 808, 809, 810, 811, 812, 813, 814, 1002, 1003, 1004, 1005, 1008] [808, 9000, 9001] (x11_ask t0 a1 a2 a3) t0 (fun (a : Int32 × St) => a.2) := by
  unfold x11_ask
  exact FR_bindn (fun q4 => FR_ite (FR_bindn (fun q8 => FR_ite (FR_gd (FR_nm (fun x13 _ => FR_ite (FR_bind (fr_x10_listAll t0 x13) (fun q15 hq15 => FR_wk hq15 (fr_x11_ask_J46 q15.2 a2 a3 q15.1))) (FR_some fx.rfl)))) (FR_some fx.rfl))) (FR_some fx.rfl))
theorem fr_x1_append (t : St) (a1 : Int32) (a2 : Int32) : FR [102, 103, 104] [] (x1_append t a1 a2) t (fun (a : Int32 × St) => a.2) := by
  unfold x1_append
  exact FR_ite (FR_gd (FR_nmS (fx_sA rfl) (fun t3 ht3 => FR_gd (FR_nmS (fx_sA rfl) (fun t5 ht5 => FR_nmS (fx_sI rfl) (fun t6 ht6 => FR_some (fx.trans (fx.trans ht3 ht5) ht6))))))) (FR_some fx.rfl)
theorem fr_x11_event (t : St) (a1 : Int32) (a2 : Int32) : FR [102, 103, 104] [] (x11_event t a1 a2) t (fun (a : Int32 × St) => a.2) := by
  unfold x11_event
  exact FR_bindn (fun q1 => FR_ite (FR_bindn (fun q5 => FR_bindn (fun q7 => FR_ite (FR_bind (fr_x1_append t a1 a2) (fun q11 hq11 => FR_ite (FR_some hq11) (FR_some hq11))) (FR_some fx.rfl)))) (FR_some fx.rfl))
theorem fr_x11_rest (t : St) : FR [104] [] (x11_rest t) t (fun (a : Int32 × St) => a.2) := by
  unfold x11_rest
  exact FR_nm (fun x1 _ => FR_nmS (fx_sI rfl) (fun t2 ht2 => FR_some ht2))
theorem fr_x6_risingAt_107_B15 (v1 : Int32) (v2 : Int32) (v3 : Int32) (v4 : Int32) (v5 : Int32) (t : St) : FR [107] [] (x6_risingAt_107_B15 v1 v2 v3 v4 v5 t) t (Sum.elim (fun (x : Int32 × St) => x.2) (fun (y : Int32 × St) => y.2)) := by
  unfold x6_risingAt_107_B15
  exact FR_ite (FR_some fx.rfl) (FR_gd (FR_ite (FR_some fx.rfl) (FR_gd (FR_gd (FR_nmS (fx_sA rfl) (fun t6 ht6 => FR_nm (fun x7 _ => FR_some ht6)))))))
theorem fr_x6_risingAt_107_L15 (v1 : Int32) (v2 : Int32) (v3 : Int32) (v4 : Int32) (v5 : Int32) (t : St) : FR [107] [] (lp (fun x => x6_risingAt_107_B15 v1 v2 v3 v4 x.1 x.2) (v5, t)) t (fun (y : Int32 × St) => y.2) := FR_lp (p := (fun (x : Int32 × St) => x.2)) (q := (fun (y : Int32 × St) => y.2)) (fun x => fr_x6_risingAt_107_B15 v1 v2 v3 v4 x.1 x.2) (v5, t)
theorem fr_x6_risingAt_107_B2 (v1 : Int32) (v2 : Int32) (v3 : Int32) (t : St) : FR [107] [] (x6_risingAt_107_B2 v1 v2 v3 t) t (Sum.elim (fun (x : Int32 × St) => x.2) (fun (y : St) => y)) := by
  unfold x6_risingAt_107_B2
  exact FR_ite (FR_some fx.rfl) (FR_gd (FR_nm (fun x10 _ => FR_bind (fr_x6_risingAt_107_L15 v1 v2 v3 x10 v3 t) (fun y11 hm12 => FR_gd (FR_nmS (fx_sA rfl) (fun t15 ht15 => FR_nm (fun x16 _ => FR_some (fx.trans hm12 ht15))))))))
theorem fr_x6_risingAt_107_L2 (v1 : Int32) (v2 : Int32) (v3 : Int32) (t : St) : FR [107] [] (lp (fun x => x6_risingAt_107_B2 v1 v2 x.1 x.2) (v3, t)) t (fun (y : St) => y) := FR_lp (p := (fun (x : Int32 × St) => x.2)) (q := (fun (y : St) => y)) (fun x => fr_x6_risingAt_107_B2 v1 v2 x.1 x.2) (v3, t)
theorem fr_x6_risingAt_107 (t : St) (a1 : Int32) (a2 : Int32) : FR [107] [] (x6_risingAt_107 t a1 a2) t (fun (a : Int32 × St) => a.2) := by
  unfold x6_risingAt_107
  exact FR_bind (fr_x6_risingAt_107_L2 a1 a2 (1 : Int32) t) (fun y17 hm18 => FR_gd (FR_some hm18))
theorem fr_x1_someEvent_B5 (v1 : Int32) (v2 : Int32) (v3 : Int32) (v4 : Int32) (t : St) : FR [107] [] (x1_someEvent_B5 v1 v2 v3 v4 t) t (Sum.elim (fun (x : Int32 × Int32 × St) => x.2.2) (fun (y : Int32 × St) => y.2)) := by
  unfold x1_someEvent_B5
  exact FR_gd (FR_ite (FR_some fx.rfl) (FR_ite (FR_some fx.rfl) (FR_bindn (fun q4 => FR_ite (FR_nm (fun x7 _ => FR_some fx.rfl)) (FR_gd (FR_nmS (fx_sA rfl) (fun t9 ht9 => FR_nm (fun x10 _ => FR_nm (fun x11 _ => FR_some ht9)))))))))
theorem fr_x1_someEvent_L5 (v1 : Int32) (v2 : Int32) (v3 : Int32) (v4 : Int32) (t : St) : FR [107] [] (lp (fun x => x1_someEvent_B5 v1 v2 x.1 x.2.1 x.2.2) (v3, v4, t)) t (fun (y : Int32 × St) => y.2) := FR_lp (p := (fun (x : Int32 × Int32 × St) => x.2.2)) (q := (fun (y : Int32 × St) => y.2)) (fun x => fr_x1_someEvent_B5 v1 v2 x.1 x.2.1 x.2.2) (v3, v4, t)
theorem fr_x1_someEvent (t : St) (a1 : Int32) (a2 : Int32) : FR [107] [] (x1_someEvent t a1 a2) t (fun (a : Int32 × St) => a.2) := by
  unfold x1_someEvent
  exact FR_bind (fr_x1_someEvent_L5 a1 a2 (0 : Int32) (0 : Int32) t) (fun y12 hm13 => FR_gd (FR_ite (FR_gd (FR_bind (fr_x6_risingAt_107 y12.2 y12.1 (gA y12.2 605 (a1).toNatClampNeg)) (fun q18 hq18 => FR_some (fx.trans hm13 hq18)))) (FR_some hm13)))
theorem fr_x1_knotEvent (t : St) (a1 : Int32) (a2 : Int32) : FR [107] [] (x1_knotEvent t a1 a2) t (fun (a : Int32 × St) => a.2) := by
  unfold x1_knotEvent
  exact FR_gd (FR_ite (FR_gd (FR_bindn (fun q4 => FR_some fx.rfl))) (FR_ite (FR_bindn (fun q7 => FR_some fx.rfl)) (FR_ite (FR_bindn (fun q10 => FR_some fx.rfl)) (FR_ite (FR_bindn (fun q13 => FR_some fx.rfl)) (FR_bind (fr_x1_someEvent t a1 a2) (fun q15 hq15 => FR_some hq15))))))
theorem fr_x1_eventReaching_B39 (v1 : Int32) (v2 : Int32) (v3 : Int32) (v4 : Int32) (t : St) : FR [105, 106, 107] [105, 9000, 9001] (x1_eventReaching_B39 v1 v2 v3 v4 t) t (Sum.elim (fun (x : Int32 × St) => x.2) (fun (y : St) => y)) := by
  unfold x1_eventReaching_B39
  exact FR_ite (FR_some fx.rfl) (FR_bind (fr_x1_knotEvent t v3 v4) (fun q2 hq2 => FR_gd (FR_nmS (fx_sA rfl) (fun t5 ht5 => FR_nm (fun x6 _ => FR_some (fx.trans hq2 ht5))))))
theorem fr_x1_eventReaching_L39 (v1 : Int32) (v2 : Int32) (v3 : Int32) (v4 : Int32) (t : St) : FR [105, 106, 107] [105, 9000, 9001] (lp (fun x => x1_eventReaching_B39 v1 v2 v3 x.1 x.2) (v4, t)) t (fun (y : St) => y) := FR_lp (p := (fun (x : Int32 × St) => x.2)) (q := (fun (y : St) => y)) (fun x => fr_x1_eventReaching_B39 v1 v2 v3 x.1 x.2) (v4, t)
theorem fr_x1_eventReaching_B31 (v1 : Int32) (v2 : Int32) (v3 : Int32) (t : St) : FR [105, 106, 107] [105, 9000, 9001] (x1_eventReaching_B31 v1 v2 v3 t) t (Sum.elim (fun (x : Int32 × St) => x.2) (fun (y : St) => y)) := by
  unfold x1_eventReaching_B31
  exact FR_ite (FR_some fx.rfl) (FR_bind (fr_x1_eventReaching_L39 v1 v2 v3 v2 t) (fun y8 hm9 => FR_nm (fun x11 _ => FR_some hm9)))
theorem fr_x1_eventReaching_L31 (v1 : Int32) (v2 : Int32) (v3 : Int32) (t : St) : FR [105, 106, 107] [105, 9000, 9001] (lp (fun x => x1_eventReaching_B31 v1 v2 x.1 x.2) (v3, t)) t (fun (y : St) => y) := FR_lp (p := (fun (x : Int32 × St) => x.2)) (q := (fun (y : St) => y)) (fun x => fr_x1_eventReaching_B31 v1 v2 x.1 x.2) (v3, t)
theorem fr_x1_eventReaching_J29 (t : St) (v1 : Int32) (v2 : Int32) : FR [105, 106, 107] [105, 9000, 9001] (x1_eventReaching_J29 t v1 v2) t (fun (a : Int32 × St) => a.2) := by
  unfold x1_eventReaching_J29
  exact FR_bind (fr_x1_eventReaching_L31 v1 v2 (0 : Int32) t) (fun y12 hm13 => FR_gd (FR_some hm13))
theorem fr_x1_eventReaching (t0 : St) (a1 : Int32) (a2 : Int32) : FR [105, 106, 107] [105, 9000, 9001] (x1_eventReaching t0 a1 a2) t0 (fun (a : Int32 × St) => a.2) := by
  unfold x1_eventReaching
  exact FR_nmS (fx_sI rfl) (fun t16 ht16 => FR_grw rfl rfl rfl rfl (fun t17 ht17 => FR_wk (fx.trans ht16 ht17) (fr_x1_eventReaching_J29 t17 a1 a2)))
theorem fr_x11_reached_J53 (t : St) (w0 : Int32) : FR [105, 106, 107] [105, 9000, 9001] (x11_reached_J53 t w0) t (fun (a : Int32 × St) => a.2) := by
  unfold x11_reached_J53
  exact FR_some fx.rfl
theorem fr_x11_reached (t0 : St) (a1 : Int32) (a2 : Int32) : FR [105, 106, 107] [105, 9000, 9001] (x11_reached t0 a1 a2) t0 (fun (a : Int32 × St) => a.2) := by
  unfold x11_reached
  exact FR_bindn (fun q1 => FR_ite (FR_bindn (fun q5 => FR_ite (FR_gd (FR_nm (fun x10 _ => FR_ite (FR_bind (fr_x1_eventReaching t0 x10 a2) (fun q12 hq12 => FR_wk hq12 (fr_x11_reached_J53 q12.2 q12.1))) (FR_wk fx.rfl (fr_x11_reached_J53 t0 (-3 : Int32)))))) (FR_some fx.rfl))) (FR_some fx.rfl))
theorem fr_x9_addPlace (t : St) (a1 : Int32) (a2 : Int32) : FR [901, 902] [] (x9_addPlace t a1 a2) t (fun (a : Int32 × St) => a.2) := by
  unfold x9_addPlace
  exact FR_gd (FR_ite (FR_gd (FR_gd (FR_nmS (fx_sA rfl) (fun t5 ht5 => FR_gd (FR_gd (FR_nmS (fx_sA rfl) (fun t8 ht8 => FR_some (fx.trans ht5 ht8)))))))) (FR_some fx.rfl))
theorem fr_x11_walk (t : St) (a1 : Int32) (a2 : Int32) : FR [901, 902] [] (x11_walk t a1 a2) t (fun (a : Int32 × St) => a.2) := by
  unfold x11_walk
  exact FR_bindn (fun q1 => FR_ite (FR_bindn (fun q5 => FR_ite (FR_bind (fr_x9_addPlace t a1 a2) (fun q9 hq9 => FR_ite (FR_some hq9) (FR_gd (FR_some hq9)))) (FR_some fx.rfl))) (FR_some fx.rfl))
theorem fr_x11_home (t : St) (a1 : Int32) : FR [902] [] (x11_home t a1) t (fun (a : Int32 × St) => a.2) := by
  unfold x11_home
  exact FR_bindn (fun q1 => FR_ite (FR_gd (FR_nm (fun x6 _ => FR_gd (FR_nmS (fx_sA rfl) (fun t8 ht8 => FR_some ht8))))) (FR_some fx.rfl))
theorem fr_x9_findEnds_J128 (t : St) (v1 : Int32) (v2 : Int32) (v3 : Int32) (v4 : Int32) (v5 : Int32) (v6 : Int32) (w1 : Int32) (w2 : Int32) : FR [906] [] (x9_findEnds_J128 t v1 v2 v3 v4 v5 v6 w1 w2) t (Sum.elim (fun (x : Int32 × Int32 × St) => x.2.2) (fun (y : St) => y)) := by
  unfold x9_findEnds_J128
  exact FR_gd (FR_nmS (fx_sA rfl) (fun t2 ht2 => FR_nm (fun x3 _ => FR_some ht2)))
theorem fr_x9_findEnds_J84 (t : St) (v1 : Int32) (v2 : Int32) (v3 : Int32) (v4 : Int32) (v6 : Int32) (w0 : Int32) : FR [906] [] (x9_findEnds_J84 t v1 v2 v3 v4 v6 w0) t (Sum.elim (fun (x : Int32 × Int32 × St) => x.2.2) (fun (y : St) => y)) := by
  unfold x9_findEnds_J84
  exact FR_ite (FR_gd (FR_wk fx.rfl (fr_x9_findEnds_J128 t v1 v2 v3 v4 w0 v6 ((v1 * (601 : Int32)) + v6) (gA t 906 ((((v1 * (601 : Int32)) + v6) + (1 : Int32))).toNatClampNeg)))) (FR_wk fx.rfl (fr_x9_findEnds_J128 t v1 v2 v3 v4 w0 v6 ((v1 * (601 : Int32)) + v6) (v6 + v4)))
theorem fr_x9_findEnds_B56 (v1 : Int32) (v2 : Int32) (v3 : Int32) (v4 : Int32) (v5 : Int32) (v6 : Int32) (t : St) : FR [906] [] (x9_findEnds_B56 v1 v2 v3 v4 v5 v6 t) t (Sum.elim (fun (x : Int32 × Int32 × St) => x.2.2) (fun (y : St) => y)) := by
  unfold x9_findEnds_B56
  exact FR_ite (FR_some fx.rfl) (FR_gd (FR_ite (FR_wk fx.rfl (fr_x9_findEnds_J84 t v1 v2 v3 v4 v6 (v5 + (1 : Int32)))) (FR_wk fx.rfl (fr_x9_findEnds_J84 t v1 v2 v3 v4 v6 (0 : Int32)))))
theorem fr_x9_findEnds_L56 (v1 : Int32) (v2 : Int32) (v3 : Int32) (v4 : Int32) (v5 : Int32) (v6 : Int32) (t : St) : FR [906] [] (lp (fun x => x9_findEnds_B56 v1 v2 v3 v4 x.1 x.2.1 x.2.2) (v5, v6, t)) t (fun (y : St) => y) := FR_lp (p := (fun (x : Int32 × Int32 × St) => x.2.2)) (q := (fun (y : St) => y)) (fun x => fr_x9_findEnds_B56 v1 v2 v3 v4 x.1 x.2.1 x.2.2) (v5, v6, t)
theorem fr_x9_findEnds (t : St) (a1 : Int32) (a2 : Int32) : FR [906] [] (x9_findEnds t a1 a2) t (fun (a : St) => a) := by
  unfold x9_findEnds
  exact FR_gd (FR_bindn (fun q10 => FR_gd (FR_bindn (fun q13 => FR_gd (FR_nmS (fx_sA rfl) (fun t16 ht16 => FR_bind (fr_x9_findEnds_L56 a1 a2 q10 q13 (0 : Int32) (599 : Int32) t16) (fun y17 hm18 => FR_some (fx.trans ht16 hm18))))))))
theorem fr_x9_lookRound_B18 (v2 : Int32) (v3 : Int32) (t : St) : FR [903] [] (x9_lookRound_B18 v2 v3 t) t (Sum.elim (fun (x : Int32 × St) => x.2) (fun (y : St) => y)) := by
  unfold x9_lookRound_B18
  exact FR_ite (FR_some fx.rfl) (FR_bindn (fun q2 => FR_ite (FR_nm (fun x5 _ => FR_some fx.rfl)) (FR_gd (FR_gd (FR_nmS (fx_sA rfl) (fun t8 ht8 => FR_nm (fun x9 _ => FR_some ht8)))))))
theorem fr_x9_lookRound_L18 (v2 : Int32) (v3 : Int32) (t : St) : FR [903] [] (lp (fun x => x9_lookRound_B18 v2 x.1 x.2) (v3, t)) t (fun (y : St) => y) := FR_lp (p := (fun (x : Int32 × St) => x.2)) (q := (fun (y : St) => y)) (fun x => fr_x9_lookRound_B18 v2 x.1 x.2) (v3, t)
theorem fr_x9_lookRound_B2 (v2 : Int32) (t : St) : FR [903] [] (x9_lookRound_B2 v2 t) t (Sum.elim (fun (x : Int32 × St) => x.2) (fun (y : St) => y)) := by
  unfold x9_lookRound_B2
  exact FR_ite (FR_some fx.rfl) (FR_gd (FR_nmS (fx_sA rfl) (fun t12 ht12 => FR_bind (fr_x9_lookRound_L18 v2 (0 : Int32) t12) (fun y13 hm14 => FR_nm (fun x16 _ => FR_some (fx.trans ht12 hm14))))))
theorem fr_x9_lookRound_L2 (v2 : Int32) (t : St) : FR [903] [] (lp (fun x => x9_lookRound_B2 x.1 x.2) (v2, t)) t (fun (y : St) => y) := FR_lp (p := (fun (x : Int32 × St) => x.2)) (q := (fun (y : St) => y)) (fun x => fr_x9_lookRound_B2 x.1 x.2) (v2, t)
theorem fr_x9_lookRound (t : St) (a1 : Int32) : FR [903] [] (x9_lookRound t a1) t (fun (a : St) => a) := by
  unfold x9_lookRound
  exact FR_bind (fr_x9_lookRound_L2 a1 t) (fun y17 hm18 => FR_some hm18)
theorem fr_x9_prepare_B90 (v2 : Int32) (v3 : Int32) (t : St) : FR [903, 904, 905, 906] [906, 9000, 9001] (x9_prepare_B90 v2 v3 t) t (Sum.elim (fun (x : Int32 × St) => x.2) (fun (y : St) => y)) := by
  unfold x9_prepare_B90
  exact FR_ite (FR_some fx.rfl) (FR_bind (fr_x9_findEnds t v3 v2) (fun q2 hq2 => FR_nm (fun x4 _ => FR_some hq2)))
theorem fr_x9_prepare_L90 (v2 : Int32) (v3 : Int32) (t : St) : FR [903, 904, 905, 906] [906, 9000, 9001] (lp (fun x => x9_prepare_B90 v2 x.1 x.2) (v3, t)) t (fun (y : St) => y) := FR_lp (p := (fun (x : Int32 × St) => x.2)) (q := (fun (y : St) => y)) (fun x => fr_x9_prepare_B90 v2 x.1 x.2) (v3, t)
theorem fr_x9_prepare_B7 (v1 : Int32) (v2 : Int32) (v3 : Int32) (t : St) : FR [903, 904, 905, 906] [906, 9000, 9001] (x9_prepare_B7 v1 v2 v3 t) t (Sum.elim (fun (x : Int32 × St) => x.2) (fun (y : St) => y)) := by
  unfold x9_prepare_B7
  exact FR_ite (FR_some fx.rfl) (FR_ite (FR_some fx.rfl) (FR_ite (FR_gd (FR_nmS (fx_sA rfl) (fun t10 ht10 => FR_nmS (fx_sI rfl) (fun t11 ht11 => FR_nm (fun x12 _ => FR_some (fx.trans ht10 ht11)))))) (FR_nm (fun x8 _ => FR_some fx.rfl))))
theorem fr_x9_prepare_L7 (v1 : Int32) (v2 : Int32) (v3 : Int32) (t : St) : FR [903, 904, 905, 906] [906, 9000, 9001] (lp (fun x => x9_prepare_B7 v1 v2 x.1 x.2) (v3, t)) t (fun (y : St) => y) := FR_lp (p := (fun (x : Int32 × St) => x.2)) (q := (fun (y : St) => y)) (fun x => fr_x9_prepare_B7 v1 v2 x.1 x.2) (v3, t)
theorem fr_x9_prepare_J88 (t : St) (v2 : Int32) : FR [903, 904, 905, 906] [906, 9000, 9001] (x9_prepare_J88 t v2) t (fun (a : St) => a) := by
  unfold x9_prepare_J88
  exact FR_bind (fr_x9_prepare_L90 v2 (0 : Int32) t) (fun y13 hm14 => FR_some hm14)
theorem fr_x9_prepare_J76 (t : St) (v2 : Int32) : FR [903, 904, 905, 906] [906, 9000, 9001] (x9_prepare_J76 t v2) t (fun (a : St) => a) := by
  unfold x9_prepare_J76
  exact FR_ite (FR_wk fx.rfl (fr_x9_prepare_J88 t v2)) (FR_bind (fr_x9_lookRound t v2) (fun q17 hq17 => FR_wk hq17 (fr_x9_prepare_J88 q17 v2)))
theorem fr_x9_prepare (t0 : St) (a1 : Int32) (a2 : Int32) : FR [903, 904, 905, 906] [906, 9000, 9001] (x9_prepare t0 a1 a2) t0 (fun (a : St) => a) := by
  unfold x9_prepare
  exact FR_nmS (fx_sI rfl) (fun t19 ht19 => FR_bind (fr_x9_prepare_L7 a1 a2 (0 : Int32) t19) (fun y20 hm21 => FR_grw rfl rfl rfl rfl (fun t23 ht23 => FR_wk (fx.trans (fx.trans ht19 hm21) ht23) (fr_x9_prepare_J76 t23 a2))))
theorem fr_x9_soonestEnd_B9 (v1 : Int32) (v3 : Int32) (t : St) : FR [907] [] (x9_soonestEnd_B9 v1 v3 t) t (Sum.elim (fun (x : Int32 × St) => x.2) (fun (y : St) => y)) := by
  unfold x9_soonestEnd_B9
  exact FR_ite (FR_some fx.rfl) (FR_ite (FR_bindn (fun y13 => FR_gd (FR_nmS (fx_sA rfl) (fun t17 ht17 => FR_nm (fun x18 _ => FR_some ht17))))) (FR_nm (fun x19 _ => FR_some fx.rfl)))
theorem fr_x9_soonestEnd_L9 (v1 : Int32) (v3 : Int32) (t : St) : FR [907] [] (lp (fun x => x9_soonestEnd_B9 v1 x.1 x.2) (v3, t)) t (fun (y : St) => y) := FR_lp (p := (fun (x : Int32 × St) => x.2)) (q := (fun (y : St) => y)) (fun x => fr_x9_soonestEnd_B9 v1 x.1 x.2) (v3, t)
theorem fr_x9_soonestEnd (t : St) (a1 : Int32) (a2 : Int32) : FR [907] [] (x9_soonestEnd t a1 a2) t (fun (a : Int32 × St) => a.2) := by
  unfold x9_soonestEnd
  exact FR_gd (FR_nmS (fx_sA rfl) (fun t21 ht21 => FR_bind (fr_x9_soonestEnd_L9 a1 (1 : Int32) t21) (fun y22 hm23 => FR_gd (FR_some (fx.trans ht21 hm23)))))
theorem fr_x9_bestEnd_J6 (t : St) (v2 : Int32) : FR [903, 904, 905, 906, 907] [906, 9000, 9001] (x9_bestEnd_J6 t v2) t (fun (a : Int32 × St) => a.2) := by
  unfold x9_bestEnd_J6
  exact FR_bind (fr_x9_soonestEnd t (((1 : Int32) <<< ((gI t 905) &&& 31)) - (1 : Int32)) v2) (fun q1 hq1 => FR_ite (FR_some hq1) (FR_some hq1))
theorem fr_x9_bestEnd (t0 : St) (a1 : Int32) (a2 : Int32) : FR [903, 904, 905, 906, 907] [906, 9000, 9001] (x9_bestEnd t0 a1 a2) t0 (fun (a : Int32 × St) => a.2) := by
  unfold x9_bestEnd
  exact FR_bind (fr_x9_prepare t0 a1 a2) (fun q4 hq4 => FR_wk hq4 (fr_x9_bestEnd_J6 q4 a2))
theorem fr_x11_end_J45 (t : St) (w0 : Int32) : FR [903, 904, 905, 906, 907] [906, 9000, 9001] (x11_end_J45 t w0) t (fun (a : Int32 × St) => a.2) := by
  unfold x11_end_J45
  exact FR_some fx.rfl
theorem fr_x11_end (t0 : St) (a1 : Int32) (a2 : Int32) : FR [903, 904, 905, 906, 907] [906, 9000, 9001] (x11_end t0 a1 a2) t0 (fun (a : Int32 × St) => a.2) := by
  unfold x11_end
  exact FR_bindn (fun q1 => FR_ite (FR_bindn (fun q5 => FR_ite (FR_bindn (fun q9 => FR_ite (FR_bind (fr_x9_bestEnd t0 a1 a2) (fun q12 hq12 => FR_wk hq12 (fr_x11_end_J45 q12.2 q12.1))) (FR_some fx.rfl))) (FR_some fx.rfl))) (FR_some fx.rfl))
theorem fr_x9_firstToGo_B3 (v1 : Int32) (v2 : Int32) (v3 : Int32) (v4 : Int32) (t : St) : FR [907] [] (x9_firstToGo_B3 v1 v2 v3 v4 t) t (Sum.elim (fun (x : Int32 × St) => x.2) (Sum.elim (fun (y : Int32 × St) => y.2) (fun (y : St) => y))) := by
  unfold x9_firstToGo_B3
  exact FR_ite (FR_some fx.rfl) (FR_ite (FR_nm (fun x11 _ => FR_some fx.rfl)) (FR_gd (FR_nm (fun x4 _ => FR_ite (FR_nm (fun x6 _ => FR_some fx.rfl)) (FR_bind (fr_x9_soonestEnd t (v1 &&& (((1 : Int32) <<< (v4 &&& 31)) ^^^ (-1 : Int32))) x4) (fun q7 hq7 => FR_ite (FR_some hq7) (FR_nm (fun x10 _ => FR_some hq7))))))))
theorem fr_x9_firstToGo_L3 (v1 : Int32) (v2 : Int32) (v3 : Int32) (v4 : Int32) (t : St) : FR [907] [] (lp (fun x => x9_firstToGo_B3 v1 v2 v3 x.1 x.2) (v4, t)) t (Sum.elim (fun (y : Int32 × St) => y.2) (fun (y : St) => y)) := FR_lp (p := (fun (x : Int32 × St) => x.2)) (q := (Sum.elim (fun (y : Int32 × St) => y.2) (fun (y : St) => y))) (fun x => fr_x9_firstToGo_B3 v1 v2 v3 x.1 x.2) (v4, t)
theorem fr_x9_firstToGo (t : St) (a1 : Int32) (a2 : Int32) (a3 : Int32) : FR [907] [] (x9_firstToGo t a1 a2 a3) t (fun (a : Int32 × St) => a.2) := by
  unfold x9_firstToGo
  exact FR_bind (fr_x9_firstToGo_L3 a1 a2 a3 (0 : Int32) t) (fun y12 hm13 => (FR_sum y12 hm13 (fun u15 hm13 => FR_some hm13) (fun u15 hm13 => FR_some hm13)))
theorem fr_x9_stepInOrder_B49 (v3 : Int32) (v5 : Int32) (v4 : Int32) (v6 : Int32) (v7 : Int32) (t : St) : FR [903, 904, 905, 906, 907] [906, 9000, 9001] (x9_stepInOrder_B49 v3 v5 v4 v6 v7 t) t (Sum.elim (fun (x : Int32 × Int32 × Int32 × St) => x.2.2.2) (Sum.elim (fun (y : St) => y) (fun (y : Int32 × Int32 × St) => y.2.2))) := by
  unfold x9_stepInOrder_B49
  exact FR_ite (FR_some fx.rfl) (FR_bind (fr_x9_firstToGo t v4 v6 v5) (fun q2 hq2 => FR_ite (FR_nm (fun x5 _ => FR_gd (FR_nm (fun x7 _ => FR_nm (fun x8 _ => FR_some hq2))))) (FR_some hq2)))
theorem fr_x9_stepInOrder_L49 (v3 : Int32) (v5 : Int32) (v4 : Int32) (v6 : Int32) (v7 : Int32) (t : St) : FR [903, 904, 905, 906, 907] [906, 9000, 9001] (lp (fun x => x9_stepInOrder_B49 v3 v5 x.1 x.2.1 x.2.2.1 x.2.2.2) (v4, v6, v7, t)) t (Sum.elim (fun (y : St) => y) (fun (y : Int32 × Int32 × St) => y.2.2)) := FR_lp (p := (fun (x : Int32 × Int32 × Int32 × St) => x.2.2.2)) (q := (Sum.elim (fun (y : St) => y) (fun (y : Int32 × Int32 × St) => y.2.2))) (fun x => fr_x9_stepInOrder_B49 v3 v5 x.1 x.2.1 x.2.2.1 x.2.2.2) (v4, v6, v7, t)
theorem fr_x9_stepInOrder_J6 (t : St) (v2 : Int32) (v3 : Int32) : FR [903, 904, 905, 906, 907] [906, 9000, 9001] (x9_stepInOrder_J6 t v2 v3) t (fun (a : Int32 × St) => a.2) := by
  unfold x9_stepInOrder_J6
  exact FR_nm (fun x9 _ => FR_bind (fr_x9_soonestEnd t x9 v2) (fun q10 hq10 => FR_ite (FR_some hq10) (FR_ite (FR_bind (fr_x9_stepInOrder_L49 v3 q10.1 x9 v2 (0 : Int32) q10.2) (fun y14 hm15 => (FR_sum y14 hm15 (fun u17 hm15 => FR_some (fx.trans hq10 hm15)) (fun u17 hm15 => FR_bind (fr_x9_firstToGo u17.2.2 u17.1 u17.2.1 q10.1) (fun q18 hq18 => FR_ite (FR_gd (FR_some (fx.trans (fx.trans hq10 hm15) hq18))) (FR_some (fx.trans (fx.trans hq10 hm15) hq18))))))) (FR_some hq10))))
theorem fr_x9_stepInOrder (t0 : St) (a1 : Int32) (a2 : Int32) (a3 : Int32) : FR [903, 904, 905, 906, 907] [906, 9000, 9001] (x9_stepInOrder t0 a1 a2 a3) t0 (fun (a : Int32 × St) => a.2) := by
  unfold x9_stepInOrder
  exact FR_bind (fr_x9_prepare t0 a1 a2) (fun q22 hq22 => FR_wk hq22 (fr_x9_stepInOrder_J6 q22 a2 a3))
theorem fr_x11_orderAt_J50 (t : St) (w0 : Int32) : FR [903, 904, 905, 906, 907] [906, 9000, 9001] (x11_orderAt_J50 t w0) t (fun (a : Int32 × St) => a.2) := by
  unfold x11_orderAt_J50
  exact FR_some fx.rfl
theorem fr_x11_orderAt (t0 : St) (a1 : Int32) (a2 : Int32) (a3 : Int32) : FR [903, 904, 905, 906, 907] [906, 9000, 9001] (x11_orderAt t0 a1 a2 a3) t0 (fun (a : Int32 × St) => a.2) := by
  unfold x11_orderAt
  exact FR_bindn (fun q1 => FR_ite (FR_bindn (fun q5 => FR_ite (FR_ite (FR_bindn (fun q10 => FR_ite (FR_bind (fr_x9_stepInOrder t0 a1 a2 a3) (fun q13 hq13 => FR_wk hq13 (fr_x11_orderAt_J50 q13.2 q13.1))) (FR_some fx.rfl))) (FR_some fx.rfl)) (FR_some fx.rfl))) (FR_some fx.rfl))
theorem fr_x5_keep (t : St) (a1 : Int32) : FR [502, 503, 504] [] (x5_keep t a1) t (fun (a : St) => a) := by
  unfold x5_keep
  exact FR_gd (FR_cpk (FR_nmS (fx_imS rfl rfl) (fun t3 ht3 => FR_gd (FR_nmS (fx_sA rfl) (fun t5 ht5 => FR_some (fx.trans ht3 ht5))))))
theorem fr_x11_image (t : St) (a1 : Int32) : FR [502, 503, 504] [] (x11_image t a1) t (fun (a : Int32 × St) => a.2) := by
  unfold x11_image
  exact FR_bindn (fun q1 => FR_ite (FR_bind (fr_x5_keep t a1) (fun q5 hq5 => FR_some hq5)) (FR_some fx.rfl))
theorem fr_x5_restore (t : St) (a1 : Int32) : FR [500] [] (x5_restore t a1) t (fun (a : St) => a) := by
  unfold x5_restore
  exact FR_gd (FR_cpk (FR_nmS (fx_sAr rfl) (fun t3 ht3 => FR_some ht3)))
theorem fr_x11_from (t : St) (a1 : Int32) : FR [409, 500] [] (x11_from t a1) t (fun (a : Int32 × St) => a.2) := by
  unfold x11_from
  exact FR_bindn (fun q1 => FR_ite (FR_gd (FR_ite (FR_some fx.rfl) (FR_bind (fr_x5_restore t a1) (fun q7 hq7 => FR_bind (fr_x4_forgetFront q7) (fun q9 hq9 => FR_some (fx.trans hq7 hq9)))))) (FR_some fx.rfl))
