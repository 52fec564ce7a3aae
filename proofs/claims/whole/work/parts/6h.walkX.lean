noncomputable def x2_putThousandths_405_B123 (v5 : Int32) (v6 : Int32) (v7 : Int32) (t : St) : Option ((Int32 × St) ⊕ (St)) :=
  if v5 ≤ v7 then (some (.inr t)) else ((x2_multiply_201 t (0 : Int32) (6 : Int32) (2 : Int32)).bind (fun q2 => nm (v7 + (1 : Int32)) (fun x4 : Int32 => some (.inl (x4, q2)))))
theorem mm_x2_putThousandths_405_B123 (v5 : Int32) (v6 : Int32) (v7 : Int32) (t : St) : MR (x2_putThousandths_405_B123 v5 v6 v7 t) t (Sum.elim (fun (x : Int32 × St) => x.2) (fun (y : St) => y)) := by
  unfold x2_putThousandths_405_B123
  exact MR_ite (MR_some mle.rfl) (MR_bind (mm_x2_multiply_201 t (0 : Int32) (6 : Int32) (2 : Int32)) (fun q2 hq2 => MR_nm (fun x4 _ => MR_some hq2)))
theorem mm_x2_putThousandths_405_L123 (v5 : Int32) (v6 : Int32) (v7 : Int32) (t : St) : MR (lp (fun x => x2_putThousandths_405_B123 v5 v6 x.1 x.2) (v7, t)) t (fun (y : St) => y) := MR_lp (p := (fun (x : Int32 × St) => x.2)) (q := (fun (y : St) => y)) (fun x => mm_x2_putThousandths_405_B123 v5 v6 x.1 x.2) (v7, t)
noncomputable def x2_putThousandths_405_B150 (v6 : Int32) (v7 : Int32) (t : St) : Option ((Int32 × St) ⊕ (St)) :=
  if v6 ≤ v7 then (some (.inr t)) else ((x2_multiply_201 t (0 : Int32) (6 : Int32) (5 : Int32)).bind (fun q6 => nm (v7 + (1 : Int32)) (fun x8 : Int32 => some (.inl (x8, q6)))))
theorem mm_x2_putThousandths_405_B150 (v6 : Int32) (v7 : Int32) (t : St) : MR (x2_putThousandths_405_B150 v6 v7 t) t (Sum.elim (fun (x : Int32 × St) => x.2) (fun (y : St) => y)) := by
  unfold x2_putThousandths_405_B150
  exact MR_ite (MR_some mle.rfl) (MR_bind (mm_x2_multiply_201 t (0 : Int32) (6 : Int32) (5 : Int32)) (fun q6 hq6 => MR_nm (fun x8 _ => MR_some hq6)))
theorem mm_x2_putThousandths_405_L150 (v6 : Int32) (v7 : Int32) (t : St) : MR (lp (fun x => x2_putThousandths_405_B150 v6 x.1 x.2) (v7, t)) t (fun (y : St) => y) := MR_lp (p := (fun (x : Int32 × St) => x.2)) (q := (fun (y : St) => y)) (fun x => mm_x2_putThousandths_405_B150 v6 x.1 x.2) (v7, t)
noncomputable def x2_putThousandths_405_B45 (v6 : Int32) (v5 : Int32) (t : St) : Option ((Int32 × St) ⊕ (Int32 × St)) :=
  if v5 ≤ 0 then (some (.inr (v5, t))) else ((x2_remainder_200 t (2 : Int32)).bind (fun q10 => if q10 = 0 then ((x2_divide_200 t (2 : Int32)).bind (fun q13 => nm (v5 + (-1 : Int32)) (fun x15 : Int32 => some (.inl (x15, q13))))) else (some (.inr (v5, t)))))
theorem mm_x2_putThousandths_405_B45 (v6 : Int32) (v5 : Int32) (t : St) : MR (x2_putThousandths_405_B45 v6 v5 t) t (Sum.elim (fun (x : Int32 × St) => x.2) (fun (y : Int32 × St) => y.2)) := by
  unfold x2_putThousandths_405_B45
  exact MR_ite (MR_some mle.rfl) (MR_bindn (fun q10 => MR_ite (MR_bind (mm_x2_divide_200 t (2 : Int32)) (fun q13 hq13 => MR_nm (fun x15 _ => MR_some hq13))) (MR_some mle.rfl)))
theorem mm_x2_putThousandths_405_L45 (v6 : Int32) (v5 : Int32) (t : St) : MR (lp (fun x => x2_putThousandths_405_B45 v6 x.1 x.2) (v5, t)) t (fun (y : Int32 × St) => y.2) := MR_lp (p := (fun (x : Int32 × St) => x.2)) (q := (fun (y : Int32 × St) => y.2)) (fun x => mm_x2_putThousandths_405_B45 v6 x.1 x.2) (v5, t)
noncomputable def x2_putThousandths_405_B75 (v5 : Int32) (v6 : Int32) (t : St) : Option ((Int32 × St) ⊕ (Int32 × St)) :=
  if v6 ≤ 0 then (some (.inr (v6, t))) else ((x2_remainder_200 t (5 : Int32)).bind (fun q17 => if q17 = 0 then ((x2_divide_200 t (5 : Int32)).bind (fun q20 => nm (v6 + (-1 : Int32)) (fun x22 : Int32 => some (.inl (x22, q20))))) else (some (.inr (v6, t)))))
theorem mm_x2_putThousandths_405_B75 (v5 : Int32) (v6 : Int32) (t : St) : MR (x2_putThousandths_405_B75 v5 v6 t) t (Sum.elim (fun (x : Int32 × St) => x.2) (fun (y : Int32 × St) => y.2)) := by
  unfold x2_putThousandths_405_B75
  exact MR_ite (MR_some mle.rfl) (MR_bindn (fun q17 => MR_ite (MR_bind (mm_x2_divide_200 t (5 : Int32)) (fun q20 hq20 => MR_nm (fun x22 _ => MR_some hq20))) (MR_some mle.rfl)))
theorem mm_x2_putThousandths_405_L75 (v5 : Int32) (v6 : Int32) (t : St) : MR (lp (fun x => x2_putThousandths_405_B75 v5 x.1 x.2) (v6, t)) t (fun (y : Int32 × St) => y.2) := MR_lp (p := (fun (x : Int32 × St) => x.2)) (q := (fun (y : Int32 × St) => y.2)) (fun x => mm_x2_putThousandths_405_B75 v5 x.1 x.2) (v6, t)
noncomputable def x2_putThousandths_405_J39 (t : St) (w0 : Int32) : Option (St) :=
  (lp (fun x => x2_putThousandths_405_B45 w0 x.1 x.2) (w0, t)).bind (fun y23 => (lp (fun x => x2_putThousandths_405_B75 y23.1 x.1 x.2) (w0, y23.2)).bind (fun y26 => (j7_fill_53178_201 y26.2 (0 : Int32)).bind (fun q29 => gd (0 : Int32) (gN q29 201) (nm (sA q29 201 (0 : Int32) (1 : Int32)) (fun t32 : St => (lp (fun x => x2_putThousandths_405_B123 y23.1 y26.1 x.1 x.2) ((0 : Int32), t32)).bind (fun y33 => (lp (fun x => x2_putThousandths_405_B150 y26.1 x.1 x.2) ((0 : Int32), y33)).bind (fun y36 => some y36)))))))
theorem mm_x2_putThousandths_405_J39 (t : St) (w0 : Int32) : MR (x2_putThousandths_405_J39 t w0) t (fun (a : St) => a) := by
  unfold x2_putThousandths_405_J39
  exact MR_bind (mm_x2_putThousandths_405_L45 w0 w0 t) (fun y23 hm24 => MR_bind (mm_x2_putThousandths_405_L75 y23.1 w0 y23.2) (fun y26 hm27 => MR_bind (mm_j7_fill_53178_201 y26.2 (0 : Int32)) (fun q29 hq29 => MR_gd (MR_nmS mle_sA (fun t32 ht32 => MR_bind (mm_x2_putThousandths_405_L123 y23.1 y26.1 (0 : Int32) t32) (fun y33 hm34 => MR_bind (mm_x2_putThousandths_405_L150 y26.1 (0 : Int32) y33) (fun y36 hm37 => MR_some (mle.trans (mle.trans (mle.trans (mle.trans (mle.trans hm24 hm27) hq29) ht32) hm34) hm37))))))))
noncomputable def x2_putThousandths_405 (t : St) (a2 : Int32) (a3 : Int32) (a4 : Int32) : Option (St) :=
  (j7_fill_53178_200 t (0 : Int32)).bind (fun q39 => cpk a2 (0 : Int32) (if (6 : Int32) < a3 then (6 : Int32) else a3) (gN q39 405) (gN q39 200) (nm (sAr q39 200 (va_cpy (gA q39 405) (gA q39 200) (a2).toNatClampNeg ((0 : Int32)).toNatClampNeg ((if (6 : Int32) < a3 then (6 : Int32) else a3)).toNatClampNeg)) (fun t42 : St => (x2_isZero t42).bind (fun q43 => if q43 = 0 then (x2_putThousandths_405_J39 t42 ((3 : Int32) * a4)) else (x2_putThousandths_405_J39 t42 (0 : Int32))))))
theorem mm_x2_putThousandths_405 (t : St) (a2 : Int32) (a3 : Int32) (a4 : Int32) : MR (x2_putThousandths_405 t a2 a3 a4) t (fun (a : St) => a) := by
  unfold x2_putThousandths_405
  exact MR_bind (mm_j7_fill_53178_200 t (0 : Int32)) (fun q39 hq39 => MR_cpk (MR_nmS mle_sAr (fun t42 ht42 => MR_bindn (fun q43 => MR_ite (MR_wk (mle.trans hq39 ht42) (mm_x2_putThousandths_405_J39 t42 ((3 : Int32) * a4))) (MR_wk (mle.trans hq39 ht42) (mm_x2_putThousandths_405_J39 t42 (0 : Int32)))))))
set_option maxHeartbeats 4000000 in
set_option maxRecDepth 100000 in
theorem x2_putThousandths_405_L123 {p : Program} {l : Launch} {e : Env} {s : State} {m : MethodId} {args : Array Value} {below : List Frame} {meth : Method} {c : Code} {Q : State → Prop} {D : va_G} {cI cJ cZ cR : ClassId} {am gm : Nat → Nat} {st : Nat} {A : Nat → Prop} (C0 : cxX p s m args meth c cX2_putThousandths RX2 8 none D (tyX cI cJ cZ cR) st A) {v5 : Int32} {v6 : Int32} {y : St} (hK0 : ∀ (H : Heap) (locs : List Loc) (ls : Array Slot), wl D A s (wX cI cJ cZ cR am gm y) H locs → lv_has ls 8 [(0, .ref (am 2002)), (6, .int v6)] → W p l e (rmN 2 60) s m args below meth c H locs 0 0 Q (F0 m 147 ls [])) :
    ∀ (n : Nat) (v7 : Int32) (t : St), lpn (fun x => x2_putThousandths_405_B123 v5 v6 x.1 x.2) n (v7, t) = some y → ∀ (H : Heap) (locs : List Loc) (ls : Array Slot), wl D A s (wX cI cJ cZ cR am gm t) H locs → lv_has ls 8 [(0, .ref (am 2002)), (5, .int v5), (6, .int v6), (7, .int v7)] → W p l e (rmN 2 60) s m args below meth c H locs 0 0 Q (F0 m 123 ls []) := by
  have hx := C0.1.1
  have hb := C0.1.2.1
  have hta := C0.1.2.2.2.2.2.1
  have hown := C0.1.2.2.2.2.1
  intro n
  induction n with
  | zero => intro _ _ h; cases h
  | succ n ih =>
    intro v7 t hrun H locs ls hW hl
    obtain ⟨o, ho, hrun⟩ := bd_some hrun
    unfold x2_putThousandths_405_B123 at ho
    refine lv_iload hx hb dX2_putThousandths_123 (lv_at hl 3 rfl) ?_
    refine lv_iload hx hb dX2_putThousandths_125 (lv_at hl 1 rfl) ?_
    refine lv_icmp_ge (tgt := 147) hx hb dX2_putThousandths_127 (by decide) (fun c1 => ?_) (fun c1 => ?_)
    · replace ho := ite_t c1 ho
      cases ho
      cases hrun
      exact hK0 _ _ _ hW (lv_sub hl [0, 2] rfl)
    · replace ho := ite_f c1 ho
      refine lv_aload_n hx hb dX2_putThousandths_130 rfl (lv_at hl 0 rfl) ?_
      refine xGET_201 C0 kw_370 hW dX2_putThousandths_131 ?_
      refine lv_iconst (v := (0 : Int32)) hx hb dX2_putThousandths_134 (by decide) ?_
      refine lv_bipush (v := (6 : Int32)) hx hb dX2_putThousandths_135 (by decide) ?_
      refine lv_iconst (v := (2 : Int32)) hx hb dX2_putThousandths_137 (by decide) ?_
      obtain ⟨q2, hc3, ho⟩ := bd_some ho
      refine bkV C0.1 hW (runSX (As := [.ref (am 201), .int (0 : Int32), .int (6 : Int32), .int (2 : Int32)]) (rest := []) C0 hW (c_x2_multiply_201 l _ t (0 : Int32) (6 : Int32) (2 : Int32) (t' := q2) hc3) cb_X2_X2_multiply_51 rfl rfl ⟨rfl, rfl⟩ ⟨Nat.le_of_ble_eq_true rfl, Nat.le_of_ble_eq_true rfl⟩ (Nat.le_of_ble_eq_true rfl) hl.1 dX2_putThousandths_138 ⟨Nat.le_of_ble_eq_true rfl, Nat.le_of_ble_eq_true rfl⟩) (fun H locs hW => ?_)
      obtain ⟨x4, ex4, ho⟩ := nm_x ho
      refine lv_iinc (v := x4) (lv' := [(7, .int x4), (0, .ref (am 2002)), (5, .int v5), (6, .int v6)]) hx hb dX2_putThousandths_141 hl (k := 3) rfl (by rw [ex4]; rfl) (by decide) rfl (fun ls hl => ?_)
      clear ex4
      refine lv_goto (tgt := 123) hx hb dX2_putThousandths_144 (by decide) ?_
      cases ho
      exact ih _ _ hrun _ _ _ hW (lv_sub hl [1, 2, 3, 0] rfl)
set_option maxHeartbeats 4000000 in
set_option maxRecDepth 100000 in
theorem x2_putThousandths_405_L150 {p : Program} {l : Launch} {e : Env} {s : State} {m : MethodId} {args : Array Value} {below : List Frame} {meth : Method} {c : Code} {Q : State → Prop} {D : va_G} {cI cJ cZ cR : ClassId} {am gm : Nat → Nat} {st : Nat} {A : Nat → Prop} (C0 : cxX p s m args meth c cX2_putThousandths RX2 8 none D (tyX cI cJ cZ cR) st A) {v6 : Int32} {y : St} (hK0 : ∀ (H : Heap) (locs : List Loc) (ls : Array Slot), wl D A s (wX cI cJ cZ cR am gm y) H locs → lv_has ls 8 [(0, .ref (am 2002))] → W p l e (rmN 2 60) s m args below meth c H locs 0 0 Q (F0 m 174 ls [])) :
    ∀ (n : Nat) (v7 : Int32) (t : St), lpn (fun x => x2_putThousandths_405_B150 v6 x.1 x.2) n (v7, t) = some y → ∀ (H : Heap) (locs : List Loc) (ls : Array Slot), wl D A s (wX cI cJ cZ cR am gm t) H locs → lv_has ls 8 [(0, .ref (am 2002)), (6, .int v6), (7, .int v7)] → W p l e (rmN 2 60) s m args below meth c H locs 0 0 Q (F0 m 150 ls []) := by
  have hx := C0.1.1
  have hb := C0.1.2.1
  have hta := C0.1.2.2.2.2.2.1
  have hown := C0.1.2.2.2.2.1
  intro n
  induction n with
  | zero => intro _ _ h; cases h
  | succ n ih =>
    intro v7 t hrun H locs ls hW hl
    obtain ⟨o, ho, hrun⟩ := bd_some hrun
    unfold x2_putThousandths_405_B150 at ho
    refine lv_iload hx hb dX2_putThousandths_150 (lv_at hl 2 rfl) ?_
    refine lv_iload hx hb dX2_putThousandths_152 (lv_at hl 1 rfl) ?_
    refine lv_icmp_ge (tgt := 174) hx hb dX2_putThousandths_154 (by decide) (fun c5 => ?_) (fun c5 => ?_)
    · replace ho := ite_t c5 ho
      cases ho
      cases hrun
      exact hK0 _ _ _ hW (lv_sub hl [0] rfl)
    · replace ho := ite_f c5 ho
      refine lv_aload_n hx hb dX2_putThousandths_157 rfl (lv_at hl 0 rfl) ?_
      refine xGET_201 C0 kw_370 hW dX2_putThousandths_158 ?_
      refine lv_iconst (v := (0 : Int32)) hx hb dX2_putThousandths_161 (by decide) ?_
      refine lv_bipush (v := (6 : Int32)) hx hb dX2_putThousandths_162 (by decide) ?_
      refine lv_iconst (v := (5 : Int32)) hx hb dX2_putThousandths_164 (by decide) ?_
      obtain ⟨q6, hc7, ho⟩ := bd_some ho
      refine bkV C0.1 hW (runSX (As := [.ref (am 201), .int (0 : Int32), .int (6 : Int32), .int (5 : Int32)]) (rest := []) C0 hW (c_x2_multiply_201 l _ t (0 : Int32) (6 : Int32) (5 : Int32) (t' := q6) hc7) cb_X2_X2_multiply_51 rfl rfl ⟨rfl, rfl⟩ ⟨Nat.le_of_ble_eq_true rfl, Nat.le_of_ble_eq_true rfl⟩ (Nat.le_of_ble_eq_true rfl) hl.1 dX2_putThousandths_165 ⟨Nat.le_of_ble_eq_true rfl, Nat.le_of_ble_eq_true rfl⟩) (fun H locs hW => ?_)
      obtain ⟨x8, ex8, ho⟩ := nm_x ho
      refine lv_iinc (v := x8) (lv' := [(7, .int x8), (0, .ref (am 2002)), (6, .int v6)]) hx hb dX2_putThousandths_168 hl (k := 2) rfl (by rw [ex8]; rfl) (by decide) rfl (fun ls hl => ?_)
      clear ex8
      refine lv_goto (tgt := 150) hx hb dX2_putThousandths_171 (by decide) ?_
      cases ho
      exact ih _ _ hrun _ _ _ hW (lv_sub hl [1, 2, 0] rfl)
set_option maxHeartbeats 4000000 in
set_option maxRecDepth 100000 in
theorem x2_putThousandths_405_L45 {p : Program} {l : Launch} {e : Env} {s : State} {m : MethodId} {args : Array Value} {below : List Frame} {meth : Method} {c : Code} {Q : State → Prop} {D : va_G} {cI cJ cZ cR : ClassId} {am gm : Nat → Nat} {st : Nat} {A : Nat → Prop} (C0 : cxX p s m args meth c cX2_putThousandths RX2 8 none D (tyX cI cJ cZ cR) st A) {v6 : Int32} {y : Int32 × St} (hK0 : ∀ (H : Heap) (locs : List Loc) (ls : Array Slot), wl D A s (wX cI cJ cZ cR am gm y.2) H locs → lv_has ls 8 [(0, .ref (am 2002)), (5, .int y.1), (6, .int v6)] → W p l e (rmN 2 60) s m args below meth c H locs 0 0 Q (F0 m 75 ls [])) :
    ∀ (n : Nat) (v5 : Int32) (t : St), lpn (fun x => x2_putThousandths_405_B45 v6 x.1 x.2) n (v5, t) = some y → ∀ (H : Heap) (locs : List Loc) (ls : Array Slot), wl D A s (wX cI cJ cZ cR am gm t) H locs → lv_has ls 8 [(0, .ref (am 2002)), (5, .int v5), (6, .int v6)] → W p l e (rmN 2 60) s m args below meth c H locs 0 0 Q (F0 m 45 ls []) := by
  have hx := C0.1.1
  have hb := C0.1.2.1
  have hta := C0.1.2.2.2.2.2.1
  have hown := C0.1.2.2.2.2.1
  intro n
  induction n with
  | zero => intro _ _ h; cases h
  | succ n ih =>
    intro v5 t hrun H locs ls hW hl
    obtain ⟨o, ho, hrun⟩ := bd_some hrun
    unfold x2_putThousandths_405_B45 at ho
    refine lv_iload hx hb dX2_putThousandths_45 (lv_at hl 1 rfl) ?_
    refine lv_if_le (tgt := 75) hx hb dX2_putThousandths_47 (by decide) (fun c9 => ?_) (fun c9 => ?_)
    · replace ho := ite_t c9 ho
      cases ho
      cases hrun
      exact hK0 _ _ _ hW (lv_sub hl [0, 1, 2] rfl)
    · replace ho := ite_f c9 ho
      refine lv_aload_n hx hb dX2_putThousandths_50 rfl (lv_at hl 0 rfl) ?_
      refine xGET_200 C0 kw_369 hW dX2_putThousandths_51 ?_
      refine lv_iconst (v := (2 : Int32)) hx hb dX2_putThousandths_54 (by decide) ?_
      obtain ⟨q10, hc11, ho⟩ := bd_some ho
      refine bkI C0.1 hW (runSX (As := [.ref (am 200), .int (2 : Int32)]) (rest := []) C0 hW (c_x2_remainder_200 l _ t (2 : Int32) (r := q10) hc11) cb_X2_X2_remainder_44 rfl rfl ⟨rfl, rfl⟩ ⟨Nat.le_of_ble_eq_true rfl, Nat.le_of_ble_eq_true rfl⟩ (Nat.le_of_ble_eq_true rfl) hl.1 dX2_putThousandths_55 ⟨Nat.le_of_ble_eq_true rfl, Nat.le_of_ble_eq_true rfl⟩) (fun H locs hW => ?_)
      refine lv_if_ne (tgt := 75) hx hb dX2_putThousandths_58 (by decide) (fun c12 => ?_) (fun c12 => ?_)
      · replace ho := ite_f c12 ho
        cases ho
        cases hrun
        exact hK0 _ _ _ hW (lv_sub hl [0, 1, 2] rfl)
      · replace ho := ite_t c12 ho
        refine lv_aload_n hx hb dX2_putThousandths_61 rfl (lv_at hl 0 rfl) ?_
        refine xGET_200 C0 kw_369 hW dX2_putThousandths_62 ?_
        refine lv_iconst (v := (2 : Int32)) hx hb dX2_putThousandths_65 (by decide) ?_
        obtain ⟨q13, hc14, ho⟩ := bd_some ho
        refine bkV C0.1 hW (runSX (As := [.ref (am 200), .int (2 : Int32)]) (rest := []) C0 hW (c_x2_divide_200 l _ t (2 : Int32) (t' := q13) hc14) cb_X2_X2_divide_48 rfl rfl ⟨rfl, rfl⟩ ⟨Nat.le_of_ble_eq_true rfl, Nat.le_of_ble_eq_true rfl⟩ (Nat.le_of_ble_eq_true rfl) hl.1 dX2_putThousandths_66 ⟨Nat.le_of_ble_eq_true rfl, Nat.le_of_ble_eq_true rfl⟩) (fun H locs hW => ?_)
        obtain ⟨x15, ex15, ho⟩ := nm_x ho
        refine lv_iinc (v := x15) (lv' := [(5, .int x15), (0, .ref (am 2002)), (6, .int v6)]) hx hb dX2_putThousandths_69 hl (k := 1) rfl (by rw [ex15]; rfl) (by decide) rfl (fun ls hl => ?_)
        clear ex15
        refine lv_goto (tgt := 45) hx hb dX2_putThousandths_72 (by decide) ?_
        cases ho
        exact ih _ _ hrun _ _ _ hW (lv_sub hl [1, 0, 2] rfl)
set_option maxHeartbeats 4000000 in
set_option maxRecDepth 100000 in
theorem x2_putThousandths_405_L75 {p : Program} {l : Launch} {e : Env} {s : State} {m : MethodId} {args : Array Value} {below : List Frame} {meth : Method} {c : Code} {Q : State → Prop} {D : va_G} {cI cJ cZ cR : ClassId} {am gm : Nat → Nat} {st : Nat} {A : Nat → Prop} (C0 : cxX p s m args meth c cX2_putThousandths RX2 8 none D (tyX cI cJ cZ cR) st A) {v5 : Int32} {y : Int32 × St} (hK0 : ∀ (H : Heap) (locs : List Loc) (ls : Array Slot), wl D A s (wX cI cJ cZ cR am gm y.2) H locs → lv_has ls 8 [(0, .ref (am 2002)), (5, .int v5), (6, .int y.1)] → W p l e (rmN 2 60) s m args below meth c H locs 0 0 Q (F0 m 105 ls [])) :
    ∀ (n : Nat) (v6 : Int32) (t : St), lpn (fun x => x2_putThousandths_405_B75 v5 x.1 x.2) n (v6, t) = some y → ∀ (H : Heap) (locs : List Loc) (ls : Array Slot), wl D A s (wX cI cJ cZ cR am gm t) H locs → lv_has ls 8 [(0, .ref (am 2002)), (5, .int v5), (6, .int v6)] → W p l e (rmN 2 60) s m args below meth c H locs 0 0 Q (F0 m 75 ls []) := by
  have hx := C0.1.1
  have hb := C0.1.2.1
  have hta := C0.1.2.2.2.2.2.1
  have hown := C0.1.2.2.2.2.1
  intro n
  induction n with
  | zero => intro _ _ h; cases h
  | succ n ih =>
    intro v6 t hrun H locs ls hW hl
    obtain ⟨o, ho, hrun⟩ := bd_some hrun
    unfold x2_putThousandths_405_B75 at ho
    refine lv_iload hx hb dX2_putThousandths_75 (lv_at hl 2 rfl) ?_
    refine lv_if_le (tgt := 105) hx hb dX2_putThousandths_77 (by decide) (fun c16 => ?_) (fun c16 => ?_)
    · replace ho := ite_t c16 ho
      cases ho
      cases hrun
      exact hK0 _ _ _ hW (lv_sub hl [0, 1, 2] rfl)
    · replace ho := ite_f c16 ho
      refine lv_aload_n hx hb dX2_putThousandths_80 rfl (lv_at hl 0 rfl) ?_
      refine xGET_200 C0 kw_369 hW dX2_putThousandths_81 ?_
      refine lv_iconst (v := (5 : Int32)) hx hb dX2_putThousandths_84 (by decide) ?_
      obtain ⟨q17, hc18, ho⟩ := bd_some ho
      refine bkI C0.1 hW (runSX (As := [.ref (am 200), .int (5 : Int32)]) (rest := []) C0 hW (c_x2_remainder_200 l _ t (5 : Int32) (r := q17) hc18) cb_X2_X2_remainder_44 rfl rfl ⟨rfl, rfl⟩ ⟨Nat.le_of_ble_eq_true rfl, Nat.le_of_ble_eq_true rfl⟩ (Nat.le_of_ble_eq_true rfl) hl.1 dX2_putThousandths_85 ⟨Nat.le_of_ble_eq_true rfl, Nat.le_of_ble_eq_true rfl⟩) (fun H locs hW => ?_)
      refine lv_if_ne (tgt := 105) hx hb dX2_putThousandths_88 (by decide) (fun c19 => ?_) (fun c19 => ?_)
      · replace ho := ite_f c19 ho
        cases ho
        cases hrun
        exact hK0 _ _ _ hW (lv_sub hl [0, 1, 2] rfl)
      · replace ho := ite_t c19 ho
        refine lv_aload_n hx hb dX2_putThousandths_91 rfl (lv_at hl 0 rfl) ?_
        refine xGET_200 C0 kw_369 hW dX2_putThousandths_92 ?_
        refine lv_iconst (v := (5 : Int32)) hx hb dX2_putThousandths_95 (by decide) ?_
        obtain ⟨q20, hc21, ho⟩ := bd_some ho
        refine bkV C0.1 hW (runSX (As := [.ref (am 200), .int (5 : Int32)]) (rest := []) C0 hW (c_x2_divide_200 l _ t (5 : Int32) (t' := q20) hc21) cb_X2_X2_divide_48 rfl rfl ⟨rfl, rfl⟩ ⟨Nat.le_of_ble_eq_true rfl, Nat.le_of_ble_eq_true rfl⟩ (Nat.le_of_ble_eq_true rfl) hl.1 dX2_putThousandths_96 ⟨Nat.le_of_ble_eq_true rfl, Nat.le_of_ble_eq_true rfl⟩) (fun H locs hW => ?_)
        obtain ⟨x22, ex22, ho⟩ := nm_x ho
        refine lv_iinc (v := x22) (lv' := [(6, .int x22), (0, .ref (am 2002)), (5, .int v5)]) hx hb dX2_putThousandths_99 hl (k := 2) rfl (by rw [ex22]; rfl) (by decide) rfl (fun ls hl => ?_)
        clear ex22
        refine lv_goto (tgt := 75) hx hb dX2_putThousandths_102 (by decide) ?_
        cases ho
        exact ih _ _ hrun _ _ _ hW (lv_sub hl [1, 2, 0] rfl)
set_option maxHeartbeats 4000000 in
set_option maxRecDepth 100000 in
theorem c_x2_putThousandths_405 (l : Launch) {D : va_G} {cI cJ cZ cR : ClassId} {am gm : Nat → Nat} {st : Nat} (sz : Nat) (t : St) (a2 : Int32) (a3 : Int32) (a4 : Int32) {t' : St} (ho : x2_putThousandths_405 t a2 a3 a4 = some t') : Met l yX2_putThousandths (.code yX2_putThousandths cX2_putThousandths 8 none :: wsAll) (rmN 2 60) (va_Pc [.ref (am 2002), .ref (gm 405), .int a2, .int a3, .int a4] (prX D (tyX cI cJ cZ cR) (wX cI cJ cZ cR am gm t) sz st)) (qV D (tyX cI cJ cZ cR) (wX cI cJ cZ cR am gm t') (va_A (wX cI cJ cZ cR am gm t) sz)) 0 0 (va_A (wX cI cJ cZ cR am gm t) sz) := by
  refine Met.ofW (cc := cX2_putThousandths) (maxL := 8) (ret := none) (by decide) rfl ?_
  intro p e s m args below meth c s₁ B hml hv
  obtain ⟨rfl, ⟨hsz, hP, hK, hD0⟩, hsx⟩ := hv
  have hx := B.exec
  have hb := B.bytes
  have hts := atoms_spec (ws := (.code yX2_putThousandths cX2_putThousandths 8 none :: wsAll)) B.pre
  have hta := fun w h => hts w (List.mem_cons_of_mem _ h)
  have hown : s.vm.findClass RX2 = some m.cls := findClass_of_methodNamed B.named
  have hlocks := B.notSynchronized
  subst hsz
  have hD := hD0.self (sz := s.heap.size)
  generalize hAe : va_A (wX cI cJ cZ cR am gm t) s.heap.size = A at hD ⊢
  have hA : ∀ q : Nat, s.heap.size ≤ q → A q := fun q h => by rw [← hAe]; exact Or.inr h
  have C0 : cxX p s m ([.ref (am 2002), .ref (gm 405), .int a2, .int a3, .int a4].toArray) meth c cX2_putThousandths RX2 8 none D (tyX cI cJ cZ cR) st A := ⟨⟨hx, hb, B.returns, hml, hown, hta, hlocks, hK, hA⟩, by rw [← hAe]; exact hsx⟩
  have hW : wl D A s (wX cI cJ cZ cR am gm t) s.heap [] := ⟨hP, hD, va_S.rf⟩
  have hl := lv_entry [.ref (am 2002), .ref (gm 405), .int a2, .int a3, .int a4] (n := 8) (Nat.le_of_ble_eq_true rfl)
  rw [lg_entry_eq]
  generalize (lg_sl [.ref (am 2002), .ref (gm 405), .int a2, .int a3, .int a4] ++ List.replicate (8 - (lg_sl [.ref (am 2002), .ref (gm 405), .int a2, .int a3, .int a4]).length) Slot.unset).toArray = ls at hl ⊢
  have hl : lv_has ls 8 [(0, .ref (am 2002)), (1, .ref (gm 405)), (2, .int a2), (3, .int a3), (4, .int a4)] := hl
  clear hAe hD hP hD0 hts
  have J39 : ∀ (t : St) (w0 : Int32) (_ : x2_putThousandths_405_J39 t w0 = some t') (H : Heap) (locs : List Loc) (ls : Array Slot), wl D A s (wX cI cJ cZ cR am gm t) H locs → lv_has ls 8 [(0, .ref (am 2002))] → W p l e (rmN 2 60) s m ([.ref (am 2002), .ref (gm 405), .int a2, .int a3, .int a4].toArray) below meth c H locs 0 0 (MQ below (qV D (tyX cI cJ cZ cR) (wX cI cJ cZ cR am gm t') A) ([.ref (am 2002), .ref (gm 405), .int a2, .int a3, .int a4].toArray) s 0 0 A) (F0 m 39 ls [.int w0]) := by
    intro t w0 ho H locs ls hW hl
    unfold x2_putThousandths_405_J39 at ho
    refine lv_istore (lv' := [(5, .int w0), (0, .ref (am 2002))]) hx hb dX2_putThousandths_39 hl (by decide) rfl (fun ls hl => ?_)
    refine lv_iload hx hb dX2_putThousandths_41 (lv_at hl 0 rfl) ?_
    refine lv_istore (lv' := [(6, .int w0), (5, .int w0), (0, .ref (am 2002))]) hx hb dX2_putThousandths_43 hl (by decide) rfl (fun ls hl => ?_)
    obtain ⟨y23, hc25, ho⟩ := bd_some ho
    obtain ⟨ny23, hc25⟩ := lp_to hc25
    refine x2_putThousandths_405_L45 C0 ?_ ny23 _ _ hc25 _ _ _ hW (lv_sub hl [2, 1, 0] rfl)
    intro H locs ls hW hl
    obtain ⟨y26, hc28, ho⟩ := bd_some ho
    obtain ⟨ny26, hc28⟩ := lp_to hc28
    refine x2_putThousandths_405_L75 C0 ?_ ny26 _ _ hc28 _ _ _ hW (lv_sub hl [0, 1, 2] rfl)
    intro H locs ls hW hl
    refine lv_aload_n hx hb dX2_putThousandths_105 rfl (lv_at hl 0 rfl) ?_
    refine xGET_201 C0 kw_370 hW dX2_putThousandths_106 ?_
    refine lv_iconst (v := (0 : Int32)) hx hb dX2_putThousandths_109 (by decide) ?_
    obtain ⟨q29, hc30, ho⟩ := bd_some ho
    refine bkV C0.1 hW (runSX (As := [.ref (am 201), .int (0 : Int32)]) (rest := []) C0 hW (c_j7_fill_53178_201 l _ y26.2 (0 : Int32) (t' := q29) hc30) cb_X2_J7_fill_53178_22 rfl rfl ⟨rfl, rfl⟩ ⟨Nat.le_of_ble_eq_true rfl, Nat.le_of_ble_eq_true rfl⟩ (Nat.le_of_ble_eq_true rfl) hl.1 dX2_putThousandths_110 ⟨Nat.le_of_ble_eq_true rfl, Nat.le_of_ble_eq_true rfl⟩) (fun H locs hW => ?_)
    refine lv_aload_n hx hb dX2_putThousandths_113 rfl (lv_at hl 0 rfl) ?_
    refine xGET_201 C0 kw_370 hW dX2_putThousandths_114 ?_
    refine lv_iconst (v := (0 : Int32)) hx hb dX2_putThousandths_117 (by decide) ?_
    refine lv_iconst (v := (1 : Int32)) hx hb dX2_putThousandths_118 (by decide) ?_
    obtain ⟨g31, ho⟩ := gd_some ho
    refine xST_201 C0 hW g31 dX2_putThousandths_119 (fun H locs hW => ?_)
    obtain ⟨t32, ho, hW⟩ := nm_w (P := fun t => wl D A s (wX cI cJ cZ cR am gm t) H locs) ho hW
    refine lv_iconst (v := (0 : Int32)) hx hb dX2_putThousandths_120 (by decide) ?_
    refine lv_istore (lv' := [(7, .int (0 : Int32)), (0, .ref (am 2002)), (5, .int y23.1), (6, .int y26.1)]) hx hb dX2_putThousandths_121 hl (by decide) rfl (fun ls hl => ?_)
    obtain ⟨y33, hc35, ho⟩ := bd_some ho
    obtain ⟨ny33, hc35⟩ := lp_to hc35
    refine x2_putThousandths_405_L123 C0 ?_ ny33 _ _ hc35 _ _ _ hW (lv_sub hl [1, 2, 3, 0] rfl)
    intro H locs ls hW hl
    refine lv_iconst (v := (0 : Int32)) hx hb dX2_putThousandths_147 (by decide) ?_
    refine lv_istore (lv' := [(7, .int (0 : Int32)), (0, .ref (am 2002)), (6, .int y26.1)]) hx hb dX2_putThousandths_148 hl (by decide) rfl (fun ls hl => ?_)
    obtain ⟨y36, hc38, ho⟩ := bd_some ho
    obtain ⟨ny36, hc38⟩ := lp_to hc38
    refine x2_putThousandths_405_L150 C0 ?_ ny36 _ _ hc38 _ _ _ hW (lv_sub hl [1, 2, 0] rfl)
    intro H locs ls hW hl
    cases ho
    exact rtV C0.1 hW dX2_putThousandths_174
  unfold x2_putThousandths_405 at ho
  refine lv_aload_n hx hb dX2_putThousandths_0 rfl (lv_at hl 0 rfl) ?_
  refine xGET_200 C0 kw_369 hW dX2_putThousandths_1 ?_
  refine lv_iconst (v := (0 : Int32)) hx hb dX2_putThousandths_4 (by decide) ?_
  obtain ⟨q39, hc40, ho⟩ := bd_some ho
  refine bkV C0.1 hW (runSX (As := [.ref (am 200), .int (0 : Int32)]) (rest := []) C0 hW (c_j7_fill_53178_200 l _ t (0 : Int32) (t' := q39) hc40) cb_X2_J7_fill_53178_22 rfl rfl ⟨rfl, rfl⟩ ⟨Nat.le_of_ble_eq_true rfl, Nat.le_of_ble_eq_true rfl⟩ (Nat.le_of_ble_eq_true rfl) hl.1 dX2_putThousandths_5 ⟨Nat.le_of_ble_eq_true rfl, Nat.le_of_ble_eq_true rfl⟩) (fun H locs hW => ?_)
  refine lv_aload_n hx hb dX2_putThousandths_8 rfl (lv_at hl 1 rfl) ?_
  refine lv_iload_n hx hb dX2_putThousandths_9 rfl (lv_at hl 2 rfl) ?_
  refine lv_aload_n hx hb dX2_putThousandths_10 rfl (lv_at hl 0 rfl) ?_
  refine xGET_200 C0 kw_369 hW dX2_putThousandths_11 ?_
  refine lv_iconst (v := (0 : Int32)) hx hb dX2_putThousandths_14 (by decide) ?_
  refine lv_iload_n hx hb dX2_putThousandths_15 rfl (lv_at hl 3 rfl) ?_
  refine lv_bipush (v := (6 : Int32)) hx hb dX2_putThousandths_16 (by decide) ?_
  refine va_mmin (rest := [.int (0 : Int32), .ref (am 200), .int a2, .ref (gm 405)]) hx hb (C0.1.2.2.2.1.trans hl.1.symm) hown (hta _ kw_1006) (hta _ kw_748) (hta _ kw_136) (hta _ kw_749) (Nat.le_of_ble_eq_true rfl) (Nat.le_of_ble_eq_true rfl) (Nat.le_of_ble_eq_true rfl) (Nat.le_of_ble_eq_true rfl) dX2_putThousandths_18 ?_
  obtain ⟨g41, ho⟩ := cpk_some ho
  refine xCPY_405_200 (rest := []) C0 kw_1007 kw_752 kw_751 kw_137 hl.1 hW g41 (Nat.le_of_ble_eq_true rfl) (Nat.le_of_ble_eq_true rfl) dX2_putThousandths_21 (fun H locs hW => ?_)
  obtain ⟨t42, ho, hW⟩ := nm_w (P := fun t => wl D A s (wX cI cJ cZ cR am gm t) H locs) ho hW
  refine lv_aload_n hx hb dX2_putThousandths_24 rfl (lv_at hl 0 rfl) ?_
  obtain ⟨q43, hc44, ho⟩ := bd_some ho
  refine bkZ C0.1 hW (runVX (As := []) (rest := []) C0 hW (c_x2_isZero l _ t42 (r := q43) hc44) cb_X2_X2_isZero_40 2 2 rfl rfl rfl rfl rfl ⟨rfl, rfl⟩ ⟨Nat.le_of_ble_eq_true rfl, Nat.le_of_ble_eq_true rfl⟩ (Nat.le_of_ble_eq_true rfl) hl.1 dX2_putThousandths_25 ⟨Nat.le_of_ble_eq_true rfl, Nat.le_of_ble_eq_true rfl⟩) (fun z45 H locs hW => ?_)
  refine lv_if_eq (tgt := 35) hx hb dX2_putThousandths_28 (by decide) (fun c46 => ?_) (fun c46 => ?_)
  · replace ho := ite_t c46 ho
    refine lv_iconst (v := (3 : Int32)) hx hb dX2_putThousandths_35 (by decide) ?_
    refine lv_iload hx hb dX2_putThousandths_36 (lv_at hl 4 rfl) ?_
    refine lv_imul hx hb dX2_putThousandths_38 ?_
    exact J39 _ _ ho _ _ _ hW (lv_sub hl [0] rfl)
  · replace ho := ite_f c46 ho
    refine lv_iconst (v := (0 : Int32)) hx hb dX2_putThousandths_31 (by decide) ?_
    refine lv_goto (tgt := 39) hx hb dX2_putThousandths_32 (by decide) ?_
    exact J39 _ _ ho _ _ _ hW (lv_sub hl [0] rfl)
noncomputable def x11_frontAt_J51 (t : St) (v2 : Int32) (v3 : Int32) (w0 : Int32) : Option (Int32 × St) :=
  if w0 = 0 then (some ((-5 : Int32), t)) else (if v2 < (gI t 408) then (gd v2 (gN t 406) (nm (gA t 406 (v2).toNatClampNeg) (fun x4 : Int32 => nm (gI t 410) (fun x5 : Int32 => (x2_putThousandths_405 t (x4 * x5) x5 (gI t 411)).bind (fun q6 => if v3 = 0 then (some (x4, q6)) else (gd x4 (gN q6 404) (some ((gA q6 404 (x4).toNatClampNeg), q6)))))))) else (some ((-1 : Int32), t)))
theorem mm_x11_frontAt_J51 (t : St) (v2 : Int32) (v3 : Int32) (w0 : Int32) : MR (x11_frontAt_J51 t v2 v3 w0) t (fun (a : Int32 × St) => a.2) := by
  unfold x11_frontAt_J51
  exact MR_ite (MR_some mle.rfl) (MR_ite (MR_gd (MR_nm (fun x4 _ => MR_nm (fun x5 _ => MR_bind (mm_x2_putThousandths_405 t (x4 * x5) x5 (gI t 411)) (fun q6 hq6 => MR_ite (MR_some hq6) (MR_gd (MR_some hq6))))))) (MR_some mle.rfl))
noncomputable def x11_frontAt (t0 : St) (a1 : Int32) (a2 : Int32) (a3 : Int32) : Option (Int32 × St) :=
  (x11_noNet t0 a1).bind (fun q10 => if q10 = 0 then (if a2 < 0 then (some ((-2 : Int32), t0)) else ((x11_outside t0 a3 (0 : Int32) (1 : Int32)).bind (fun q15 => if q15 = 0 then (gd a1 (gN t0 602) (nm (gA t0 602 (a1).toNatClampNeg) (fun x20 : Int32 => if 0 ≤ x20 then ((x4_drawFront t0 x20).bind (fun q22 => x11_frontAt_J51 q22.2 a2 a3 q22.1)) else (some ((-3 : Int32), t0))))) else (some ((-2 : Int32), t0))))) else (some ((-2 : Int32), t0)))
theorem mm_x11_frontAt (t0 : St) (a1 : Int32) (a2 : Int32) (a3 : Int32) : MR (x11_frontAt t0 a1 a2 a3) t0 (fun (a : Int32 × St) => a.2) := by
  unfold x11_frontAt
  exact MR_bindn (fun q10 => MR_ite (MR_ite (MR_some mle.rfl) (MR_bindn (fun q15 => MR_ite (MR_gd (MR_nm (fun x20 _ => MR_ite (MR_bind (mm_x4_drawFront t0 x20) (fun q22 hq22 => MR_wk hq22 (mm_x11_frontAt_J51 q22.2 a2 a3 q22.1))) (MR_some mle.rfl)))) (MR_some mle.rfl)))) (MR_some mle.rfl))
set_option maxHeartbeats 4000000 in
set_option maxRecDepth 100000 in
theorem c_x11_frontAt (l : Launch) {D : va_G} {cI cJ cZ cR : ClassId} {am gm : Nat → Nat} {st : Nat} (sz : Nat) (t0 : St) (a1 : Int32) (a2 : Int32) (a3 : Int32) {r : Int32} {t' : St} (ho : x11_frontAt t0 a1 a2 a3 = some (r, t')) : Met l yX11_frontAt (.code yX11_frontAt cX11_frontAt 7 (some .int) :: wsAll) (rmA 6 143 t0 t') (va_Pc [.ref (am 2011), .int a1, .int a2, .int a3] (prX D (tyX cI cJ cZ cR) (wX cI cJ cZ cR am gm t0) sz st)) (qIa r D (tyX cI cJ cZ cR) (fun gm => wX cI cJ cZ cR am gm t') (va_A (wX cI cJ cZ cR am gm t0) sz)) (mC t0 t') (mS t0 t') (va_A (wX cI cJ cZ cR am gm t0) sz) := by
  refine Met.ofW (cc := cX11_frontAt) (maxL := 7) (ret := (some .int)) (by decide) rfl ?_
  intro p e s m args below meth c s₁ B hml hv
  obtain ⟨rfl, ⟨hsz, hP, hK, hD0⟩, hsx⟩ := hv
  have hx := B.exec
  have hb := B.bytes
  have hts := atoms_spec (ws := (.code yX11_frontAt cX11_frontAt 7 (some .int) :: wsAll)) B.pre
  have hta := fun w h => hts w (List.mem_cons_of_mem _ h)
  have hown : s.vm.findClass RX11 = some m.cls := findClass_of_methodNamed B.named
  have hlocks := B.notSynchronized
  subst hsz
  have hD := hD0.self (sz := s.heap.size)
  generalize hAe : va_A (wX cI cJ cZ cR am gm t0) s.heap.size = A at hD ⊢
  have hA : ∀ q : Nat, s.heap.size ≤ q → A q := fun q h => by rw [← hAe]; exact Or.inr h
  have C0 : cxX p s m ([.ref (am 2011), .int a1, .int a2, .int a3].toArray) meth c cX11_frontAt RX11 7 (some .int) D (tyX cI cJ cZ cR) st A := ⟨⟨hx, hb, B.returns, hml, hown, hta, hlocks, hK, hA⟩, by rw [← hAe]; exact hsx⟩
  have hW : wl D A s (wX cI cJ cZ cR am gm t0) s.heap [] := ⟨hP, hD, va_S.rf⟩
  have hl := lv_entry [.ref (am 2011), .int a1, .int a2, .int a3] (n := 7) (Nat.le_of_ble_eq_true rfl)
  rw [lg_entry_eq]
  generalize (lg_sl [.ref (am 2011), .int a1, .int a2, .int a3] ++ List.replicate (7 - (lg_sl [.ref (am 2011), .int a1, .int a2, .int a3]).length) Slot.unset).toArray = ls at hl ⊢
  have hl : lv_has ls 7 [(0, .ref (am 2011)), (1, .int a1), (2, .int a2), (3, .int a3)] := hl
  clear hAe hD hP hD0 hts
  have J51 : ∀ (gm : Nat → Nat) (t : St) (v2 : Int32) (v3 : Int32) (w0 : Int32) (_ : x11_frontAt_J51 t v2 v3 w0 = some (r, t')) (_ : mle t0 t) (H : Heap) (locs : List Loc) (ls : Array Slot), wl D A s (wX cI cJ cZ cR am gm t) H locs → lv_has ls 7 [(0, .ref (am 2011)), (2, .int v2), (3, .int v3)] → W p l e (rmA 6 143 t0 t') s m ([.ref (am 2011), .int a1, .int a2, .int a3].toArray) below meth c H locs (mC t0 t) (mS t0 t) (MQ below (qIa r D (tyX cI cJ cZ cR) (fun gm => wX cI cJ cZ cR am gm t') A) ([.ref (am 2011), .int a1, .int a2, .int a3].toArray) s (mC t0 t') (mS t0 t') A) (F0 m 51 ls [.int w0]) := by
    intro gm t v2 v3 w0 ho h0 H locs ls hW hl
    have hE : mle t t' := (mm_x11_frontAt_J51 _ _ _ _ _ ho)
    have hR := hR_of (t0 := t0) hE
    unfold x11_frontAt_J51 at ho
    refine lv_if_ne (tgt := 57) hx hb dX11_frontAt_51 (by decide) (fun c1 => ?_) (fun c1 => ?_)
    · replace ho := ite_f c1 ho
      refine lv_iload_n hx hb dX11_frontAt_57 rfl (lv_at hl 1 rfl) ?_
      refine lv_aload_n hx hb dX11_frontAt_58 rfl (lv_at hl 0 rfl) ?_
      refine xGET_1107 C0 kw_598 hW dX11_frontAt_59 ?_
      refine xGET_408 C0 kw_453 hW dX11_frontAt_62 ?_
      refine lv_icmp_lt (tgt := 70) hx hb dX11_frontAt_65 (by decide) (fun c2 => ?_) (fun c2 => ?_)
      · replace ho := ite_t c2 ho
        refine lv_aload_n hx hb dX11_frontAt_70 rfl (lv_at hl 0 rfl) ?_
        refine xGET_1107 C0 kw_598 hW dX11_frontAt_71 ?_
        refine xGET_406 C0 kw_450 hW dX11_frontAt_74 ?_
        refine lv_iload_n hx hb dX11_frontAt_77 rfl (lv_at hl 1 rfl) ?_
        obtain ⟨g3, ho⟩ := gd_some ho
        refine xLD_406 C0 hW g3 dX11_frontAt_78 ?_
        refine lv_nmi ho (fun x4 ho => ?_)
        refine lv_istore (lv' := [(5, .int x4), (0, .ref (am 2011)), (2, .int v2), (3, .int v3)]) hx hb dX11_frontAt_79 hl (by decide) rfl (fun ls hl => ?_)
        refine lv_aload_n hx hb dX11_frontAt_81 rfl (lv_at hl 1 rfl) ?_
        refine xGET_1107 C0 kw_598 hW dX11_frontAt_82 ?_
        refine xGET_410 C0 kw_456 hW dX11_frontAt_85 ?_
        refine lv_nmi ho (fun x5 ho => ?_)
        refine lv_istore (lv' := [(6, .int x5), (5, .int x4), (0, .ref (am 2011)), (2, .int v2), (3, .int v3)]) hx hb dX11_frontAt_88 hl (by decide) rfl (fun ls hl => ?_)
        refine lv_aload_n hx hb dX11_frontAt_90 rfl (lv_at hl 2 rfl) ?_
        refine xGET_1105 C0 kw_596 hW dX11_frontAt_91 ?_
        refine lv_aload_n hx hb dX11_frontAt_94 rfl (lv_at hl 2 rfl) ?_
        refine xGET_1107 C0 kw_598 hW dX11_frontAt_95 ?_
        refine xGET_405 C0 kw_448 hW dX11_frontAt_98 ?_
        refine lv_iload hx hb dX11_frontAt_101 (lv_at hl 1 rfl) ?_
        refine lv_iload hx hb dX11_frontAt_103 (lv_at hl 0 rfl) ?_
        refine lv_imul hx hb dX11_frontAt_105 ?_
        refine lv_iload hx hb dX11_frontAt_106 (lv_at hl 0 rfl) ?_
        refine lv_aload_n hx hb dX11_frontAt_108 rfl (lv_at hl 2 rfl) ?_
        refine xGET_1107 C0 kw_598 hW dX11_frontAt_109 ?_
        refine xGET_411 C0 kw_458 hW dX11_frontAt_112 ?_
        obtain ⟨q6, hc7, ho⟩ := bd_some ho
        have hq6 := mm_x2_putThousandths_405 t (x4 * x5) x5 (gI t 411) _ hc7
        refine bkV C0.1 hW (runVX (As := [.ref (gm 405), .int (x4 * x5), .int x5, .int (gI t 411)]) (rest := []) C0 hW (c_x2_putThousandths_405 l _ t (x4 * x5) x5 (gI t 411) (t' := q6) hc7) cb_X11_X2_putThousandths_215 2 2 rfl rfl rfl rfl rfl ⟨rfl, rfl⟩ ⟨Nat.le_of_ble_eq_true rfl, Nat.le_of_ble_eq_true rfl⟩ (Nat.le_of_ble_eq_true rfl) hl.1 dX11_frontAt_115 ⟨hR.1, hR.2⟩) (fun H locs hW => ?_)
        refine lv_iload_n hx hb dX11_frontAt_118 rfl (lv_at hl 4 rfl) ?_
        refine lv_if_ne (tgt := 127) hx hb dX11_frontAt_119 (by decide) (fun c8 => ?_) (fun c8 => ?_)
        · replace ho := ite_f c8 ho
          refine lv_aload_n hx hb dX11_frontAt_127 rfl (lv_at hl 2 rfl) ?_
          refine xGET_1107 C0 kw_598 hW dX11_frontAt_128 ?_
          refine xGET_404 C0 kw_446 hW dX11_frontAt_131 ?_
          refine lv_iload hx hb dX11_frontAt_134 (lv_at hl 1 rfl) ?_
          obtain ⟨g9, ho⟩ := gd_some ho
          refine xLD_404 C0 hW g9 dX11_frontAt_136 ?_
          refine W_up h0 hq6 ?_
          cases ho
          exact rtIa gm C0.1 hW dX11_frontAt_137
        · replace ho := ite_t c8 ho
          refine lv_iload hx hb dX11_frontAt_122 (lv_at hl 1 rfl) ?_
          refine lv_goto (tgt := 137) hx hb dX11_frontAt_124 (by decide) ?_
          refine W_up h0 hq6 ?_
          cases ho
          exact rtIa gm C0.1 hW dX11_frontAt_137
      · replace ho := ite_f c2 ho
        refine lv_iconst (v := (-1 : Int32)) hx hb dX11_frontAt_68 (by decide) ?_
        cases ho
        exact rtIa gm C0.1 hW dX11_frontAt_69
    · replace ho := ite_t c1 ho
      refine lv_bipush (v := (-5 : Int32)) hx hb dX11_frontAt_54 (by decide) ?_
      cases ho
      exact rtIa gm C0.1 hW dX11_frontAt_56
  have hE : mle t0 t' := mm_x11_frontAt _ _ _ _ _ ho
  have hR := hR_of (t0 := t0) hE
  have h0 : mle t0 t0 := mle.rfl
  refine W_0 (t0 := t0) ?_
  unfold x11_frontAt at ho
  refine lv_iload_n hx hb dX11_frontAt_0 rfl (lv_at hl 1 rfl) ?_
  obtain ⟨q10, hc11, ho⟩ := bd_some ho
  refine bkZ C0.1 hW (runSX (As := [.int a1]) (rest := []) C0 hW (c_x11_noNet l _ t0 a1 (r := q10) hc11) cb_X11_X11_noNet_124 rfl rfl ⟨rfl, rfl⟩ ⟨Nat.le_of_ble_eq_true rfl, Nat.le_of_ble_eq_true rfl⟩ (Nat.le_of_ble_eq_true rfl) hl.1 dX11_frontAt_1 ⟨hR.1, hR.2⟩) (fun z12 H locs hW => ?_)
  refine lv_if_ne (tgt := 20) hx hb dX11_frontAt_4 (by decide) (fun c13 => ?_) (fun c13 => ?_)
  · replace ho := ite_f c13 ho
    refine lv_bipush (v := (-2 : Int32)) hx hb dX11_frontAt_20 (by decide) ?_
    cases ho
    exact rtIa gm C0.1 hW dX11_frontAt_22
  · replace ho := ite_t c13 ho
    refine lv_iload_n hx hb dX11_frontAt_7 rfl (lv_at hl 2 rfl) ?_
    refine lv_if_lt (tgt := 20) hx hb dX11_frontAt_8 (by decide) (fun c14 => ?_) (fun c14 => ?_)
    · replace ho := ite_t c14 ho
      refine lv_bipush (v := (-2 : Int32)) hx hb dX11_frontAt_20 (by decide) ?_
      cases ho
      exact rtIa gm C0.1 hW dX11_frontAt_22
    · replace ho := ite_f c14 ho
      refine lv_iload_n hx hb dX11_frontAt_11 rfl (lv_at hl 3 rfl) ?_
      refine lv_iconst (v := (0 : Int32)) hx hb dX11_frontAt_12 (by decide) ?_
      refine lv_iconst (v := (1 : Int32)) hx hb dX11_frontAt_13 (by decide) ?_
      obtain ⟨q15, hc16, ho⟩ := bd_some ho
      refine bkZ C0.1 hW (runSX (As := [.int a3, .int (0 : Int32), .int (1 : Int32)]) (rest := []) C0 hW (c_x11_outside l _ t0 a3 (0 : Int32) (1 : Int32) (r := q15) hc16) cb_X11_X11_outside_102 rfl rfl ⟨rfl, rfl⟩ ⟨Nat.le_of_ble_eq_true rfl, Nat.le_of_ble_eq_true rfl⟩ (Nat.le_of_ble_eq_true rfl) hl.1 dX11_frontAt_14 ⟨hR.1, hR.2⟩) (fun z17 H locs hW => ?_)
      refine lv_if_eq (tgt := 23) hx hb dX11_frontAt_17 (by decide) (fun c18 => ?_) (fun c18 => ?_)
      · replace ho := ite_t c18 ho
        refine lv_aload_n hx hb dX11_frontAt_23 rfl (lv_at hl 0 rfl) ?_
        refine xGET_1101 C0 kw_592 hW dX11_frontAt_24 ?_
        refine xGET_602 C0 kw_184 hW dX11_frontAt_27 ?_
        refine lv_iload_n hx hb dX11_frontAt_30 rfl (lv_at hl 1 rfl) ?_
        obtain ⟨g19, ho⟩ := gd_some ho
        refine xLD_602 C0 hW g19 dX11_frontAt_31 ?_
        refine lv_nmi ho (fun x20 ho => ?_)
        refine lv_istore (lv' := [(4, .int x20), (0, .ref (am 2011)), (1, .int a1), (2, .int a2), (3, .int a3)]) hx hb dX11_frontAt_32 hl (by decide) rfl (fun ls hl => ?_)
        refine lv_iload hx hb dX11_frontAt_34 (lv_at hl 0 rfl) ?_
        refine lv_if_ge (tgt := 42) hx hb dX11_frontAt_36 (by decide) (fun c21 => ?_) (fun c21 => ?_)
        · replace ho := ite_t c21 ho
          refine lv_aload_n hx hb dX11_frontAt_42 rfl (lv_at hl 1 rfl) ?_
          refine xGET_1107 C0 kw_598 hW dX11_frontAt_43 ?_
          refine lv_iload hx hb dX11_frontAt_46 (lv_at hl 0 rfl) ?_
          obtain ⟨q22, hc23, ho⟩ := bd_some ho
          have hq22 := mm_x4_drawFront t0 x20 _ hc23
          have hEq22 := (mm_x11_frontAt_J51 _ _ _ _ _ ho)
          refine bkZa C0.1 hW h0 hq22 (runVX (As := [.int x20]) (rest := []) C0 hW (c_x4_drawFront l _ t0 x20 (r := q22.1) (t' := q22.2) hc23) cb_X11_X4_drawFront_256 4 4 rfl rfl rfl rfl rfl ⟨rfl, rfl⟩ ⟨Nat.le_of_ble_eq_true rfl, Nat.le_of_ble_eq_true rfl⟩ (Nat.le_of_ble_eq_true rfl) hl.1 dX11_frontAt_48 (hf_of h0 hq22 hEq22)) (fun z24 gm H locs hW => ?_)
          have h0 := mle.trans h0 hq22
          exact J51 gm _ _ _ _ ho h0 _ _ _ hW (lv_sub hl [1, 3, 4] rfl)
        · replace ho := ite_f c21 ho
          refine lv_bipush (v := (-3 : Int32)) hx hb dX11_frontAt_39 (by decide) ?_
          cases ho
          exact rtIa gm C0.1 hW dX11_frontAt_41
      · replace ho := ite_f c18 ho
        refine lv_bipush (v := (-2 : Int32)) hx hb dX11_frontAt_20 (by decide) ?_
        cases ho
        exact rtIa gm C0.1 hW dX11_frontAt_22
noncomputable def x2_wipe_301_B2 (v1 : Int32) (v2 : Int32) (v3 : Int32) (t : St) : Option ((Int32 × St) ⊕ (St)) :=
  if v2 ≤ v3 then (some (.inr t)) else (gd (v1 + v3) (gN t 301) (nm (sA t 301 (v1 + v3) (0 : Int32)) (fun t3 : St => nm (v3 + (1 : Int32)) (fun x4 : Int32 => some (.inl (x4, t3))))))
theorem mm_x2_wipe_301_B2 (v1 : Int32) (v2 : Int32) (v3 : Int32) (t : St) : MR (x2_wipe_301_B2 v1 v2 v3 t) t (Sum.elim (fun (x : Int32 × St) => x.2) (fun (y : St) => y)) := by
  unfold x2_wipe_301_B2
  exact MR_ite (MR_some mle.rfl) (MR_gd (MR_nmS mle_sA (fun t3 ht3 => MR_nm (fun x4 _ => MR_some ht3))))
theorem mm_x2_wipe_301_L2 (v1 : Int32) (v2 : Int32) (v3 : Int32) (t : St) : MR (lp (fun x => x2_wipe_301_B2 v1 v2 x.1 x.2) (v3, t)) t (fun (y : St) => y) := MR_lp (p := (fun (x : Int32 × St) => x.2)) (q := (fun (y : St) => y)) (fun x => mm_x2_wipe_301_B2 v1 v2 x.1 x.2) (v3, t)
noncomputable def x2_wipe_301 (t : St) (a1 : Int32) (a2 : Int32) : Option (St) :=
  (lp (fun x => x2_wipe_301_B2 a1 a2 x.1 x.2) ((0 : Int32), t)).bind (fun y5 => some y5)
theorem mm_x2_wipe_301 (t : St) (a1 : Int32) (a2 : Int32) : MR (x2_wipe_301 t a1 a2) t (fun (a : St) => a) := by
  unfold x2_wipe_301
  exact MR_bind (mm_x2_wipe_301_L2 a1 a2 (0 : Int32) t) (fun y5 hm6 => MR_some hm6)
set_option maxHeartbeats 4000000 in
set_option maxRecDepth 100000 in
theorem x2_wipe_301_L2 {p : Program} {l : Launch} {e : Env} {s : State} {m : MethodId} {args : Array Value} {below : List Frame} {meth : Method} {c : Code} {Q : State → Prop} {D : va_G} {cI cJ cZ cR : ClassId} {am gm : Nat → Nat} {st : Nat} {A : Nat → Prop} (C0 : cxX p s m args meth c cX2_wipe RX2 4 none D (tyX cI cJ cZ cR) st A) {v1 : Int32} {v2 : Int32} {y : St} (hK0 : ∀ (H : Heap) (locs : List Loc) (ls : Array Slot), wl D A s (wX cI cJ cZ cR am gm y) H locs → lv_has ls 4 [] → W p l e (rmN 0 0) s m args below meth c H locs 0 0 Q (F0 m 19 ls [])) :
    ∀ (n : Nat) (v3 : Int32) (t : St), lpn (fun x => x2_wipe_301_B2 v1 v2 x.1 x.2) n (v3, t) = some y → ∀ (H : Heap) (locs : List Loc) (ls : Array Slot), wl D A s (wX cI cJ cZ cR am gm t) H locs → lv_has ls 4 [(0, .ref (am 301)), (1, .int v1), (2, .int v2), (3, .int v3)] → W p l e (rmN 0 0) s m args below meth c H locs 0 0 Q (F0 m 2 ls []) := by
  have hx := C0.1.1
  have hb := C0.1.2.1
  have hta := C0.1.2.2.2.2.2.1
  have hown := C0.1.2.2.2.2.1
  intro n
  induction n with
  | zero => intro _ _ h; cases h
  | succ n ih =>
    intro v3 t hrun H locs ls hW hl
    obtain ⟨o, ho, hrun⟩ := bd_some hrun
    unfold x2_wipe_301_B2 at ho
    refine lv_iload_n hx hb dX2_wipe_2 rfl (lv_at hl 3 rfl) ?_
    refine lv_iload_n hx hb dX2_wipe_3 rfl (lv_at hl 2 rfl) ?_
    refine lv_icmp_ge (tgt := 19) hx hb dX2_wipe_4 (by decide) (fun c1 => ?_) (fun c1 => ?_)
    · replace ho := ite_t c1 ho
      cases ho
      cases hrun
      exact hK0 _ _ _ hW (lv_sub hl [] rfl)
    · replace ho := ite_f c1 ho
      refine lv_aload_n hx hb dX2_wipe_7 rfl (lv_at hl 0 rfl) ?_
      refine lv_iload_n hx hb dX2_wipe_8 rfl (lv_at hl 1 rfl) ?_
      refine lv_iload_n hx hb dX2_wipe_9 rfl (lv_at hl 3 rfl) ?_
      refine lv_iadd hx hb dX2_wipe_10 ?_
      refine lv_iconst (v := (0 : Int32)) hx hb dX2_wipe_11 (by decide) ?_
      obtain ⟨g2, ho⟩ := gd_some ho
      refine xST_301 C0 hW g2 dX2_wipe_12 (fun H locs hW => ?_)
      obtain ⟨t3, ho, hW⟩ := nm_w (P := fun t => wl D A s (wX cI cJ cZ cR am gm t) H locs) ho hW
      obtain ⟨x4, ex4, ho⟩ := nm_x ho
      refine lv_iinc (v := x4) (lv' := [(3, .int x4), (0, .ref (am 301)), (1, .int v1), (2, .int v2)]) hx hb dX2_wipe_13 hl (k := 3) rfl (by rw [ex4]; rfl) (by decide) rfl (fun ls hl => ?_)
      clear ex4
      refine lv_goto (tgt := 2) hx hb dX2_wipe_16 (by decide) ?_
      cases ho
      exact ih _ _ hrun _ _ _ hW (lv_sub hl [1, 2, 3, 0] rfl)
set_option maxHeartbeats 4000000 in
set_option maxRecDepth 100000 in
theorem c_x2_wipe_301 (l : Launch) {D : va_G} {cI cJ cZ cR : ClassId} {am gm : Nat → Nat} {st : Nat} (sz : Nat) (t : St) (a1 : Int32) (a2 : Int32) {t' : St} (ho : x2_wipe_301 t a1 a2 = some t') : Met l yX2_wipe (.code yX2_wipe cX2_wipe 4 none :: wsAll) (rmN 0 0) (va_Pc [.ref (am 301), .int a1, .int a2] (prX D (tyX cI cJ cZ cR) (wX cI cJ cZ cR am gm t) sz st)) (qV D (tyX cI cJ cZ cR) (wX cI cJ cZ cR am gm t') (va_A (wX cI cJ cZ cR am gm t) sz)) 0 0 (va_A (wX cI cJ cZ cR am gm t) sz) := by
  refine Met.ofW (cc := cX2_wipe) (maxL := 4) (ret := none) (by decide) rfl ?_
  intro p e s m args below meth c s₁ B hml hv
  obtain ⟨rfl, ⟨hsz, hP, hK, hD0⟩, hsx⟩ := hv
  have hx := B.exec
  have hb := B.bytes
  have hts := atoms_spec (ws := (.code yX2_wipe cX2_wipe 4 none :: wsAll)) B.pre
  have hta := fun w h => hts w (List.mem_cons_of_mem _ h)
  have hown : s.vm.findClass RX2 = some m.cls := findClass_of_methodNamed B.named
  have hlocks := B.notSynchronized
  subst hsz
  have hD := hD0.self (sz := s.heap.size)
  generalize hAe : va_A (wX cI cJ cZ cR am gm t) s.heap.size = A at hD ⊢
  have hA : ∀ q : Nat, s.heap.size ≤ q → A q := fun q h => by rw [← hAe]; exact Or.inr h
  have C0 : cxX p s m ([.ref (am 301), .int a1, .int a2].toArray) meth c cX2_wipe RX2 4 none D (tyX cI cJ cZ cR) st A := ⟨⟨hx, hb, B.returns, hml, hown, hta, hlocks, hK, hA⟩, by rw [← hAe]; exact hsx⟩
  have hW : wl D A s (wX cI cJ cZ cR am gm t) s.heap [] := ⟨hP, hD, va_S.rf⟩
  have hl := lv_entry [.ref (am 301), .int a1, .int a2] (n := 4) (Nat.le_of_ble_eq_true rfl)
  rw [lg_entry_eq]
  generalize (lg_sl [.ref (am 301), .int a1, .int a2] ++ List.replicate (4 - (lg_sl [.ref (am 301), .int a1, .int a2]).length) Slot.unset).toArray = ls at hl ⊢
  have hl : lv_has ls 4 [(0, .ref (am 301)), (1, .int a1), (2, .int a2)] := hl
  unfold x2_wipe_301 at ho
  refine lv_iconst (v := (0 : Int32)) hx hb dX2_wipe_0 (by decide) ?_
  refine lv_istore_n (lv' := [(3, .int (0 : Int32)), (0, .ref (am 301)), (1, .int a1), (2, .int a2)]) hx hb dX2_wipe_1 rfl hl (by decide) rfl (fun ls hl => ?_)
  obtain ⟨y5, hc7, ho⟩ := bd_some ho
  obtain ⟨ny5, hc7⟩ := lp_to hc7
  refine x2_wipe_301_L2 C0 ?_ ny5 _ _ hc7 _ _ _ hW (lv_sub hl [1, 2, 3, 0] rfl)
  intro H locs ls hW hl
  cases ho
  exact rtV C0.1 hW dX2_wipe_19
noncomputable def x3_hire (t : St) : Option (Int32 × St) :=
  if (gI t 302) < (6 : Int32) then ((x2_wipe_301 t ((gI t 302) * (16 : Int32)) (16 : Int32)).bind (fun q2 => nm (sI q2 302 ((gI q2 302) + (1 : Int32))) (fun t4 : St => some ((1 : Int32), t4)))) else (some ((0 : Int32), t))
theorem mm_x3_hire (t : St) : MR (x3_hire t) t (fun (a : Int32 × St) => a.2) := by
  unfold x3_hire
  exact MR_ite (MR_bind (mm_x2_wipe_301 t ((gI t 302) * (16 : Int32)) (16 : Int32)) (fun q2 hq2 => MR_nmS mle_sI (fun t4 ht4 => MR_some (mle.trans hq2 ht4)))) (MR_some mle.rfl)
set_option maxHeartbeats 4000000 in
set_option maxRecDepth 100000 in
theorem c_x3_hire (l : Launch) {D : va_G} {cI cJ cZ cR : ClassId} {am gm : Nat → Nat} {st : Nat} (sz : Nat) (t : St) {r : Int32} {t' : St} (ho : x3_hire t = some (r, t')) : Met l yX3_hire (.code yX3_hire cX3_hire 1 (some .boolean) :: wsAll) (rmN 1 23) (va_Pc [.ref (am 2003)] (prX D (tyX cI cJ cZ cR) (wX cI cJ cZ cR am gm t) sz st)) (qZ r D (tyX cI cJ cZ cR) (wX cI cJ cZ cR am gm t') (va_A (wX cI cJ cZ cR am gm t) sz)) 0 0 (va_A (wX cI cJ cZ cR am gm t) sz) := by
  refine Met.ofW (cc := cX3_hire) (maxL := 1) (ret := (some .boolean)) (by decide) rfl ?_
  intro p e s m args below meth c s₁ B hml hv
  obtain ⟨rfl, ⟨hsz, hP, hK, hD0⟩, hsx⟩ := hv
  have hx := B.exec
  have hb := B.bytes
  have hts := atoms_spec (ws := (.code yX3_hire cX3_hire 1 (some .boolean) :: wsAll)) B.pre
  have hta := fun w h => hts w (List.mem_cons_of_mem _ h)
  have hown : s.vm.findClass RX3 = some m.cls := findClass_of_methodNamed B.named
  have hlocks := B.notSynchronized
  subst hsz
  have hD := hD0.self (sz := s.heap.size)
  generalize hAe : va_A (wX cI cJ cZ cR am gm t) s.heap.size = A at hD ⊢
  have hA : ∀ q : Nat, s.heap.size ≤ q → A q := fun q h => by rw [← hAe]; exact Or.inr h
  have C0 : cxX p s m ([.ref (am 2003)].toArray) meth c cX3_hire RX3 1 (some .boolean) D (tyX cI cJ cZ cR) st A := ⟨⟨hx, hb, B.returns, hml, hown, hta, hlocks, hK, hA⟩, by rw [← hAe]; exact hsx⟩
  have hW : wl D A s (wX cI cJ cZ cR am gm t) s.heap [] := ⟨hP, hD, va_S.rf⟩
  have hl := lv_entry [.ref (am 2003)] (n := 1) (Nat.le_of_ble_eq_true rfl)
  rw [lg_entry_eq]
  generalize (lg_sl [.ref (am 2003)] ++ List.replicate (1 - (lg_sl [.ref (am 2003)]).length) Slot.unset).toArray = ls at hl ⊢
  have hl : lv_has ls 1 [(0, .ref (am 2003))] := hl
  unfold x3_hire at ho
  refine lv_aload_n hx hb dX3_hire_0 rfl (lv_at hl 0 rfl) ?_
  refine xGET_302 C0 kw_492 hW dX3_hire_1 ?_
  refine lv_bipush (v := (6 : Int32)) hx hb dX3_hire_4 (by decide) ?_
  refine lv_icmp_lt (tgt := 11) hx hb dX3_hire_6 (by decide) (fun c1 => ?_) (fun c1 => ?_)
  · replace ho := ite_t c1 ho
    refine lv_aload_n hx hb dX3_hire_11 rfl (lv_at hl 0 rfl) ?_
    refine xGET_301 C0 kw_491 hW dX3_hire_12 ?_
    refine lv_aload_n hx hb dX3_hire_15 rfl (lv_at hl 0 rfl) ?_
    refine xGET_302 C0 kw_492 hW dX3_hire_16 ?_
    refine lv_bipush (v := (16 : Int32)) hx hb dX3_hire_19 (by decide) ?_
    refine lv_imul hx hb dX3_hire_21 ?_
    refine lv_bipush (v := (16 : Int32)) hx hb dX3_hire_22 (by decide) ?_
    obtain ⟨q2, hc3, ho⟩ := bd_some ho
    refine bkV C0.1 hW (runSX (As := [.ref (am 301), .int ((gI t 302) * (16 : Int32)), .int (16 : Int32)]) (rest := []) C0 hW (c_x2_wipe_301 l _ t ((gI t 302) * (16 : Int32)) (16 : Int32) (t' := q2) hc3) cb_X3_X2_wipe_49 rfl rfl ⟨rfl, rfl⟩ ⟨Nat.le_of_ble_eq_true rfl, Nat.le_of_ble_eq_true rfl⟩ (Nat.le_of_ble_eq_true rfl) hl.1 dX3_hire_24 ⟨Nat.le_of_ble_eq_true rfl, Nat.le_of_ble_eq_true rfl⟩) (fun H locs hW => ?_)
    refine lv_aload_n hx hb dX3_hire_27 rfl (lv_at hl 0 rfl) ?_
    refine lv_dup hx hb dX3_hire_28 rfl ?_
    refine xGET_302 C0 kw_492 hW dX3_hire_29 ?_
    refine lv_iconst (v := (1 : Int32)) hx hb dX3_hire_32 (by decide) ?_
    refine lv_iadd hx hb dX3_hire_33 ?_
    refine xPUT_302 C0 kw_492 hW dX3_hire_34 (fun H locs hW => ?_)
    obtain ⟨t4, ho, hW⟩ := nm_w (P := fun t => wl D A s (wX cI cJ cZ cR am gm t) H locs) ho hW
    refine lv_iconst (v := (1 : Int32)) hx hb dX3_hire_37 (by decide) ?_
    cases ho
    exact rtZ C0.1 hW (Or.inr (rfl : (1 : Int32) = 1)) dX3_hire_38
  · replace ho := ite_f c1 ho
    refine lv_iconst (v := (0 : Int32)) hx hb dX3_hire_9 (by decide) ?_
    cases ho
    exact rtZ C0.1 hW (Or.inl (rfl : (0 : Int32) = 0)) dX3_hire_10
noncomputable def x11_patrol (t : St) : Option (Int32 × St) :=
  (x3_hire t).bind (fun q1 => if q1.1 = 0 then (some ((-4 : Int32), q1.2)) else (some (((gI q1.2 302) - (1 : Int32)), q1.2)))
theorem mm_x11_patrol (t : St) : MR (x11_patrol t) t (fun (a : Int32 × St) => a.2) := by
  unfold x11_patrol
  exact MR_bind (mm_x3_hire t) (fun q1 hq1 => MR_ite (MR_some hq1) (MR_some hq1))
set_option maxHeartbeats 4000000 in
set_option maxRecDepth 100000 in
theorem c_x11_patrol (l : Launch) {D : va_G} {cI cJ cZ cR : ClassId} {am gm : Nat → Nat} {st : Nat} (sz : Nat) (t : St) {r : Int32} {t' : St} (ho : x11_patrol t = some (r, t')) : Met l yX11_patrol (.code yX11_patrol cX11_patrol 1 (some .int) :: wsAll) (rmN 2 43) (va_Pc [.ref (am 2011)] (prX D (tyX cI cJ cZ cR) (wX cI cJ cZ cR am gm t) sz st)) (qI r D (tyX cI cJ cZ cR) (wX cI cJ cZ cR am gm t') (va_A (wX cI cJ cZ cR am gm t) sz)) 0 0 (va_A (wX cI cJ cZ cR am gm t) sz) := by
  refine Met.ofW (cc := cX11_patrol) (maxL := 1) (ret := (some .int)) (by decide) rfl ?_
  intro p e s m args below meth c s₁ B hml hv
  obtain ⟨rfl, ⟨hsz, hP, hK, hD0⟩, hsx⟩ := hv
  have hx := B.exec
  have hb := B.bytes
  have hts := atoms_spec (ws := (.code yX11_patrol cX11_patrol 1 (some .int) :: wsAll)) B.pre
  have hta := fun w h => hts w (List.mem_cons_of_mem _ h)
  have hown : s.vm.findClass RX11 = some m.cls := findClass_of_methodNamed B.named
  have hlocks := B.notSynchronized
  subst hsz
  have hD := hD0.self (sz := s.heap.size)
  generalize hAe : va_A (wX cI cJ cZ cR am gm t) s.heap.size = A at hD ⊢
  have hA : ∀ q : Nat, s.heap.size ≤ q → A q := fun q h => by rw [← hAe]; exact Or.inr h
  have C0 : cxX p s m ([.ref (am 2011)].toArray) meth c cX11_patrol RX11 1 (some .int) D (tyX cI cJ cZ cR) st A := ⟨⟨hx, hb, B.returns, hml, hown, hta, hlocks, hK, hA⟩, by rw [← hAe]; exact hsx⟩
  have hW : wl D A s (wX cI cJ cZ cR am gm t) s.heap [] := ⟨hP, hD, va_S.rf⟩
  have hl := lv_entry [.ref (am 2011)] (n := 1) (Nat.le_of_ble_eq_true rfl)
  rw [lg_entry_eq]
  generalize (lg_sl [.ref (am 2011)] ++ List.replicate (1 - (lg_sl [.ref (am 2011)]).length) Slot.unset).toArray = ls at hl ⊢
  have hl : lv_has ls 1 [(0, .ref (am 2011))] := hl
  unfold x11_patrol at ho
  refine lv_aload_n hx hb dX11_patrol_0 rfl (lv_at hl 0 rfl) ?_
  refine xGET_1108 C0 kw_599 hW dX11_patrol_1 ?_
  obtain ⟨q1, hc2, ho⟩ := bd_some ho
  refine bkZ C0.1 hW (runVX (As := []) (rest := []) C0 hW (c_x3_hire l _ t (r := q1.1) (t' := q1.2) hc2) cb_X11_X3_hire_277 3 3 rfl rfl rfl rfl rfl ⟨rfl, rfl⟩ ⟨Nat.le_of_ble_eq_true rfl, Nat.le_of_ble_eq_true rfl⟩ (Nat.le_of_ble_eq_true rfl) hl.1 dX11_patrol_4 ⟨Nat.le_of_ble_eq_true rfl, Nat.le_of_ble_eq_true rfl⟩) (fun z3 H locs hW => ?_)
  refine lv_if_eq (tgt := 22) hx hb dX11_patrol_7 (by decide) (fun c4 => ?_) (fun c4 => ?_)
  · replace ho := ite_t c4 ho
    refine lv_bipush (v := (-4 : Int32)) hx hb dX11_patrol_22 (by decide) ?_
    cases ho
    exact rtI C0.1 hW dX11_patrol_24
  · replace ho := ite_f c4 ho
    refine lv_aload_n hx hb dX11_patrol_10 rfl (lv_at hl 0 rfl) ?_
    refine xGET_1108 C0 kw_599 hW dX11_patrol_11 ?_
    refine xGET_302 C0 kw_493 hW dX11_patrol_14 ?_
    refine lv_iconst (v := (1 : Int32)) hx hb dX11_patrol_17 (by decide) ?_
    refine lv_isub hx hb dX11_patrol_18 ?_
    refine lv_goto (tgt := 24) hx hb dX11_patrol_19 (by decide) ?_
    cases ho
    exact rtI C0.1 hW dX11_patrol_24
noncomputable def x3_catchOf (t : St) (a1 : Int32) (a2 : Int32) : Option (Int32) :=
  gd ((a1 * (16 : Int32)) + a2) (gN t 301) (some (gA t 301 (((a1 * (16 : Int32)) + a2)).toNatClampNeg))
set_option maxHeartbeats 4000000 in
set_option maxRecDepth 100000 in
theorem c_x3_catchOf (l : Launch) {D : va_G} {cI cJ cZ cR : ClassId} {am gm : Nat → Nat} {st : Nat} (sz : Nat) (t : St) (a1 : Int32) (a2 : Int32) {r : Int32} (ho : x3_catchOf t a1 a2 = some r) : Met l yX3_catchOf (.code yX3_catchOf cX3_catchOf 3 (some .int) :: wsAll) (rmN 0 0) (va_Pc [.ref (am 2003), .int a1, .int a2] (prX D (tyX cI cJ cZ cR) (wX cI cJ cZ cR am gm t) sz st)) (qI r D (tyX cI cJ cZ cR) (wX cI cJ cZ cR am gm t) (va_A (wX cI cJ cZ cR am gm t) sz)) 0 0 (va_A (wX cI cJ cZ cR am gm t) sz) := by
  refine Met.ofW (cc := cX3_catchOf) (maxL := 3) (ret := (some .int)) (by decide) rfl ?_
  intro p e s m args below meth c s₁ B hml hv
  obtain ⟨rfl, ⟨hsz, hP, hK, hD0⟩, hsx⟩ := hv
  have hx := B.exec
  have hb := B.bytes
  have hts := atoms_spec (ws := (.code yX3_catchOf cX3_catchOf 3 (some .int) :: wsAll)) B.pre
  have hta := fun w h => hts w (List.mem_cons_of_mem _ h)
  have hown : s.vm.findClass RX3 = some m.cls := findClass_of_methodNamed B.named
  have hlocks := B.notSynchronized
  subst hsz
  have hD := hD0.self (sz := s.heap.size)
  generalize hAe : va_A (wX cI cJ cZ cR am gm t) s.heap.size = A at hD ⊢
  have hA : ∀ q : Nat, s.heap.size ≤ q → A q := fun q h => by rw [← hAe]; exact Or.inr h
  have C0 : cxX p s m ([.ref (am 2003), .int a1, .int a2].toArray) meth c cX3_catchOf RX3 3 (some .int) D (tyX cI cJ cZ cR) st A := ⟨⟨hx, hb, B.returns, hml, hown, hta, hlocks, hK, hA⟩, by rw [← hAe]; exact hsx⟩
  have hW : wl D A s (wX cI cJ cZ cR am gm t) s.heap [] := ⟨hP, hD, va_S.rf⟩
  have hl := lv_entry [.ref (am 2003), .int a1, .int a2] (n := 3) (Nat.le_of_ble_eq_true rfl)
  rw [lg_entry_eq]
  generalize (lg_sl [.ref (am 2003), .int a1, .int a2] ++ List.replicate (3 - (lg_sl [.ref (am 2003), .int a1, .int a2]).length) Slot.unset).toArray = ls at hl ⊢
  have hl : lv_has ls 3 [(0, .ref (am 2003)), (1, .int a1), (2, .int a2)] := hl
  unfold x3_catchOf at ho
  refine lv_aload_n hx hb dX3_catchOf_0 rfl (lv_at hl 0 rfl) ?_
  refine xGET_301 C0 kw_491 hW dX3_catchOf_1 ?_
  refine lv_iload_n hx hb dX3_catchOf_4 rfl (lv_at hl 1 rfl) ?_
  refine lv_bipush (v := (16 : Int32)) hx hb dX3_catchOf_5 (by decide) ?_
  refine lv_imul hx hb dX3_catchOf_7 ?_
  refine lv_iload_n hx hb dX3_catchOf_8 rfl (lv_at hl 2 rfl) ?_
  refine lv_iadd hx hb dX3_catchOf_9 ?_
  obtain ⟨g1, ho⟩ := gd_some ho
  refine xLD_301 C0 hW g1 dX3_catchOf_10 ?_
  cases ho
  exact rtI C0.1 hW dX3_catchOf_11
noncomputable def x3_putCatch (t : St) (a1 : Int32) (a2 : Int32) (a3 : Int32) : Option (St) :=
  gd ((a1 * (16 : Int32)) + a2) (gN t 301) (nm (sA t 301 ((a1 * (16 : Int32)) + a2) a3) (fun t2 : St => some t2))
theorem mm_x3_putCatch (t : St) (a1 : Int32) (a2 : Int32) (a3 : Int32) : MR (x3_putCatch t a1 a2 a3) t (fun (a : St) => a) := by
  unfold x3_putCatch
  exact MR_gd (MR_nmS mle_sA (fun t2 ht2 => MR_some ht2))
set_option maxHeartbeats 4000000 in
set_option maxRecDepth 100000 in
theorem c_x3_putCatch (l : Launch) {D : va_G} {cI cJ cZ cR : ClassId} {am gm : Nat → Nat} {st : Nat} (sz : Nat) (t : St) (a1 : Int32) (a2 : Int32) (a3 : Int32) {t' : St} (ho : x3_putCatch t a1 a2 a3 = some t') : Met l yX3_putCatch (.code yX3_putCatch cX3_putCatch 4 none :: wsAll) (rmN 0 0) (va_Pc [.ref (am 2003), .int a1, .int a2, .int a3] (prX D (tyX cI cJ cZ cR) (wX cI cJ cZ cR am gm t) sz st)) (qV D (tyX cI cJ cZ cR) (wX cI cJ cZ cR am gm t') (va_A (wX cI cJ cZ cR am gm t) sz)) 0 0 (va_A (wX cI cJ cZ cR am gm t) sz) := by
  refine Met.ofW (cc := cX3_putCatch) (maxL := 4) (ret := none) (by decide) rfl ?_
  intro p e s m args below meth c s₁ B hml hv
  obtain ⟨rfl, ⟨hsz, hP, hK, hD0⟩, hsx⟩ := hv
  have hx := B.exec
  have hb := B.bytes
  have hts := atoms_spec (ws := (.code yX3_putCatch cX3_putCatch 4 none :: wsAll)) B.pre
  have hta := fun w h => hts w (List.mem_cons_of_mem _ h)
  have hown : s.vm.findClass RX3 = some m.cls := findClass_of_methodNamed B.named
  have hlocks := B.notSynchronized
  subst hsz
  have hD := hD0.self (sz := s.heap.size)
  generalize hAe : va_A (wX cI cJ cZ cR am gm t) s.heap.size = A at hD ⊢
  have hA : ∀ q : Nat, s.heap.size ≤ q → A q := fun q h => by rw [← hAe]; exact Or.inr h
  have C0 : cxX p s m ([.ref (am 2003), .int a1, .int a2, .int a3].toArray) meth c cX3_putCatch RX3 4 none D (tyX cI cJ cZ cR) st A := ⟨⟨hx, hb, B.returns, hml, hown, hta, hlocks, hK, hA⟩, by rw [← hAe]; exact hsx⟩
  have hW : wl D A s (wX cI cJ cZ cR am gm t) s.heap [] := ⟨hP, hD, va_S.rf⟩
  have hl := lv_entry [.ref (am 2003), .int a1, .int a2, .int a3] (n := 4) (Nat.le_of_ble_eq_true rfl)
  rw [lg_entry_eq]
  generalize (lg_sl [.ref (am 2003), .int a1, .int a2, .int a3] ++ List.replicate (4 - (lg_sl [.ref (am 2003), .int a1, .int a2, .int a3]).length) Slot.unset).toArray = ls at hl ⊢
  have hl : lv_has ls 4 [(0, .ref (am 2003)), (1, .int a1), (2, .int a2), (3, .int a3)] := hl
  unfold x3_putCatch at ho
  refine lv_aload_n hx hb dX3_putCatch_0 rfl (lv_at hl 0 rfl) ?_
  refine xGET_301 C0 kw_491 hW dX3_putCatch_1 ?_
  refine lv_iload_n hx hb dX3_putCatch_4 rfl (lv_at hl 1 rfl) ?_
  refine lv_bipush (v := (16 : Int32)) hx hb dX3_putCatch_5 (by decide) ?_
  refine lv_imul hx hb dX3_putCatch_7 ?_
  refine lv_iload_n hx hb dX3_putCatch_8 rfl (lv_at hl 2 rfl) ?_
  refine lv_iadd hx hb dX3_putCatch_9 ?_
  refine lv_iload_n hx hb dX3_putCatch_10 rfl (lv_at hl 3 rfl) ?_
  obtain ⟨g1, ho⟩ := gd_some ho
  refine xST_301 C0 hW g1 dX3_putCatch_11 (fun H locs hW => ?_)
  obtain ⟨t2, ho, hW⟩ := nm_w (P := fun t => wl D A s (wX cI cJ cZ cR am gm t) H locs) ho hW
  cases ho
  exact rtV C0.1 hW dX3_putCatch_12
noncomputable def x11_catches (t : St) (a1 : Int32) (a2 : Int32) (a3 : Int32) : Option (Int32 × St) :=
  (x11_outside t a1 (0 : Int32) ((gI t 302) - (1 : Int32))).bind (fun q1 => if q1 = 0 then ((x11_noStep t a2).bind (fun q5 => if q5 = 0 then ((x11_outside t a3 (0 : Int32) (1000 : Int32)).bind (fun q9 => if q9 = 0 then ((x3_catchOf t a1 a2).bind (fun q13 => (x3_putCatch t a1 a2 a3).bind (fun q15 => some (q13, q15)))) else (some ((-2 : Int32), t)))) else (some ((-2 : Int32), t)))) else (some ((-2 : Int32), t)))
theorem mm_x11_catches (t : St) (a1 : Int32) (a2 : Int32) (a3 : Int32) : MR (x11_catches t a1 a2 a3) t (fun (a : Int32 × St) => a.2) := by
  unfold x11_catches
  exact MR_bindn (fun q1 => MR_ite (MR_bindn (fun q5 => MR_ite (MR_bindn (fun q9 => MR_ite (MR_bindn (fun q13 => MR_bind (mm_x3_putCatch t a1 a2 a3) (fun q15 hq15 => MR_some hq15))) (MR_some mle.rfl))) (MR_some mle.rfl))) (MR_some mle.rfl))
set_option maxHeartbeats 4000000 in
set_option maxRecDepth 100000 in
theorem c_x11_catches (l : Launch) {D : va_G} {cI cJ cZ cR : ClassId} {am gm : Nat → Nat} {st : Nat} (sz : Nat) (t : St) (a1 : Int32) (a2 : Int32) (a3 : Int32) {r : Int32} {t' : St} (ho : x11_catches t a1 a2 a3 = some (r, t')) : Met l yX11_catches (.code yX11_catches cX11_catches 5 (some .int) :: wsAll) (rmN 2 42) (va_Pc [.ref (am 2011), .int a1, .int a2, .int a3] (prX D (tyX cI cJ cZ cR) (wX cI cJ cZ cR am gm t) sz st)) (qI r D (tyX cI cJ cZ cR) (wX cI cJ cZ cR am gm t') (va_A (wX cI cJ cZ cR am gm t) sz)) 0 0 (va_A (wX cI cJ cZ cR am gm t) sz) := by
  refine Met.ofW (cc := cX11_catches) (maxL := 5) (ret := (some .int)) (by decide) rfl ?_
  intro p e s m args below meth c s₁ B hml hv
  obtain ⟨rfl, ⟨hsz, hP, hK, hD0⟩, hsx⟩ := hv
  have hx := B.exec
  have hb := B.bytes
  have hts := atoms_spec (ws := (.code yX11_catches cX11_catches 5 (some .int) :: wsAll)) B.pre
  have hta := fun w h => hts w (List.mem_cons_of_mem _ h)
  have hown : s.vm.findClass RX11 = some m.cls := findClass_of_methodNamed B.named
  have hlocks := B.notSynchronized
  subst hsz
  have hD := hD0.self (sz := s.heap.size)
  generalize hAe : va_A (wX cI cJ cZ cR am gm t) s.heap.size = A at hD ⊢
  have hA : ∀ q : Nat, s.heap.size ≤ q → A q := fun q h => by rw [← hAe]; exact Or.inr h
  have C0 : cxX p s m ([.ref (am 2011), .int a1, .int a2, .int a3].toArray) meth c cX11_catches RX11 5 (some .int) D (tyX cI cJ cZ cR) st A := ⟨⟨hx, hb, B.returns, hml, hown, hta, hlocks, hK, hA⟩, by rw [← hAe]; exact hsx⟩
  have hW : wl D A s (wX cI cJ cZ cR am gm t) s.heap [] := ⟨hP, hD, va_S.rf⟩
  have hl := lv_entry [.ref (am 2011), .int a1, .int a2, .int a3] (n := 5) (Nat.le_of_ble_eq_true rfl)
  rw [lg_entry_eq]
  generalize (lg_sl [.ref (am 2011), .int a1, .int a2, .int a3] ++ List.replicate (5 - (lg_sl [.ref (am 2011), .int a1, .int a2, .int a3]).length) Slot.unset).toArray = ls at hl ⊢
  have hl : lv_has ls 5 [(0, .ref (am 2011)), (1, .int a1), (2, .int a2), (3, .int a3)] := hl
  unfold x11_catches at ho
  refine lv_iload_n hx hb dX11_catches_0 rfl (lv_at hl 1 rfl) ?_
  refine lv_iconst (v := (0 : Int32)) hx hb dX11_catches_1 (by decide) ?_
  refine lv_aload_n hx hb dX11_catches_2 rfl (lv_at hl 0 rfl) ?_
  refine xGET_1108 C0 kw_599 hW dX11_catches_3 ?_
  refine xGET_302 C0 kw_493 hW dX11_catches_6 ?_
  refine lv_iconst (v := (1 : Int32)) hx hb dX11_catches_9 (by decide) ?_
  refine lv_isub hx hb dX11_catches_10 ?_
  obtain ⟨q1, hc2, ho⟩ := bd_some ho
  refine bkZ C0.1 hW (runSX (As := [.int a1, .int (0 : Int32), .int ((gI t 302) - (1 : Int32))]) (rest := []) C0 hW (c_x11_outside l _ t a1 (0 : Int32) ((gI t 302) - (1 : Int32)) (r := q1) hc2) cb_X11_X11_outside_102 rfl rfl ⟨rfl, rfl⟩ ⟨Nat.le_of_ble_eq_true rfl, Nat.le_of_ble_eq_true rfl⟩ (Nat.le_of_ble_eq_true rfl) hl.1 dX11_catches_11 ⟨Nat.le_of_ble_eq_true rfl, Nat.le_of_ble_eq_true rfl⟩) (fun z3 H locs hW => ?_)
  refine lv_if_ne (tgt := 35) hx hb dX11_catches_14 (by decide) (fun c4 => ?_) (fun c4 => ?_)
  · replace ho := ite_f c4 ho
    refine lv_bipush (v := (-2 : Int32)) hx hb dX11_catches_35 (by decide) ?_
    cases ho
    exact rtI C0.1 hW dX11_catches_37
  · replace ho := ite_t c4 ho
    refine lv_iload_n hx hb dX11_catches_17 rfl (lv_at hl 2 rfl) ?_
    obtain ⟨q5, hc6, ho⟩ := bd_some ho
    refine bkZ C0.1 hW (runSX (As := [.int a2]) (rest := []) C0 hW (c_x11_noStep l _ t a2 (r := q5) hc6) cb_X11_X11_noStep_98 rfl rfl ⟨rfl, rfl⟩ ⟨Nat.le_of_ble_eq_true rfl, Nat.le_of_ble_eq_true rfl⟩ (Nat.le_of_ble_eq_true rfl) hl.1 dX11_catches_18 ⟨Nat.le_of_ble_eq_true rfl, Nat.le_of_ble_eq_true rfl⟩) (fun z7 H locs hW => ?_)
    refine lv_if_ne (tgt := 35) hx hb dX11_catches_21 (by decide) (fun c8 => ?_) (fun c8 => ?_)
    · replace ho := ite_f c8 ho
      refine lv_bipush (v := (-2 : Int32)) hx hb dX11_catches_35 (by decide) ?_
      cases ho
      exact rtI C0.1 hW dX11_catches_37
    · replace ho := ite_t c8 ho
      refine lv_iload_n hx hb dX11_catches_24 rfl (lv_at hl 3 rfl) ?_
      refine lv_iconst (v := (0 : Int32)) hx hb dX11_catches_25 (by decide) ?_
      refine lv_sipush (v := (1000 : Int32)) hx hb dX11_catches_26 (by decide) ?_
      obtain ⟨q9, hc10, ho⟩ := bd_some ho
      refine bkZ C0.1 hW (runSX (As := [.int a3, .int (0 : Int32), .int (1000 : Int32)]) (rest := []) C0 hW (c_x11_outside l _ t a3 (0 : Int32) (1000 : Int32) (r := q9) hc10) cb_X11_X11_outside_102 rfl rfl ⟨rfl, rfl⟩ ⟨Nat.le_of_ble_eq_true rfl, Nat.le_of_ble_eq_true rfl⟩ (Nat.le_of_ble_eq_true rfl) hl.1 dX11_catches_29 ⟨Nat.le_of_ble_eq_true rfl, Nat.le_of_ble_eq_true rfl⟩) (fun z11 H locs hW => ?_)
      refine lv_if_eq (tgt := 38) hx hb dX11_catches_32 (by decide) (fun c12 => ?_) (fun c12 => ?_)
      · replace ho := ite_t c12 ho
        refine lv_aload_n hx hb dX11_catches_38 rfl (lv_at hl 0 rfl) ?_
        refine xGET_1108 C0 kw_599 hW dX11_catches_39 ?_
        refine lv_iload_n hx hb dX11_catches_42 rfl (lv_at hl 1 rfl) ?_
        refine lv_iload_n hx hb dX11_catches_43 rfl (lv_at hl 2 rfl) ?_
        obtain ⟨q13, hc14, ho⟩ := bd_some ho
        refine bkI C0.1 hW (runVX (As := [.int a1, .int a2]) (rest := []) C0 hW (c_x3_catchOf l _ t a1 a2 (r := q13) hc14) cb_X11_X3_catchOf_280 3 3 rfl rfl rfl rfl rfl ⟨rfl, rfl⟩ ⟨Nat.le_of_ble_eq_true rfl, Nat.le_of_ble_eq_true rfl⟩ (Nat.le_of_ble_eq_true rfl) hl.1 dX11_catches_44 ⟨Nat.le_of_ble_eq_true rfl, Nat.le_of_ble_eq_true rfl⟩) (fun H locs hW => ?_)
        refine lv_istore (lv' := [(4, .int q13), (0, .ref (am 2011)), (1, .int a1), (2, .int a2), (3, .int a3)]) hx hb dX11_catches_47 hl (by decide) rfl (fun ls hl => ?_)
        refine lv_aload_n hx hb dX11_catches_49 rfl (lv_at hl 1 rfl) ?_
        refine xGET_1108 C0 kw_599 hW dX11_catches_50 ?_
        refine lv_iload_n hx hb dX11_catches_53 rfl (lv_at hl 2 rfl) ?_
        refine lv_iload_n hx hb dX11_catches_54 rfl (lv_at hl 3 rfl) ?_
        refine lv_iload_n hx hb dX11_catches_55 rfl (lv_at hl 4 rfl) ?_
        obtain ⟨q15, hc16, ho⟩ := bd_some ho
        refine bkV C0.1 hW (runVX (As := [.int a1, .int a2, .int a3]) (rest := []) C0 hW (c_x3_putCatch l _ t a1 a2 a3 (t' := q15) hc16) cb_X11_X3_putCatch_283 3 3 rfl rfl rfl rfl rfl ⟨rfl, rfl⟩ ⟨Nat.le_of_ble_eq_true rfl, Nat.le_of_ble_eq_true rfl⟩ (Nat.le_of_ble_eq_true rfl) hl.1 dX11_catches_56 ⟨Nat.le_of_ble_eq_true rfl, Nat.le_of_ble_eq_true rfl⟩) (fun H locs hW => ?_)
        refine lv_iload hx hb dX11_catches_59 (lv_at hl 0 rfl) ?_
        cases ho
        exact rtI C0.1 hW dX11_catches_61
      · replace ho := ite_f c12 ho
        refine lv_bipush (v := (-2 : Int32)) hx hb dX11_catches_35 (by decide) ?_
        cases ho
        exact rtI C0.1 hW dX11_catches_37
noncomputable def x3_greatestCatch_B5 (t : St) (v1 : Int32) (v2 : Int32) (v3 : Int32) (v4 : Int32) : Option ((Int32 × Int32) ⊕ (Int32)) :=
  if (16 : Int32) ≤ v4 then (some (.inr v3)) else (if ((v2 >>> (v4 &&& 31)) &&& (1 : Int32)) = (1 : Int32) then ((x3_catchOf t v1 v4).bind (fun q4 => nm (if v3 < q4 then q4 else v3) (fun x6 : Int32 => nm (v4 + (1 : Int32)) (fun x7 : Int32 => some (.inl (x6, x7)))))) else (nm (v4 + (1 : Int32)) (fun x3 : Int32 => some (.inl (v3, x3)))))
noncomputable def x3_greatestCatch (t : St) (a1 : Int32) (a2 : Int32) : Option (Int32) :=
  (lp (fun x => x3_greatestCatch_B5 t a1 a2 x.1 x.2) ((0 : Int32), (0 : Int32))).bind (fun y8 => some y8)
set_option maxHeartbeats 4000000 in
set_option maxRecDepth 100000 in
theorem x3_greatestCatch_L5 {p : Program} {l : Launch} {e : Env} {s : State} {m : MethodId} {args : Array Value} {below : List Frame} {meth : Method} {c : Code} {Q : State → Prop} {D : va_G} {cI cJ cZ cR : ClassId} {am gm : Nat → Nat} {st : Nat} {A : Nat → Prop} (C0 : cxX p s m args meth c cX3_greatestCatch RX3 5 (some .int) D (tyX cI cJ cZ cR) st A) {t : St} {v1 : Int32} {v2 : Int32} {y : Int32} (hK0 : ∀ (H : Heap) (locs : List Loc) (ls : Array Slot), wl D A s (wX cI cJ cZ cR am gm t) H locs → lv_has ls 5 [(0, .ref (am 2003)), (3, .int y)] → W p l e (rmN 1 22) s m args below meth c H locs 0 0 Q (F0 m 40 ls [])) :
    ∀ (n : Nat) (v3 : Int32) (v4 : Int32), lpn (fun x => x3_greatestCatch_B5 t v1 v2 x.1 x.2) n (v3, v4) = some y → ∀ (H : Heap) (locs : List Loc) (ls : Array Slot), wl D A s (wX cI cJ cZ cR am gm t) H locs → lv_has ls 5 [(0, .ref (am 2003)), (1, .int v1), (2, .int v2), (3, .int v3), (4, .int v4)] → W p l e (rmN 1 22) s m args below meth c H locs 0 0 Q (F0 m 5 ls []) := by
  have hx := C0.1.1
  have hb := C0.1.2.1
  have hta := C0.1.2.2.2.2.2.1
  have hown := C0.1.2.2.2.2.1
  intro n
  induction n with
  | zero => intro _ _ h; cases h
  | succ n ih =>
    intro v3 v4 hrun H locs ls hW hl
    obtain ⟨o, ho, hrun⟩ := bd_some hrun
    unfold x3_greatestCatch_B5 at ho
    refine lv_iload hx hb dX3_greatestCatch_5 (lv_at hl 4 rfl) ?_
    refine lv_bipush (v := (16 : Int32)) hx hb dX3_greatestCatch_7 (by decide) ?_
    refine lv_icmp_ge (tgt := 40) hx hb dX3_greatestCatch_9 (by decide) (fun c1 => ?_) (fun c1 => ?_)
    · replace ho := ite_t c1 ho
      cases ho
      cases hrun
      exact hK0 _ _ _ hW (lv_sub hl [0, 3] rfl)
    · replace ho := ite_f c1 ho
      refine lv_iload_n hx hb dX3_greatestCatch_12 rfl (lv_at hl 2 rfl) ?_
      refine lv_iload hx hb dX3_greatestCatch_13 (lv_at hl 4 rfl) ?_
      refine lv_ishr hx hb dX3_greatestCatch_15 ?_
      refine lv_iconst (v := (1 : Int32)) hx hb dX3_greatestCatch_16 (by decide) ?_
      refine lv_iand hx hb dX3_greatestCatch_17 ?_
      refine lv_iconst (v := (1 : Int32)) hx hb dX3_greatestCatch_18 (by decide) ?_
      refine lv_icmp_ne (tgt := 34) hx hb dX3_greatestCatch_19 (by decide) (fun c2 => ?_) (fun c2 => ?_)
      · replace ho := ite_f c2 ho
        obtain ⟨x3, ex3, ho⟩ := nm_x ho
        refine lv_iinc (v := x3) (lv' := [(4, .int x3), (0, .ref (am 2003)), (1, .int v1), (2, .int v2), (3, .int v3)]) hx hb dX3_greatestCatch_34 hl (k := 4) rfl (by rw [ex3]; rfl) (by decide) rfl (fun ls hl => ?_)
        clear ex3
        refine lv_goto (tgt := 5) hx hb dX3_greatestCatch_37 (by decide) ?_
        cases ho
        exact ih _ _ hrun _ _ _ hW (lv_sub hl [1, 2, 3, 4, 0] rfl)
      · replace ho := ite_t c2 ho
        refine lv_iload_n hx hb dX3_greatestCatch_22 rfl (lv_at hl 3 rfl) ?_
        refine lv_aload_n hx hb dX3_greatestCatch_23 rfl (lv_at hl 0 rfl) ?_
        refine lv_iload_n hx hb dX3_greatestCatch_24 rfl (lv_at hl 1 rfl) ?_
        refine lv_iload hx hb dX3_greatestCatch_25 (lv_at hl 4 rfl) ?_
        obtain ⟨q4, hc5, ho⟩ := bd_some ho
        refine bkI C0.1 hW (runVX (As := [.int v1, .int v4]) (rest := [.int v3]) C0 hW (c_x3_catchOf l _ t v1 v4 (r := q4) hc5) cb_X3_X3_catchOf_88 3 3 rfl rfl rfl rfl rfl ⟨rfl, rfl⟩ ⟨Nat.le_of_ble_eq_true rfl, Nat.le_of_ble_eq_true rfl⟩ (Nat.le_of_ble_eq_true rfl) hl.1 dX3_greatestCatch_27 ⟨Nat.le_of_ble_eq_true rfl, Nat.le_of_ble_eq_true rfl⟩) (fun H locs hW => ?_)
        refine va_mmax (rest := []) hx hb (C0.1.2.2.2.1.trans hl.1.symm) hown (hta _ kw_1181) (hta _ kw_735) (hta _ kw_136) (hta _ kw_736) (Nat.le_of_ble_eq_true rfl) (Nat.le_of_ble_eq_true rfl) (Nat.le_of_ble_eq_true rfl) (Nat.le_of_ble_eq_true rfl) dX3_greatestCatch_30 ?_
        refine lv_nmi ho (fun x6 ho => ?_)
        refine lv_istore_n (lv' := [(3, .int x6), (0, .ref (am 2003)), (1, .int v1), (2, .int v2), (4, .int v4)]) hx hb dX3_greatestCatch_33 rfl hl (by decide) rfl (fun ls hl => ?_)
        obtain ⟨x7, ex7, ho⟩ := nm_x ho
        refine lv_iinc (v := x7) (lv' := [(4, .int x7), (3, .int x6), (0, .ref (am 2003)), (1, .int v1), (2, .int v2)]) hx hb dX3_greatestCatch_34 hl (k := 4) rfl (by rw [ex7]; rfl) (by decide) rfl (fun ls hl => ?_)
        clear ex7
        refine lv_goto (tgt := 5) hx hb dX3_greatestCatch_37 (by decide) ?_
        cases ho
        exact ih _ _ hrun _ _ _ hW (lv_sub hl [2, 3, 4, 1, 0] rfl)
set_option maxHeartbeats 4000000 in
set_option maxRecDepth 100000 in
theorem c_x3_greatestCatch (l : Launch) {D : va_G} {cI cJ cZ cR : ClassId} {am gm : Nat → Nat} {st : Nat} (sz : Nat) (t : St) (a1 : Int32) (a2 : Int32) {r : Int32} (ho : x3_greatestCatch t a1 a2 = some r) : Met l yX3_greatestCatch (.code yX3_greatestCatch cX3_greatestCatch 5 (some .int) :: wsAll) (rmN 1 22) (va_Pc [.ref (am 2003), .int a1, .int a2] (prX D (tyX cI cJ cZ cR) (wX cI cJ cZ cR am gm t) sz st)) (qI r D (tyX cI cJ cZ cR) (wX cI cJ cZ cR am gm t) (va_A (wX cI cJ cZ cR am gm t) sz)) 0 0 (va_A (wX cI cJ cZ cR am gm t) sz) := by
  refine Met.ofW (cc := cX3_greatestCatch) (maxL := 5) (ret := (some .int)) (by decide) rfl ?_
  intro p e s m args below meth c s₁ B hml hv
  obtain ⟨rfl, ⟨hsz, hP, hK, hD0⟩, hsx⟩ := hv
  have hx := B.exec
  have hb := B.bytes
  have hts := atoms_spec (ws := (.code yX3_greatestCatch cX3_greatestCatch 5 (some .int) :: wsAll)) B.pre
  have hta := fun w h => hts w (List.mem_cons_of_mem _ h)
  have hown : s.vm.findClass RX3 = some m.cls := findClass_of_methodNamed B.named
  have hlocks := B.notSynchronized
  subst hsz
  have hD := hD0.self (sz := s.heap.size)
  generalize hAe : va_A (wX cI cJ cZ cR am gm t) s.heap.size = A at hD ⊢
  have hA : ∀ q : Nat, s.heap.size ≤ q → A q := fun q h => by rw [← hAe]; exact Or.inr h
  have C0 : cxX p s m ([.ref (am 2003), .int a1, .int a2].toArray) meth c cX3_greatestCatch RX3 5 (some .int) D (tyX cI cJ cZ cR) st A := ⟨⟨hx, hb, B.returns, hml, hown, hta, hlocks, hK, hA⟩, by rw [← hAe]; exact hsx⟩
  have hW : wl D A s (wX cI cJ cZ cR am gm t) s.heap [] := ⟨hP, hD, va_S.rf⟩
  have hl := lv_entry [.ref (am 2003), .int a1, .int a2] (n := 5) (Nat.le_of_ble_eq_true rfl)
  rw [lg_entry_eq]
  generalize (lg_sl [.ref (am 2003), .int a1, .int a2] ++ List.replicate (5 - (lg_sl [.ref (am 2003), .int a1, .int a2]).length) Slot.unset).toArray = ls at hl ⊢
  have hl : lv_has ls 5 [(0, .ref (am 2003)), (1, .int a1), (2, .int a2)] := hl
  unfold x3_greatestCatch at ho
  refine lv_iconst (v := (0 : Int32)) hx hb dX3_greatestCatch_0 (by decide) ?_
  refine lv_istore_n (lv' := [(3, .int (0 : Int32)), (0, .ref (am 2003)), (1, .int a1), (2, .int a2)]) hx hb dX3_greatestCatch_1 rfl hl (by decide) rfl (fun ls hl => ?_)
  refine lv_iconst (v := (0 : Int32)) hx hb dX3_greatestCatch_2 (by decide) ?_
  refine lv_istore (lv' := [(4, .int (0 : Int32)), (3, .int (0 : Int32)), (0, .ref (am 2003)), (1, .int a1), (2, .int a2)]) hx hb dX3_greatestCatch_3 hl (by decide) rfl (fun ls hl => ?_)
  obtain ⟨y8, hc10, ho⟩ := bd_some ho
  obtain ⟨ny8, hc10⟩ := lp_to hc10
  refine x3_greatestCatch_L5 C0 ?_ ny8 _ _ hc10 _ _ _ hW (lv_sub hl [2, 3, 4, 1, 0] rfl)
  intro H locs ls hW hl
  refine lv_iload_n hx hb dX3_greatestCatch_40 rfl (lv_at hl 1 rfl) ?_
  cases ho
  exact rtI C0.1 hW dX3_greatestCatch_41
noncomputable def x3_layOut_B124 (v1 : Int32) (t : St) : Option ((Int32 × St) ⊕ (St)) :=
  if (gI t 306) ≤ v1 then (some (.inr t)) else (gd v1 (gN t 305) (nm (sA t 305 v1 v1) (fun t3 : St => gd (((gI t3 302) * (gI t3 307)) + v1) (gN t3 303) (nm (sB t3 303 (((gI t3 302) * (gI t3 307)) + v1) (-1 : Int64)) (fun t5 : St => nm (v1 + (1 : Int32)) (fun x6 : Int32 => some (.inl (x6, t5))))))))
theorem mm_x3_layOut_B124 (v1 : Int32) (t : St) : MR (x3_layOut_B124 v1 t) t (Sum.elim (fun (x : Int32 × St) => x.2) (fun (y : St) => y)) := by
  unfold x3_layOut_B124
  exact MR_ite (MR_some mle.rfl) (MR_gd (MR_nmS mle_sA (fun t3 ht3 => MR_gd (MR_nmS mle_sB (fun t5 ht5 => MR_nm (fun x6 _ => MR_some (mle.trans ht3 ht5)))))))
theorem mm_x3_layOut_L124 (v1 : Int32) (t : St) : MR (lp (fun x => x3_layOut_B124 x.1 x.2) (v1, t)) t (fun (y : St) => y) := MR_lp (p := (fun (x : Int32 × St) => x.2)) (q := (fun (y : St) => y)) (fun x => mm_x3_layOut_B124 x.1 x.2) (v1, t)
noncomputable def x3_layOut_B55 (v1 : Int32) (v2 : Int32) (t : St) : Option ((Int32 × St) ⊕ (St)) :=
  if (gI t 306) ≤ v2 then (some (.inr t)) else (gd v2 (gN t 1002) ((x3_greatestCatch t v1 (gA t 1002 (v2).toNatClampNeg)).bind (fun q9 => gd ((v1 * (gI t 307)) + v2) (gN t 303) (nm (sB t 303 ((v1 * (gI t 307)) + v2) (((1 : Int32) + q9)).toInt64) (fun t12 : St => nm (v2 + (1 : Int32)) (fun x13 : Int32 => some (.inl (x13, t12))))))))
theorem mm_x3_layOut_B55 (v1 : Int32) (v2 : Int32) (t : St) : MR (x3_layOut_B55 v1 v2 t) t (Sum.elim (fun (x : Int32 × St) => x.2) (fun (y : St) => y)) := by
  unfold x3_layOut_B55
  exact MR_ite (MR_some mle.rfl) (MR_gd (MR_bindn (fun q9 => MR_gd (MR_nmS mle_sB (fun t12 ht12 => MR_nm (fun x13 _ => MR_some ht12))))))
theorem mm_x3_layOut_L55 (v1 : Int32) (v2 : Int32) (t : St) : MR (lp (fun x => x3_layOut_B55 v1 x.1 x.2) (v2, t)) t (fun (y : St) => y) := MR_lp (p := (fun (x : Int32 × St) => x.2)) (q := (fun (y : St) => y)) (fun x => mm_x3_layOut_B55 v1 x.1 x.2) (v2, t)
noncomputable def x3_layOut_B33 (v1 : Int32) (t : St) : Option ((Int32 × St) ⊕ (St)) :=
  if (gI t 302) ≤ v1 then (some (.inr t)) else (gd v1 (gN t 304) (nm (sA t 304 v1 ((gI t 306) + v1)) (fun t16 : St => (lp (fun x => x3_layOut_B55 v1 x.1 x.2) ((0 : Int32), t16)).bind (fun y17 => gd ((v1 * (gI y17 307)) + (gI y17 306)) (gN y17 303) (nm (sB y17 303 ((v1 * (gI y17 307)) + (gI y17 306)) (1 : Int64)) (fun t21 : St => nm (v1 + (1 : Int32)) (fun x22 : Int32 => some (.inl (x22, t21)))))))))
theorem mm_x3_layOut_B33 (v1 : Int32) (t : St) : MR (x3_layOut_B33 v1 t) t (Sum.elim (fun (x : Int32 × St) => x.2) (fun (y : St) => y)) := by
  unfold x3_layOut_B33
  exact MR_ite (MR_some mle.rfl) (MR_gd (MR_nmS mle_sA (fun t16 ht16 => MR_bind (mm_x3_layOut_L55 v1 (0 : Int32) t16) (fun y17 hm18 => MR_gd (MR_nmS mle_sB (fun t21 ht21 => MR_nm (fun x22 _ => MR_some (mle.trans (mle.trans ht16 hm18) ht21))))))))
theorem mm_x3_layOut_L33 (v1 : Int32) (t : St) : MR (lp (fun x => x3_layOut_B33 x.1 x.2) (v1, t)) t (fun (y : St) => y) := MR_lp (p := (fun (x : Int32 × St) => x.2)) (q := (fun (y : St) => y)) (fun x => mm_x3_layOut_B33 x.1 x.2) (v1, t)
noncomputable def x3_layOut (t : St) : Option (St) :=
  nm (sI t 306 (if (24 : Int32) < (gI t 1004) then (24 : Int32) else (gI t 1004))) (fun t23 : St => nm (sI t23 307 ((gI t23 306) + (1 : Int32))) (fun t24 : St => nm (sJ t24 308 (1 : Int64)) (fun t25 : St => (lp (fun x => x3_layOut_B33 x.1 x.2) ((0 : Int32), t25)).bind (fun y26 => (lp (fun x => x3_layOut_B124 x.1 x.2) ((0 : Int32), y26)).bind (fun y29 => gd (((gI y29 302) * (gI y29 307)) + (gI y29 306)) (gN y29 303) (nm (sB y29 303 (((gI y29 302) * (gI y29 307)) + (gI y29 306)) (0 : Int64)) (fun t33 : St => some t33)))))))
theorem mm_x3_layOut (t : St) : MR (x3_layOut t) t (fun (a : St) => a) := by
  unfold x3_layOut
  exact MR_nmS mle_sI (fun t23 ht23 => MR_nmS mle_sI (fun t24 ht24 => MR_nmS mle_sJ (fun t25 ht25 => MR_bind (mm_x3_layOut_L33 (0 : Int32) t25) (fun y26 hm27 => MR_bind (mm_x3_layOut_L124 (0 : Int32) y26) (fun y29 hm30 => MR_gd (MR_nmS mle_sB (fun t33 ht33 => MR_some (mle.trans (mle.trans (mle.trans (mle.trans (mle.trans ht23 ht24) ht25) hm27) hm30) ht33))))))))
set_option maxHeartbeats 4000000 in
set_option maxRecDepth 100000 in
theorem x3_layOut_L124 {p : Program} {l : Launch} {e : Env} {s : State} {m : MethodId} {args : Array Value} {below : List Frame} {meth : Method} {c : Code} {Q : State → Prop} {D : va_G} {cI cJ cZ cR : ClassId} {am gm : Nat → Nat} {st : Nat} {A : Nat → Prop} (C0 : cxX p s m args meth c cX3_layOut RX3 3 none D (tyX cI cJ cZ cR) st A) {y : St} (hK0 : ∀ (H : Heap) (locs : List Loc) (ls : Array Slot), wl D A s (wX cI cJ cZ cR am gm y) H locs → lv_has ls 3 [(0, .ref (am 2003))] → W p l e (rmN 2 46) s m args below meth c H locs 0 0 Q (F0 m 164 ls [])) :
    ∀ (n : Nat) (v1 : Int32) (t : St), lpn (fun x => x3_layOut_B124 x.1 x.2) n (v1, t) = some y → ∀ (H : Heap) (locs : List Loc) (ls : Array Slot), wl D A s (wX cI cJ cZ cR am gm t) H locs → lv_has ls 3 [(0, .ref (am 2003)), (1, .int v1)] → W p l e (rmN 2 46) s m args below meth c H locs 0 0 Q (F0 m 124 ls []) := by
  have hx := C0.1.1
  have hb := C0.1.2.1
  have hta := C0.1.2.2.2.2.2.1
  have hown := C0.1.2.2.2.2.1
  intro n
  induction n with
  | zero => intro _ _ h; cases h
  | succ n ih =>
    intro v1 t hrun H locs ls hW hl
    obtain ⟨o, ho, hrun⟩ := bd_some hrun
    unfold x3_layOut_B124 at ho
    refine lv_iload_n hx hb dX3_layOut_124 rfl (lv_at hl 1 rfl) ?_
    refine lv_aload_n hx hb dX3_layOut_125 rfl (lv_at hl 0 rfl) ?_
    refine xGET_306 C0 kw_497 hW dX3_layOut_126 ?_
    refine lv_icmp_ge (tgt := 164) hx hb dX3_layOut_129 (by decide) (fun c1 => ?_) (fun c1 => ?_)
    · replace ho := ite_t c1 ho
      cases ho
      cases hrun
      exact hK0 _ _ _ hW (lv_sub hl [0] rfl)
    · replace ho := ite_f c1 ho
      refine lv_aload_n hx hb dX3_layOut_132 rfl (lv_at hl 0 rfl) ?_
      refine xGET_305 C0 kw_496 hW dX3_layOut_133 ?_
      refine lv_iload_n hx hb dX3_layOut_136 rfl (lv_at hl 1 rfl) ?_
      refine lv_iload_n hx hb dX3_layOut_137 rfl (lv_at hl 1 rfl) ?_
      obtain ⟨g2, ho⟩ := gd_some ho
      refine xST_305 C0 hW g2 dX3_layOut_138 (fun H locs hW => ?_)
      obtain ⟨t3, ho, hW⟩ := nm_w (P := fun t => wl D A s (wX cI cJ cZ cR am gm t) H locs) ho hW
      refine lv_aload_n hx hb dX3_layOut_139 rfl (lv_at hl 0 rfl) ?_
      refine xGET_303 C0 kw_494 hW dX3_layOut_140 ?_
      refine lv_aload_n hx hb dX3_layOut_143 rfl (lv_at hl 0 rfl) ?_
      refine xGET_302 C0 kw_492 hW dX3_layOut_144 ?_
      refine lv_aload_n hx hb dX3_layOut_147 rfl (lv_at hl 0 rfl) ?_
      refine xGET_307 C0 kw_498 hW dX3_layOut_148 ?_
      refine lv_imul hx hb dX3_layOut_151 ?_
      refine lv_iload_n hx hb dX3_layOut_152 rfl (lv_at hl 1 rfl) ?_
      refine lv_iadd hx hb dX3_layOut_153 ?_
      refine lv_ldc2 hx hb hown (hta _ kw_1182) dX3_layOut_154 ?_
      obtain ⟨g4, ho⟩ := gd_some ho
      refine xST_303 C0 hW g4 dX3_layOut_157 (fun H locs hW => ?_)
      obtain ⟨t5, ho, hW⟩ := nm_w (P := fun t => wl D A s (wX cI cJ cZ cR am gm t) H locs) ho hW
      obtain ⟨x6, ex6, ho⟩ := nm_x ho
      refine lv_iinc (v := x6) (lv' := [(1, .int x6), (0, .ref (am 2003))]) hx hb dX3_layOut_158 hl (k := 1) rfl (by rw [ex6]; rfl) (by decide) rfl (fun ls hl => ?_)
      clear ex6
      refine lv_goto (tgt := 124) hx hb dX3_layOut_161 (by decide) ?_
      cases ho
      exact ih _ _ hrun _ _ _ hW (lv_sub hl [1, 0] rfl)
set_option maxHeartbeats 4000000 in
set_option maxRecDepth 100000 in
theorem x3_layOut_L55 {p : Program} {l : Launch} {e : Env} {s : State} {m : MethodId} {args : Array Value} {below : List Frame} {meth : Method} {c : Code} {Q : State → Prop} {D : va_G} {cI cJ cZ cR : ClassId} {am gm : Nat → Nat} {st : Nat} {A : Nat → Prop} (C0 : cxX p s m args meth c cX3_layOut RX3 3 none D (tyX cI cJ cZ cR) st A) {v1 : Int32} {y : St} (hK0 : ∀ (H : Heap) (locs : List Loc) (ls : Array Slot), wl D A s (wX cI cJ cZ cR am gm y) H locs → lv_has ls 3 [(0, .ref (am 2003)), (1, .int v1)] → W p l e (rmN 2 46) s m args below meth c H locs 0 0 Q (F0 m 99 ls [])) :
    ∀ (n : Nat) (v2 : Int32) (t : St), lpn (fun x => x3_layOut_B55 v1 x.1 x.2) n (v2, t) = some y → ∀ (H : Heap) (locs : List Loc) (ls : Array Slot), wl D A s (wX cI cJ cZ cR am gm t) H locs → lv_has ls 3 [(0, .ref (am 2003)), (1, .int v1), (2, .int v2)] → W p l e (rmN 2 46) s m args below meth c H locs 0 0 Q (F0 m 55 ls []) := by
  have hx := C0.1.1
  have hb := C0.1.2.1
  have hta := C0.1.2.2.2.2.2.1
  have hown := C0.1.2.2.2.2.1
  intro n
  induction n with
  | zero => intro _ _ h; cases h
  | succ n ih =>
    intro v2 t hrun H locs ls hW hl
    obtain ⟨o, ho, hrun⟩ := bd_some hrun
    unfold x3_layOut_B55 at ho
    refine lv_iload_n hx hb dX3_layOut_55 rfl (lv_at hl 2 rfl) ?_
    refine lv_aload_n hx hb dX3_layOut_56 rfl (lv_at hl 0 rfl) ?_
    refine xGET_306 C0 kw_497 hW dX3_layOut_57 ?_
    refine lv_icmp_ge (tgt := 99) hx hb dX3_layOut_60 (by decide) (fun c7 => ?_) (fun c7 => ?_)
    · replace ho := ite_t c7 ho
      cases ho
      cases hrun
      exact hK0 _ _ _ hW (lv_sub hl [0, 1] rfl)
    · replace ho := ite_f c7 ho
      refine lv_aload_n hx hb dX3_layOut_63 rfl (lv_at hl 0 rfl) ?_
      refine xGET_303 C0 kw_494 hW dX3_layOut_64 ?_
      refine lv_iload_n hx hb dX3_layOut_67 rfl (lv_at hl 1 rfl) ?_
      refine lv_aload_n hx hb dX3_layOut_68 rfl (lv_at hl 0 rfl) ?_
      refine xGET_307 C0 kw_498 hW dX3_layOut_69 ?_
      refine lv_imul hx hb dX3_layOut_72 ?_
      refine lv_iload_n hx hb dX3_layOut_73 rfl (lv_at hl 2 rfl) ?_
      refine lv_iadd hx hb dX3_layOut_74 ?_
      refine lv_iconst (v := (1 : Int32)) hx hb dX3_layOut_75 (by decide) ?_
      refine lv_aload_n hx hb dX3_layOut_76 rfl (lv_at hl 0 rfl) ?_
      refine lv_iload_n hx hb dX3_layOut_77 rfl (lv_at hl 1 rfl) ?_
      refine lv_aload_n hx hb dX3_layOut_78 rfl (lv_at hl 0 rfl) ?_
      refine xGET_300 C0 kw_490 hW dX3_layOut_79 ?_
      refine xGET_1002 C0 kw_333 hW dX3_layOut_82 ?_
      refine lv_iload_n hx hb dX3_layOut_85 rfl (lv_at hl 2 rfl) ?_
      obtain ⟨g8, ho⟩ := gd_some ho
      refine xLD_1002 C0 hW g8 dX3_layOut_86 ?_
      obtain ⟨q9, hc10, ho⟩ := bd_some ho
      refine bkI C0.1 hW (runVX (As := [.int v1, .int (gA t 1002 (v2).toNatClampNeg)]) (rest := [.int (1 : Int32), .int ((v1 * (gI t 307)) + v2), .ref (am 303)]) C0 hW (c_x3_greatestCatch l _ t v1 (gA t 1002 (v2).toNatClampNeg) (r := q9) hc10) cb_X3_X3_greatestCatch_83 3 3 rfl rfl rfl rfl rfl ⟨rfl, rfl⟩ ⟨Nat.le_of_ble_eq_true rfl, Nat.le_of_ble_eq_true rfl⟩ (Nat.le_of_ble_eq_true rfl) hl.1 dX3_layOut_87 ⟨Nat.le_of_ble_eq_true rfl, Nat.le_of_ble_eq_true rfl⟩) (fun H locs hW => ?_)
      refine lv_iadd hx hb dX3_layOut_90 ?_
      refine lv_i2l hx hb dX3_layOut_91 rfl ?_
      obtain ⟨g11, ho⟩ := gd_some ho
      refine xST_303 C0 hW g11 dX3_layOut_92 (fun H locs hW => ?_)
      obtain ⟨t12, ho, hW⟩ := nm_w (P := fun t => wl D A s (wX cI cJ cZ cR am gm t) H locs) ho hW
      obtain ⟨x13, ex13, ho⟩ := nm_x ho
      refine lv_iinc (v := x13) (lv' := [(2, .int x13), (0, .ref (am 2003)), (1, .int v1)]) hx hb dX3_layOut_93 hl (k := 2) rfl (by rw [ex13]; rfl) (by decide) rfl (fun ls hl => ?_)
      clear ex13
      refine lv_goto (tgt := 55) hx hb dX3_layOut_96 (by decide) ?_
      cases ho
      exact ih _ _ hrun _ _ _ hW (lv_sub hl [1, 2, 0] rfl)
set_option maxHeartbeats 4000000 in
set_option maxRecDepth 100000 in
theorem x3_layOut_L33 {p : Program} {l : Launch} {e : Env} {s : State} {m : MethodId} {args : Array Value} {below : List Frame} {meth : Method} {c : Code} {Q : State → Prop} {D : va_G} {cI cJ cZ cR : ClassId} {am gm : Nat → Nat} {st : Nat} {A : Nat → Prop} (C0 : cxX p s m args meth c cX3_layOut RX3 3 none D (tyX cI cJ cZ cR) st A) {y : St} (hK0 : ∀ (H : Heap) (locs : List Loc) (ls : Array Slot), wl D A s (wX cI cJ cZ cR am gm y) H locs → lv_has ls 3 [(0, .ref (am 2003))] → W p l e (rmN 2 46) s m args below meth c H locs 0 0 Q (F0 m 122 ls [])) :
    ∀ (n : Nat) (v1 : Int32) (t : St), lpn (fun x => x3_layOut_B33 x.1 x.2) n (v1, t) = some y → ∀ (H : Heap) (locs : List Loc) (ls : Array Slot), wl D A s (wX cI cJ cZ cR am gm t) H locs → lv_has ls 3 [(0, .ref (am 2003)), (1, .int v1)] → W p l e (rmN 2 46) s m args below meth c H locs 0 0 Q (F0 m 33 ls []) := by
  have hx := C0.1.1
  have hb := C0.1.2.1
  have hta := C0.1.2.2.2.2.2.1
  have hown := C0.1.2.2.2.2.1
  intro n
  induction n with
  | zero => intro _ _ h; cases h
  | succ n ih =>
    intro v1 t hrun H locs ls hW hl
    obtain ⟨o, ho, hrun⟩ := bd_some hrun
    unfold x3_layOut_B33 at ho
    refine lv_iload_n hx hb dX3_layOut_33 rfl (lv_at hl 1 rfl) ?_
    refine lv_aload_n hx hb dX3_layOut_34 rfl (lv_at hl 0 rfl) ?_
    refine xGET_302 C0 kw_492 hW dX3_layOut_35 ?_
    refine lv_icmp_ge (tgt := 122) hx hb dX3_layOut_38 (by decide) (fun c14 => ?_) (fun c14 => ?_)
    · replace ho := ite_t c14 ho
      cases ho
      cases hrun
      exact hK0 _ _ _ hW (lv_sub hl [0] rfl)
    · replace ho := ite_f c14 ho
      refine lv_aload_n hx hb dX3_layOut_41 rfl (lv_at hl 0 rfl) ?_
      refine xGET_304 C0 kw_495 hW dX3_layOut_42 ?_
      refine lv_iload_n hx hb dX3_layOut_45 rfl (lv_at hl 1 rfl) ?_
      refine lv_aload_n hx hb dX3_layOut_46 rfl (lv_at hl 0 rfl) ?_
      refine xGET_306 C0 kw_497 hW dX3_layOut_47 ?_
      refine lv_iload_n hx hb dX3_layOut_50 rfl (lv_at hl 1 rfl) ?_
      refine lv_iadd hx hb dX3_layOut_51 ?_
      obtain ⟨g15, ho⟩ := gd_some ho
      refine xST_304 C0 hW g15 dX3_layOut_52 (fun H locs hW => ?_)
      obtain ⟨t16, ho, hW⟩ := nm_w (P := fun t => wl D A s (wX cI cJ cZ cR am gm t) H locs) ho hW
      refine lv_iconst (v := (0 : Int32)) hx hb dX3_layOut_53 (by decide) ?_
      refine lv_istore_n (lv' := [(2, .int (0 : Int32)), (0, .ref (am 2003)), (1, .int v1)]) hx hb dX3_layOut_54 rfl hl (by decide) rfl (fun ls hl => ?_)
      obtain ⟨y17, hc19, ho⟩ := bd_some ho
      obtain ⟨ny17, hc19⟩ := lp_to hc19
      refine x3_layOut_L55 C0 ?_ ny17 _ _ hc19 _ _ _ hW (lv_sub hl [1, 2, 0] rfl)
      intro H locs ls hW hl
      refine lv_aload_n hx hb dX3_layOut_99 rfl (lv_at hl 0 rfl) ?_
      refine xGET_303 C0 kw_494 hW dX3_layOut_100 ?_
      refine lv_iload_n hx hb dX3_layOut_103 rfl (lv_at hl 1 rfl) ?_
      refine lv_aload_n hx hb dX3_layOut_104 rfl (lv_at hl 0 rfl) ?_
      refine xGET_307 C0 kw_498 hW dX3_layOut_105 ?_
      refine lv_imul hx hb dX3_layOut_108 ?_
      refine lv_aload_n hx hb dX3_layOut_109 rfl (lv_at hl 0 rfl) ?_
      refine xGET_306 C0 kw_497 hW dX3_layOut_110 ?_
      refine lv_iadd hx hb dX3_layOut_113 ?_
      refine lv_lconst (v := (1 : Int64)) hx hb dX3_layOut_114 (by decide) ?_
      obtain ⟨g20, ho⟩ := gd_some ho
      refine xST_303 C0 hW g20 dX3_layOut_115 (fun H locs hW => ?_)
      obtain ⟨t21, ho, hW⟩ := nm_w (P := fun t => wl D A s (wX cI cJ cZ cR am gm t) H locs) ho hW
      obtain ⟨x22, ex22, ho⟩ := nm_x ho
      refine lv_iinc (v := x22) (lv' := [(1, .int x22), (0, .ref (am 2003))]) hx hb dX3_layOut_116 hl (k := 1) rfl (by rw [ex22]; rfl) (by decide) rfl (fun ls hl => ?_)
      clear ex22
      refine lv_goto (tgt := 33) hx hb dX3_layOut_119 (by decide) ?_
      cases ho
      exact ih _ _ hrun _ _ _ hW (lv_sub hl [1, 0] rfl)
set_option maxHeartbeats 4000000 in
set_option maxRecDepth 100000 in
theorem c_x3_layOut (l : Launch) {D : va_G} {cI cJ cZ cR : ClassId} {am gm : Nat → Nat} {st : Nat} (sz : Nat) (t : St) {t' : St} (ho : x3_layOut t = some t') : Met l yX3_layOut (.code yX3_layOut cX3_layOut 3 none :: wsAll) (rmN 2 46) (va_Pc [.ref (am 2003)] (prX D (tyX cI cJ cZ cR) (wX cI cJ cZ cR am gm t) sz st)) (qV D (tyX cI cJ cZ cR) (wX cI cJ cZ cR am gm t') (va_A (wX cI cJ cZ cR am gm t) sz)) 0 0 (va_A (wX cI cJ cZ cR am gm t) sz) := by
  refine Met.ofW (cc := cX3_layOut) (maxL := 3) (ret := none) (by decide) rfl ?_
  intro p e s m args below meth c s₁ B hml hv
  obtain ⟨rfl, ⟨hsz, hP, hK, hD0⟩, hsx⟩ := hv
  have hx := B.exec
  have hb := B.bytes
  have hts := atoms_spec (ws := (.code yX3_layOut cX3_layOut 3 none :: wsAll)) B.pre
  have hta := fun w h => hts w (List.mem_cons_of_mem _ h)
  have hown : s.vm.findClass RX3 = some m.cls := findClass_of_methodNamed B.named
  have hlocks := B.notSynchronized
  subst hsz
  have hD := hD0.self (sz := s.heap.size)
  generalize hAe : va_A (wX cI cJ cZ cR am gm t) s.heap.size = A at hD ⊢
  have hA : ∀ q : Nat, s.heap.size ≤ q → A q := fun q h => by rw [← hAe]; exact Or.inr h
  have C0 : cxX p s m ([.ref (am 2003)].toArray) meth c cX3_layOut RX3 3 none D (tyX cI cJ cZ cR) st A := ⟨⟨hx, hb, B.returns, hml, hown, hta, hlocks, hK, hA⟩, by rw [← hAe]; exact hsx⟩
  have hW : wl D A s (wX cI cJ cZ cR am gm t) s.heap [] := ⟨hP, hD, va_S.rf⟩
  have hl := lv_entry [.ref (am 2003)] (n := 3) (Nat.le_of_ble_eq_true rfl)
  rw [lg_entry_eq]
  generalize (lg_sl [.ref (am 2003)] ++ List.replicate (3 - (lg_sl [.ref (am 2003)]).length) Slot.unset).toArray = ls at hl ⊢
  have hl : lv_has ls 3 [(0, .ref (am 2003))] := hl
  unfold x3_layOut at ho
  refine lv_aload_n hx hb dX3_layOut_0 rfl (lv_at hl 0 rfl) ?_
  refine lv_aload_n hx hb dX3_layOut_1 rfl (lv_at hl 0 rfl) ?_
  refine xGET_300 C0 kw_490 hW dX3_layOut_2 ?_
  refine xGET_1004 C0 kw_337 hW dX3_layOut_5 ?_
  refine lv_bipush (v := (24 : Int32)) hx hb dX3_layOut_8 (by decide) ?_
  refine va_mmin (rest := [.ref (am 2003)]) hx hb (C0.1.2.2.2.1.trans hl.1.symm) hown (hta _ kw_1175) (hta _ kw_748) (hta _ kw_136) (hta _ kw_749) (Nat.le_of_ble_eq_true rfl) (Nat.le_of_ble_eq_true rfl) (Nat.le_of_ble_eq_true rfl) (Nat.le_of_ble_eq_true rfl) dX3_layOut_10 ?_
  refine xPUT_306 C0 kw_497 hW dX3_layOut_13 (fun H locs hW => ?_)
  obtain ⟨t23, ho, hW⟩ := nm_w (P := fun t => wl D A s (wX cI cJ cZ cR am gm t) H locs) ho hW
  refine lv_aload_n hx hb dX3_layOut_16 rfl (lv_at hl 0 rfl) ?_
  refine lv_aload_n hx hb dX3_layOut_17 rfl (lv_at hl 0 rfl) ?_
  refine xGET_306 C0 kw_497 hW dX3_layOut_18 ?_
  refine lv_iconst (v := (1 : Int32)) hx hb dX3_layOut_21 (by decide) ?_
  refine lv_iadd hx hb dX3_layOut_22 ?_
  refine xPUT_307 C0 kw_498 hW dX3_layOut_23 (fun H locs hW => ?_)
  obtain ⟨t24, ho, hW⟩ := nm_w (P := fun t => wl D A s (wX cI cJ cZ cR am gm t) H locs) ho hW
  refine lv_aload_n hx hb dX3_layOut_26 rfl (lv_at hl 0 rfl) ?_
  refine lv_lconst (v := (1 : Int64)) hx hb dX3_layOut_27 (by decide) ?_
  refine xPUT_308 C0 kw_499 hW dX3_layOut_28 (fun H locs hW => ?_)
  obtain ⟨t25, ho, hW⟩ := nm_w (P := fun t => wl D A s (wX cI cJ cZ cR am gm t) H locs) ho hW
  refine lv_iconst (v := (0 : Int32)) hx hb dX3_layOut_31 (by decide) ?_
  refine lv_istore_n (lv' := [(1, .int (0 : Int32)), (0, .ref (am 2003))]) hx hb dX3_layOut_32 rfl hl (by decide) rfl (fun ls hl => ?_)
  obtain ⟨y26, hc28, ho⟩ := bd_some ho
  obtain ⟨ny26, hc28⟩ := lp_to hc28
  refine x3_layOut_L33 C0 ?_ ny26 _ _ hc28 _ _ _ hW (lv_sub hl [1, 0] rfl)
  intro H locs ls hW hl
  refine lv_iconst (v := (0 : Int32)) hx hb dX3_layOut_122 (by decide) ?_
  refine lv_istore_n (lv' := [(1, .int (0 : Int32)), (0, .ref (am 2003))]) hx hb dX3_layOut_123 rfl hl (by decide) rfl (fun ls hl => ?_)
  obtain ⟨y29, hc31, ho⟩ := bd_some ho
  obtain ⟨ny29, hc31⟩ := lp_to hc31
  refine x3_layOut_L124 C0 ?_ ny29 _ _ hc31 _ _ _ hW (lv_sub hl [1, 0] rfl)
  intro H locs ls hW hl
  refine lv_aload_n hx hb dX3_layOut_164 rfl (lv_at hl 0 rfl) ?_
  refine xGET_303 C0 kw_494 hW dX3_layOut_165 ?_
  refine lv_aload_n hx hb dX3_layOut_168 rfl (lv_at hl 0 rfl) ?_
  refine xGET_302 C0 kw_492 hW dX3_layOut_169 ?_
  refine lv_aload_n hx hb dX3_layOut_172 rfl (lv_at hl 0 rfl) ?_
  refine xGET_307 C0 kw_498 hW dX3_layOut_173 ?_
  refine lv_imul hx hb dX3_layOut_176 ?_
  refine lv_aload_n hx hb dX3_layOut_177 rfl (lv_at hl 0 rfl) ?_
  refine xGET_306 C0 kw_497 hW dX3_layOut_178 ?_
  refine lv_iadd hx hb dX3_layOut_181 ?_
  refine lv_lconst (v := (0 : Int64)) hx hb dX3_layOut_182 (by decide) ?_
  obtain ⟨g32, ho⟩ := gd_some ho
  refine xST_303 C0 hW g32 dX3_layOut_183 (fun H locs hW => ?_)
  obtain ⟨t33, ho, hW⟩ := nm_w (P := fun t => wl D A s (wX cI cJ cZ cR am gm t) H locs) ho hW
  cases ho
  exact rtV C0.1 hW dX3_layOut_184
noncomputable def x3_enteringColumn_B4 (t : St) (v1 : Int32) (v2 : Int32) : Option ((Int32 × Int32) ⊕ (Int32)) :=
  if (gI t 306) ≤ v2 then (some (.inr v1)) else (gd (((gI t 302) * (gI t 307)) + v2) (gN t 303) (if (lg_cmp (gB t 303 ((((gI t 302) * (gI t 307)) + v2)).toNatClampNeg) (0 : Int64)) < 0 then (if v1 < 0 then (nm (v2 + (1 : Int32)) (fun x5 : Int32 => some (.inl (v2, x5)))) else (gd v2 (gN t 305) (gd v1 (gN t 305) (if (gA t 305 (v1).toNatClampNeg) ≤ (gA t 305 (v2).toNatClampNeg) then (nm (v2 + (1 : Int32)) (fun x9 : Int32 => some (.inl (v1, x9)))) else (nm (v2 + (1 : Int32)) (fun x10 : Int32 => some (.inl (v2, x10)))))))) else (nm (v2 + (1 : Int32)) (fun x11 : Int32 => some (.inl (v1, x11))))))
noncomputable def x3_enteringColumn (t : St) : Option (Int32) :=
  (lp (fun x => x3_enteringColumn_B4 t x.1 x.2) ((-1 : Int32), (0 : Int32))).bind (fun y12 => some y12)
set_option maxHeartbeats 4000000 in
set_option maxRecDepth 100000 in
theorem x3_enteringColumn_L4 {p : Program} {l : Launch} {e : Env} {s : State} {m : MethodId} {args : Array Value} {below : List Frame} {meth : Method} {c : Code} {Q : State → Prop} {D : va_G} {cI cJ cZ cR : ClassId} {am gm : Nat → Nat} {st : Nat} {A : Nat → Prop} (C0 : cxX p s m args meth c cX3_enteringColumn RX3 3 (some .int) D (tyX cI cJ cZ cR) st A) {t : St} {y : Int32} (hK0 : ∀ (H : Heap) (locs : List Loc) (ls : Array Slot), wl D A s (wX cI cJ cZ cR am gm t) H locs → lv_has ls 3 [(0, .ref (am 2003)), (1, .int y)] → W p l e (rmN 0 0) s m args below meth c H locs 0 0 Q (F0 m 63 ls [])) :
    ∀ (n : Nat) (v1 : Int32) (v2 : Int32), lpn (fun x => x3_enteringColumn_B4 t x.1 x.2) n (v1, v2) = some y → ∀ (H : Heap) (locs : List Loc) (ls : Array Slot), wl D A s (wX cI cJ cZ cR am gm t) H locs → lv_has ls 3 [(0, .ref (am 2003)), (1, .int v1), (2, .int v2)] → W p l e (rmN 0 0) s m args below meth c H locs 0 0 Q (F0 m 4 ls []) := by
  have hx := C0.1.1
  have hb := C0.1.2.1
  have hta := C0.1.2.2.2.2.2.1
  have hown := C0.1.2.2.2.2.1
  intro n
  induction n with
  | zero => intro _ _ h; cases h
  | succ n ih =>
    intro v1 v2 hrun H locs ls hW hl
    obtain ⟨o, ho, hrun⟩ := bd_some hrun
    unfold x3_enteringColumn_B4 at ho
    refine lv_iload_n hx hb dX3_enteringColumn_4 rfl (lv_at hl 2 rfl) ?_
    refine lv_aload_n hx hb dX3_enteringColumn_5 rfl (lv_at hl 0 rfl) ?_
    refine xGET_306 C0 kw_497 hW dX3_enteringColumn_6 ?_
    refine lv_icmp_ge (tgt := 63) hx hb dX3_enteringColumn_9 (by decide) (fun c1 => ?_) (fun c1 => ?_)
    · replace ho := ite_t c1 ho
      cases ho
      cases hrun
      exact hK0 _ _ _ hW (lv_sub hl [0, 1] rfl)
    · replace ho := ite_f c1 ho
      refine lv_aload_n hx hb dX3_enteringColumn_12 rfl (lv_at hl 0 rfl) ?_
      refine xGET_303 C0 kw_494 hW dX3_enteringColumn_13 ?_
      refine lv_aload_n hx hb dX3_enteringColumn_16 rfl (lv_at hl 0 rfl) ?_
      refine xGET_302 C0 kw_492 hW dX3_enteringColumn_17 ?_
      refine lv_aload_n hx hb dX3_enteringColumn_20 rfl (lv_at hl 0 rfl) ?_
      refine xGET_307 C0 kw_498 hW dX3_enteringColumn_21 ?_
      refine lv_imul hx hb dX3_enteringColumn_24 ?_
      refine lv_iload_n hx hb dX3_enteringColumn_25 rfl (lv_at hl 2 rfl) ?_
      refine lv_iadd hx hb dX3_enteringColumn_26 ?_
      obtain ⟨g2, ho⟩ := gd_some ho
      refine xLD_303 C0 hW g2 dX3_enteringColumn_27 ?_
      refine lv_lconst (v := (0 : Int64)) hx hb dX3_enteringColumn_28 (by decide) ?_
      refine W.lcmp hx hb dX3_enteringColumn_29 ?_
      refine lv_if_lt (tgt := 36) hx hb dX3_enteringColumn_30 (by decide) (fun c3 => ?_) (fun c3 => ?_)
      · replace ho := ite_t c3 ho
        refine lv_iload_n hx hb dX3_enteringColumn_36 rfl (lv_at hl 1 rfl) ?_
        refine lv_if_lt (tgt := 55) hx hb dX3_enteringColumn_37 (by decide) (fun c4 => ?_) (fun c4 => ?_)
        · replace ho := ite_t c4 ho
          refine lv_iload_n hx hb dX3_enteringColumn_55 rfl (lv_at hl 2 rfl) ?_
          refine lv_istore_n (lv' := [(1, .int v2), (0, .ref (am 2003)), (2, .int v2)]) hx hb dX3_enteringColumn_56 rfl hl (by decide) rfl (fun ls hl => ?_)
          obtain ⟨x5, ex5, ho⟩ := nm_x ho
          refine lv_iinc (v := x5) (lv' := [(2, .int x5), (1, .int v2), (0, .ref (am 2003))]) hx hb dX3_enteringColumn_57 hl (k := 2) rfl (by rw [ex5]; rfl) (by decide) rfl (fun ls hl => ?_)
          clear ex5
          refine lv_goto (tgt := 4) hx hb dX3_enteringColumn_60 (by decide) ?_
          cases ho
          exact ih _ _ hrun _ _ _ hW (lv_sub hl [2, 1, 0] rfl)
        · replace ho := ite_f c4 ho
          refine lv_aload_n hx hb dX3_enteringColumn_40 rfl (lv_at hl 0 rfl) ?_
          refine xGET_305 C0 kw_496 hW dX3_enteringColumn_41 ?_
          refine lv_iload_n hx hb dX3_enteringColumn_44 rfl (lv_at hl 2 rfl) ?_
          obtain ⟨g6, ho⟩ := gd_some ho
          refine xLD_305 C0 hW g6 dX3_enteringColumn_45 ?_
          refine lv_aload_n hx hb dX3_enteringColumn_46 rfl (lv_at hl 0 rfl) ?_
          refine xGET_305 C0 kw_496 hW dX3_enteringColumn_47 ?_
          refine lv_iload_n hx hb dX3_enteringColumn_50 rfl (lv_at hl 1 rfl) ?_
          obtain ⟨g7, ho⟩ := gd_some ho
          refine xLD_305 C0 hW g7 dX3_enteringColumn_51 ?_
          refine lv_icmp_ge (tgt := 57) hx hb dX3_enteringColumn_52 (by decide) (fun c8 => ?_) (fun c8 => ?_)
          · replace ho := ite_t c8 ho
            obtain ⟨x9, ex9, ho⟩ := nm_x ho
            refine lv_iinc (v := x9) (lv' := [(2, .int x9), (0, .ref (am 2003)), (1, .int v1)]) hx hb dX3_enteringColumn_57 hl (k := 2) rfl (by rw [ex9]; rfl) (by decide) rfl (fun ls hl => ?_)
            clear ex9
            refine lv_goto (tgt := 4) hx hb dX3_enteringColumn_60 (by decide) ?_
            cases ho
            exact ih _ _ hrun _ _ _ hW (lv_sub hl [1, 2, 0] rfl)
          · replace ho := ite_f c8 ho
            refine lv_iload_n hx hb dX3_enteringColumn_55 rfl (lv_at hl 2 rfl) ?_
            refine lv_istore_n (lv' := [(1, .int v2), (0, .ref (am 2003)), (2, .int v2)]) hx hb dX3_enteringColumn_56 rfl hl (by decide) rfl (fun ls hl => ?_)
            obtain ⟨x10, ex10, ho⟩ := nm_x ho
            refine lv_iinc (v := x10) (lv' := [(2, .int x10), (1, .int v2), (0, .ref (am 2003))]) hx hb dX3_enteringColumn_57 hl (k := 2) rfl (by rw [ex10]; rfl) (by decide) rfl (fun ls hl => ?_)
            clear ex10
            refine lv_goto (tgt := 4) hx hb dX3_enteringColumn_60 (by decide) ?_
            cases ho
            exact ih _ _ hrun _ _ _ hW (lv_sub hl [2, 1, 0] rfl)
      · replace ho := ite_f c3 ho
        refine lv_goto (tgt := 57) hx hb dX3_enteringColumn_33 (by decide) ?_
        obtain ⟨x11, ex11, ho⟩ := nm_x ho
        refine lv_iinc (v := x11) (lv' := [(2, .int x11), (0, .ref (am 2003)), (1, .int v1)]) hx hb dX3_enteringColumn_57 hl (k := 2) rfl (by rw [ex11]; rfl) (by decide) rfl (fun ls hl => ?_)
        clear ex11
        refine lv_goto (tgt := 4) hx hb dX3_enteringColumn_60 (by decide) ?_
        cases ho
        exact ih _ _ hrun _ _ _ hW (lv_sub hl [1, 2, 0] rfl)
set_option maxHeartbeats 4000000 in
set_option maxRecDepth 100000 in
theorem c_x3_enteringColumn (l : Launch) {D : va_G} {cI cJ cZ cR : ClassId} {am gm : Nat → Nat} {st : Nat} (sz : Nat) (t : St) {r : Int32} (ho : x3_enteringColumn t = some r) : Met l yX3_enteringColumn (.code yX3_enteringColumn cX3_enteringColumn 3 (some .int) :: wsAll) (rmN 0 0) (va_Pc [.ref (am 2003)] (prX D (tyX cI cJ cZ cR) (wX cI cJ cZ cR am gm t) sz st)) (qI r D (tyX cI cJ cZ cR) (wX cI cJ cZ cR am gm t) (va_A (wX cI cJ cZ cR am gm t) sz)) 0 0 (va_A (wX cI cJ cZ cR am gm t) sz) := by
  refine Met.ofW (cc := cX3_enteringColumn) (maxL := 3) (ret := (some .int)) (by decide) rfl ?_
  intro p e s m args below meth c s₁ B hml hv
  obtain ⟨rfl, ⟨hsz, hP, hK, hD0⟩, hsx⟩ := hv
  have hx := B.exec
  have hb := B.bytes
  have hts := atoms_spec (ws := (.code yX3_enteringColumn cX3_enteringColumn 3 (some .int) :: wsAll)) B.pre
  have hta := fun w h => hts w (List.mem_cons_of_mem _ h)
  have hown : s.vm.findClass RX3 = some m.cls := findClass_of_methodNamed B.named
  have hlocks := B.notSynchronized
  subst hsz
  have hD := hD0.self (sz := s.heap.size)
  generalize hAe : va_A (wX cI cJ cZ cR am gm t) s.heap.size = A at hD ⊢
  have hA : ∀ q : Nat, s.heap.size ≤ q → A q := fun q h => by rw [← hAe]; exact Or.inr h
  have C0 : cxX p s m ([.ref (am 2003)].toArray) meth c cX3_enteringColumn RX3 3 (some .int) D (tyX cI cJ cZ cR) st A := ⟨⟨hx, hb, B.returns, hml, hown, hta, hlocks, hK, hA⟩, by rw [← hAe]; exact hsx⟩
  have hW : wl D A s (wX cI cJ cZ cR am gm t) s.heap [] := ⟨hP, hD, va_S.rf⟩
  have hl := lv_entry [.ref (am 2003)] (n := 3) (Nat.le_of_ble_eq_true rfl)
  rw [lg_entry_eq]
  generalize (lg_sl [.ref (am 2003)] ++ List.replicate (3 - (lg_sl [.ref (am 2003)]).length) Slot.unset).toArray = ls at hl ⊢
  have hl : lv_has ls 3 [(0, .ref (am 2003))] := hl
  unfold x3_enteringColumn at ho
  refine lv_iconst (v := (-1 : Int32)) hx hb dX3_enteringColumn_0 (by decide) ?_
  refine lv_istore_n (lv' := [(1, .int (-1 : Int32)), (0, .ref (am 2003))]) hx hb dX3_enteringColumn_1 rfl hl (by decide) rfl (fun ls hl => ?_)
  refine lv_iconst (v := (0 : Int32)) hx hb dX3_enteringColumn_2 (by decide) ?_
  refine lv_istore_n (lv' := [(2, .int (0 : Int32)), (1, .int (-1 : Int32)), (0, .ref (am 2003))]) hx hb dX3_enteringColumn_3 rfl hl (by decide) rfl (fun ls hl => ?_)
  obtain ⟨y12, hc14, ho⟩ := bd_some ho
  obtain ⟨ny12, hc14⟩ := lp_to hc14
  refine x3_enteringColumn_L4 C0 ?_ ny12 _ _ hc14 _ _ _ hW (lv_sub hl [2, 1, 0] rfl)
  intro H locs ls hW hl
  refine lv_iload_n hx hb dX3_enteringColumn_63 rfl (lv_at hl 1 rfl) ?_
  cases ho
  exact rtI C0.1 hW dX3_enteringColumn_64
noncomputable def x3_highOfProduct (t : St) (a0 : Int64) (a2 : Int64) : Option (Int64) :=
  nm ((a0 &&& (4294967295 : Int64)) * (a2 &&& (4294967295 : Int64))) (fun x1 : Int64 => nm ((((a0 >>> (((32 : Int32)).toInt64 &&& 63))) * (a2 &&& (4294967295 : Int64))) + (((x1).toUInt64 >>> (((32 : Int32)).toInt64.toUInt64 &&& Int64.toUInt64 63)).toInt64)) (fun x2 : Int64 => nm (((a0 &&& (4294967295 : Int64)) * ((a2 >>> (((32 : Int32)).toInt64 &&& 63)))) + (x2 &&& (4294967295 : Int64))) (fun x3 : Int64 => some (((((a0 >>> (((32 : Int32)).toInt64 &&& 63))) * ((a2 >>> (((32 : Int32)).toInt64 &&& 63)))) + ((x2 >>> (((32 : Int32)).toInt64 &&& 63)))) + ((x3 >>> (((32 : Int32)).toInt64 &&& 63)))))))
set_option maxHeartbeats 4000000 in
set_option maxRecDepth 100000 in
theorem c_x3_highOfProduct (l : Launch) {D : va_G} {cI cJ cZ cR : ClassId} {am gm : Nat → Nat} {st : Nat} (sz : Nat) (t : St) (a0 : Int64) (a2 : Int64) {r : Int64} (ho : x3_highOfProduct t a0 a2 = some r) : Met l yX3_highOfProduct (.code yX3_highOfProduct cX3_highOfProduct 12 (some .long) :: wsAll) (rmN 0 0) (va_Pc [.long a0, .long a2] (prX D (tyX cI cJ cZ cR) (wX cI cJ cZ cR am gm t) sz st)) (qJ r D (tyX cI cJ cZ cR) (wX cI cJ cZ cR am gm t) (va_A (wX cI cJ cZ cR am gm t) sz)) 0 0 (va_A (wX cI cJ cZ cR am gm t) sz) := by
  refine Met.ofW (cc := cX3_highOfProduct) (maxL := 12) (ret := (some .long)) (by decide) rfl ?_
  intro p e s m args below meth c s₁ B hml hv
  obtain ⟨rfl, ⟨hsz, hP, hK, hD0⟩, hsx⟩ := hv
  have hx := B.exec
  have hb := B.bytes
  have hts := atoms_spec (ws := (.code yX3_highOfProduct cX3_highOfProduct 12 (some .long) :: wsAll)) B.pre
  have hta := fun w h => hts w (List.mem_cons_of_mem _ h)
  have hown : s.vm.findClass RX3 = some m.cls := findClass_of_methodNamed B.named
  have hlocks := B.notSynchronized
  subst hsz
  have hD := hD0.self (sz := s.heap.size)
  generalize hAe : va_A (wX cI cJ cZ cR am gm t) s.heap.size = A at hD ⊢
  have hA : ∀ q : Nat, s.heap.size ≤ q → A q := fun q h => by rw [← hAe]; exact Or.inr h
  have C0 : cxX p s m ([.long a0, .long a2].toArray) meth c cX3_highOfProduct RX3 12 (some .long) D (tyX cI cJ cZ cR) st A := ⟨⟨hx, hb, B.returns, hml, hown, hta, hlocks, hK, hA⟩, by rw [← hAe]; exact hsx⟩
  have hW : wl D A s (wX cI cJ cZ cR am gm t) s.heap [] := ⟨hP, hD, va_S.rf⟩
  have hl := lv_entry [.long a0, .long a2] (n := 12) (Nat.le_of_ble_eq_true rfl)
  rw [lg_entry_eq]
  generalize (lg_sl [.long a0, .long a2] ++ List.replicate (12 - (lg_sl [.long a0, .long a2]).length) Slot.unset).toArray = ls at hl ⊢
  have hl : lv_has ls 12 [(0, .long a0), (2, .long a2)] := hl
  unfold x3_highOfProduct at ho
  refine lv_ldc2 hx hb hown (hta _ kw_1203) dX3_highOfProduct_0 ?_
  refine lv_lstore (lv' := [(4, .long (4294967295 : Int64)), (0, .long a0), (2, .long a2)]) hx hb dX3_highOfProduct_3 hl (by decide) rfl (fun ls hl => ?_)
  refine lv_lload_n hx hb dX3_highOfProduct_5 rfl (lv_at hl 1 rfl) ?_
  refine lv_lload hx hb dX3_highOfProduct_6 (lv_at hl 0 rfl) ?_
  refine lv_land hx hb dX3_highOfProduct_8 ?_
  refine lv_lload_n hx hb dX3_highOfProduct_9 rfl (lv_at hl 2 rfl) ?_
  refine lv_lload hx hb dX3_highOfProduct_10 (lv_at hl 0 rfl) ?_
  refine lv_land hx hb dX3_highOfProduct_12 ?_
  refine lv_lmul hx hb dX3_highOfProduct_13 ?_
  refine lv_nml ho (fun x1 ho => ?_)
  refine lv_lstore (lv' := [(6, .long x1), (4, .long (4294967295 : Int64)), (0, .long a0), (2, .long a2)]) hx hb dX3_highOfProduct_14 hl (by decide) rfl (fun ls hl => ?_)
  refine lv_lload_n hx hb dX3_highOfProduct_16 rfl (lv_at hl 2 rfl) ?_
  refine lv_bipush (v := (32 : Int32)) hx hb dX3_highOfProduct_17 (by decide) ?_
  refine lv_lshr hx hb dX3_highOfProduct_19 rfl ?_
  refine lv_lload_n hx hb dX3_highOfProduct_20 rfl (lv_at hl 3 rfl) ?_
  refine lv_lload hx hb dX3_highOfProduct_21 (lv_at hl 1 rfl) ?_
  refine lv_land hx hb dX3_highOfProduct_23 ?_
  refine lv_lmul hx hb dX3_highOfProduct_24 ?_
  refine lv_lload hx hb dX3_highOfProduct_25 (lv_at hl 0 rfl) ?_
  refine lv_bipush (v := (32 : Int32)) hx hb dX3_highOfProduct_27 (by decide) ?_
  refine lv_lushr hx hb dX3_highOfProduct_29 rfl ?_
  refine lv_ladd hx hb dX3_highOfProduct_30 ?_
  refine lv_nml ho (fun x2 ho => ?_)
  refine lv_lstore (lv' := [(8, .long x2), (6, .long x1), (4, .long (4294967295 : Int64)), (0, .long a0), (2, .long a2)]) hx hb dX3_highOfProduct_31 hl (by decide) rfl (fun ls hl => ?_)
  refine lv_lload_n hx hb dX3_highOfProduct_33 rfl (lv_at hl 3 rfl) ?_
  refine lv_lload hx hb dX3_highOfProduct_34 (lv_at hl 2 rfl) ?_
  refine lv_land hx hb dX3_highOfProduct_36 ?_
  refine lv_lload_n hx hb dX3_highOfProduct_37 rfl (lv_at hl 4 rfl) ?_
  refine lv_bipush (v := (32 : Int32)) hx hb dX3_highOfProduct_38 (by decide) ?_
  refine lv_lshr hx hb dX3_highOfProduct_40 rfl ?_
  refine lv_lmul hx hb dX3_highOfProduct_41 ?_
  refine lv_lload hx hb dX3_highOfProduct_42 (lv_at hl 0 rfl) ?_
  refine lv_lload hx hb dX3_highOfProduct_44 (lv_at hl 2 rfl) ?_
  refine lv_land hx hb dX3_highOfProduct_46 ?_
  refine lv_ladd hx hb dX3_highOfProduct_47 ?_
  refine lv_nml ho (fun x3 ho => ?_)
  refine lv_lstore (lv' := [(10, .long x3), (8, .long x2), (6, .long x1), (4, .long (4294967295 : Int64)), (0, .long a0), (2, .long a2)]) hx hb dX3_highOfProduct_48 hl (by decide) rfl (fun ls hl => ?_)
  refine lv_lload_n hx hb dX3_highOfProduct_50 rfl (lv_at hl 4 rfl) ?_
  refine lv_bipush (v := (32 : Int32)) hx hb dX3_highOfProduct_51 (by decide) ?_
  refine lv_lshr hx hb dX3_highOfProduct_53 rfl ?_
  refine lv_lload_n hx hb dX3_highOfProduct_54 rfl (lv_at hl 5 rfl) ?_
  refine lv_bipush (v := (32 : Int32)) hx hb dX3_highOfProduct_55 (by decide) ?_
  refine lv_lshr hx hb dX3_highOfProduct_57 rfl ?_
  refine lv_lmul hx hb dX3_highOfProduct_58 ?_
  refine lv_lload hx hb dX3_highOfProduct_59 (lv_at hl 1 rfl) ?_
  refine lv_bipush (v := (32 : Int32)) hx hb dX3_highOfProduct_61 (by decide) ?_
  refine lv_lshr hx hb dX3_highOfProduct_63 rfl ?_
  refine lv_ladd hx hb dX3_highOfProduct_64 ?_
  refine lv_lload hx hb dX3_highOfProduct_65 (lv_at hl 0 rfl) ?_
  refine lv_bipush (v := (32 : Int32)) hx hb dX3_highOfProduct_67 (by decide) ?_
  refine lv_lshr hx hb dX3_highOfProduct_69 rfl ?_
  refine lv_ladd hx hb dX3_highOfProduct_70 ?_
  cases ho
  exact rtJ C0.1 hW dX3_highOfProduct_71
noncomputable def x3_highOfDifference_J25 (t : St) (v0 : Int64) (v2 : Int64) (v4 : Int64) (v6 : Int64) (w0 : Int32) : Option (Int64) :=
  (x3_highOfProduct t v0 v2).bind (fun q1 => (x3_highOfProduct t v4 v6).bind (fun q3 => if w0 = 0 then (some ((q1 - q3) - ((0 : Int32)).toInt64)) else (some ((q1 - q3) - ((1 : Int32)).toInt64))))
noncomputable def x3_highOfDifference (t : St) (a0 : Int64) (a2 : Int64) (a4 : Int64) (a6 : Int64) : Option (Int64) :=
  if 0 ≤ (lg_cmp ((a0 * a2) ^^^ (-9223372036854775808 : Int64)) ((a4 * a6) ^^^ (-9223372036854775808 : Int64))) then (x3_highOfDifference_J25 t a0 a2 a4 a6 (0 : Int32)) else (x3_highOfDifference_J25 t a0 a2 a4 a6 (1 : Int32))
set_option maxHeartbeats 4000000 in
set_option maxRecDepth 100000 in
theorem c_x3_highOfDifference (l : Launch) {D : va_G} {cI cJ cZ cR : ClassId} {am gm : Nat → Nat} {st : Nat} (sz : Nat) (t : St) (a0 : Int64) (a2 : Int64) (a4 : Int64) (a6 : Int64) {r : Int64} (ho : x3_highOfDifference t a0 a2 a4 a6 = some r) : Met l yX3_highOfDifference (.code yX3_highOfDifference cX3_highOfDifference 9 (some .long) :: wsAll) (rmN 1 31) (va_Pc [.long a0, .long a2, .long a4, .long a6] (prX D (tyX cI cJ cZ cR) (wX cI cJ cZ cR am gm t) sz st)) (qJ r D (tyX cI cJ cZ cR) (wX cI cJ cZ cR am gm t) (va_A (wX cI cJ cZ cR am gm t) sz)) 0 0 (va_A (wX cI cJ cZ cR am gm t) sz) := by
  refine Met.ofW (cc := cX3_highOfDifference) (maxL := 9) (ret := (some .long)) (by decide) rfl ?_
  intro p e s m args below meth c s₁ B hml hv
  obtain ⟨rfl, ⟨hsz, hP, hK, hD0⟩, hsx⟩ := hv
  have hx := B.exec
  have hb := B.bytes
  have hts := atoms_spec (ws := (.code yX3_highOfDifference cX3_highOfDifference 9 (some .long) :: wsAll)) B.pre
  have hta := fun w h => hts w (List.mem_cons_of_mem _ h)
  have hown : s.vm.findClass RX3 = some m.cls := findClass_of_methodNamed B.named
  have hlocks := B.notSynchronized
  subst hsz
  have hD := hD0.self (sz := s.heap.size)
  generalize hAe : va_A (wX cI cJ cZ cR am gm t) s.heap.size = A at hD ⊢
  have hA : ∀ q : Nat, s.heap.size ≤ q → A q := fun q h => by rw [← hAe]; exact Or.inr h
  have C0 : cxX p s m ([.long a0, .long a2, .long a4, .long a6].toArray) meth c cX3_highOfDifference RX3 9 (some .long) D (tyX cI cJ cZ cR) st A := ⟨⟨hx, hb, B.returns, hml, hown, hta, hlocks, hK, hA⟩, by rw [← hAe]; exact hsx⟩
  have hW : wl D A s (wX cI cJ cZ cR am gm t) s.heap [] := ⟨hP, hD, va_S.rf⟩
  have hl := lv_entry [.long a0, .long a2, .long a4, .long a6] (n := 9) (Nat.le_of_ble_eq_true rfl)
  rw [lg_entry_eq]
  generalize (lg_sl [.long a0, .long a2, .long a4, .long a6] ++ List.replicate (9 - (lg_sl [.long a0, .long a2, .long a4, .long a6]).length) Slot.unset).toArray = ls at hl ⊢
  have hl : lv_has ls 9 [(0, .long a0), (2, .long a2), (4, .long a4), (6, .long a6)] := hl
  clear hAe hD hP hD0 hts
  have J25 : ∀ (v0 : Int64) (v2 : Int64) (v4 : Int64) (v6 : Int64) (w0 : Int32) (_ : x3_highOfDifference_J25 t v0 v2 v4 v6 w0 = some r) (H : Heap) (locs : List Loc) (ls : Array Slot), wl D A s (wX cI cJ cZ cR am gm t) H locs → lv_has ls 9 [(0, .long v0), (2, .long v2), (4, .long v4), (6, .long v6)] → W p l e (rmN 1 31) s m ([.long a0, .long a2, .long a4, .long a6].toArray) below meth c H locs 0 0 (MQ below (qJ r D (tyX cI cJ cZ cR) (wX cI cJ cZ cR am gm t) A) ([.long a0, .long a2, .long a4, .long a6].toArray) s 0 0 A) (F0 m 25 ls [.int w0]) := by
    intro v0 v2 v4 v6 w0 ho H locs ls hW hl
    unfold x3_highOfDifference_J25 at ho
    refine lv_istore (lv' := [(8, .int w0), (0, .long v0), (2, .long v2), (4, .long v4), (6, .long v6)]) hx hb dX3_highOfDifference_25 hl (by decide) rfl (fun ls hl => ?_)
    refine lv_lload_n hx hb dX3_highOfDifference_27 rfl (lv_at hl 1 rfl) ?_
    refine lv_lload_n hx hb dX3_highOfDifference_28 rfl (lv_at hl 2 rfl) ?_
    obtain ⟨q1, hc2, ho⟩ := bd_some ho
    refine bkJ C0.1 hW (runSX (As := [.long v0, .long v2]) (rest := []) C0 hW (c_x3_highOfProduct l _ t v0 v2 (r := q1) hc2) cb_X3_X3_highOfProduct_120 rfl rfl ⟨rfl, rfl⟩ ⟨Nat.le_of_ble_eq_true rfl, Nat.le_of_ble_eq_true rfl⟩ (Nat.le_of_ble_eq_true rfl) hl.1 dX3_highOfDifference_29 ⟨Nat.le_of_ble_eq_true rfl, Nat.le_of_ble_eq_true rfl⟩) (fun H locs hW => ?_)
    refine lv_lload hx hb dX3_highOfDifference_32 (lv_at hl 3 rfl) ?_
    refine lv_lload hx hb dX3_highOfDifference_34 (lv_at hl 4 rfl) ?_
    obtain ⟨q3, hc4, ho⟩ := bd_some ho
    refine bkJ C0.1 hW (runSX (As := [.long v4, .long v6]) (rest := [.long q1]) C0 hW (c_x3_highOfProduct l _ t v4 v6 (r := q3) hc4) cb_X3_X3_highOfProduct_120 rfl rfl ⟨rfl, rfl⟩ ⟨Nat.le_of_ble_eq_true rfl, Nat.le_of_ble_eq_true rfl⟩ (Nat.le_of_ble_eq_true rfl) hl.1 dX3_highOfDifference_36 ⟨Nat.le_of_ble_eq_true rfl, Nat.le_of_ble_eq_true rfl⟩) (fun H locs hW => ?_)
    refine lv_lsub hx hb dX3_highOfDifference_39 ?_
    refine lv_iload hx hb dX3_highOfDifference_40 (lv_at hl 0 rfl) ?_
    refine lv_if_eq (tgt := 49) hx hb dX3_highOfDifference_42 (by decide) (fun c5 => ?_) (fun c5 => ?_)
    · replace ho := ite_t c5 ho
      refine lv_iconst (v := (0 : Int32)) hx hb dX3_highOfDifference_49 (by decide) ?_
      refine lv_i2l hx hb dX3_highOfDifference_50 rfl ?_
      refine lv_lsub hx hb dX3_highOfDifference_51 ?_
      cases ho
      exact rtJ C0.1 hW dX3_highOfDifference_52
    · replace ho := ite_f c5 ho
      refine lv_iconst (v := (1 : Int32)) hx hb dX3_highOfDifference_45 (by decide) ?_
      refine lv_goto (tgt := 50) hx hb dX3_highOfDifference_46 (by decide) ?_
      refine lv_i2l hx hb dX3_highOfDifference_50 rfl ?_
      refine lv_lsub hx hb dX3_highOfDifference_51 ?_
      cases ho
      exact rtJ C0.1 hW dX3_highOfDifference_52
  unfold x3_highOfDifference at ho
  refine lv_lload_n hx hb dX3_highOfDifference_0 rfl (lv_at hl 0 rfl) ?_
  refine lv_lload_n hx hb dX3_highOfDifference_1 rfl (lv_at hl 1 rfl) ?_
  refine lv_lmul hx hb dX3_highOfDifference_2 ?_
  refine lv_ldc2 hx hb hown (hta _ kw_1199) dX3_highOfDifference_3 ?_
  refine lv_lxor hx hb dX3_highOfDifference_6 ?_
  refine lv_lload hx hb dX3_highOfDifference_7 (lv_at hl 2 rfl) ?_
  refine lv_lload hx hb dX3_highOfDifference_9 (lv_at hl 3 rfl) ?_
  refine lv_lmul hx hb dX3_highOfDifference_11 ?_
  refine lv_ldc2 hx hb hown (hta _ kw_1199) dX3_highOfDifference_12 ?_
  refine lv_lxor hx hb dX3_highOfDifference_15 ?_
  refine W.lcmp hx hb dX3_highOfDifference_16 ?_
  refine lv_if_ge (tgt := 24) hx hb dX3_highOfDifference_17 (by decide) (fun c6 => ?_) (fun c6 => ?_)
  · replace ho := ite_t c6 ho
    refine lv_iconst (v := (0 : Int32)) hx hb dX3_highOfDifference_24 (by decide) ?_
    exact J25 _ _ _ _ _ ho _ _ _ hW (lv_sub hl [0, 1, 2, 3] rfl)
  · replace ho := ite_f c6 ho
    refine lv_iconst (v := (1 : Int32)) hx hb dX3_highOfDifference_20 (by decide) ?_
    refine lv_goto (tgt := 25) hx hb dX3_highOfDifference_21 (by decide) ?_
    exact J25 _ _ _ _ _ ho _ _ _ hW (lv_sub hl [0, 1, 2, 3] rfl)
noncomputable def x3_isTighter (t : St) (a1 : Int32) (a2 : Int32) (a3 : Int32) : Option (Int32) :=
  gd ((a1 * (gI t 307)) + (gI t 306)) (gN t 303) (nm (gB t 303 (((a1 * (gI t 307)) + (gI t 306))).toNatClampNeg) (fun x2 : Int64 => gd ((a2 * (gI t 307)) + a3) (gN t 303) (nm (gB t 303 (((a2 * (gI t 307)) + a3)).toNatClampNeg) (fun x4 : Int64 => gd ((a2 * (gI t 307)) + (gI t 306)) (gN t 303) (nm (gB t 303 (((a2 * (gI t 307)) + (gI t 306))).toNatClampNeg) (fun x6 : Int64 => gd ((a1 * (gI t 307)) + a3) (gN t 303) (nm (gB t 303 (((a1 * (gI t 307)) + a3)).toNatClampNeg) (fun x8 : Int64 => (x3_highOfDifference t x2 x4 x6 x8).bind (fun q9 => if (lg_cmp q9 (0 : Int64)) = 0 then (if (lg_cmp (x2 * x4) (x6 * x8)) = 0 then (gd a1 (gN t 304) (gd a2 (gN t 304) (if (gA t 304 (a2).toNatClampNeg) ≤ (gA t 304 (a1).toNatClampNeg) then (some (0 : Int32)) else (some (1 : Int32))))) else (some (0 : Int32))) else (if 0 ≤ (lg_cmp q9 (0 : Int64)) then (some (0 : Int32)) else (some (1 : Int32))))))))))))
set_option maxHeartbeats 4000000 in
set_option maxRecDepth 100000 in
theorem c_x3_isTighter (l : Launch) {D : va_G} {cI cJ cZ cR : ClassId} {am gm : Nat → Nat} {st : Nat} (sz : Nat) (t : St) (a1 : Int32) (a2 : Int32) (a3 : Int32) {r : Int32} (ho : x3_isTighter t a1 a2 a3 = some r) : Met l yX3_isTighter (.code yX3_isTighter cX3_isTighter 14 (some .boolean) :: wsAll) (rmN 2 59) (va_Pc [.ref (am 2003), .int a1, .int a2, .int a3] (prX D (tyX cI cJ cZ cR) (wX cI cJ cZ cR am gm t) sz st)) (qZ r D (tyX cI cJ cZ cR) (wX cI cJ cZ cR am gm t) (va_A (wX cI cJ cZ cR am gm t) sz)) 0 0 (va_A (wX cI cJ cZ cR am gm t) sz) := by
  refine Met.ofW (cc := cX3_isTighter) (maxL := 14) (ret := (some .boolean)) (by decide) rfl ?_
  intro p e s m args below meth c s₁ B hml hv
  obtain ⟨rfl, ⟨hsz, hP, hK, hD0⟩, hsx⟩ := hv
  have hx := B.exec
  have hb := B.bytes
  have hts := atoms_spec (ws := (.code yX3_isTighter cX3_isTighter 14 (some .boolean) :: wsAll)) B.pre
  have hta := fun w h => hts w (List.mem_cons_of_mem _ h)
  have hown : s.vm.findClass RX3 = some m.cls := findClass_of_methodNamed B.named
  have hlocks := B.notSynchronized
  subst hsz
  have hD := hD0.self (sz := s.heap.size)
  generalize hAe : va_A (wX cI cJ cZ cR am gm t) s.heap.size = A at hD ⊢
  have hA : ∀ q : Nat, s.heap.size ≤ q → A q := fun q h => by rw [← hAe]; exact Or.inr h
  have C0 : cxX p s m ([.ref (am 2003), .int a1, .int a2, .int a3].toArray) meth c cX3_isTighter RX3 14 (some .boolean) D (tyX cI cJ cZ cR) st A := ⟨⟨hx, hb, B.returns, hml, hown, hta, hlocks, hK, hA⟩, by rw [← hAe]; exact hsx⟩
  have hW : wl D A s (wX cI cJ cZ cR am gm t) s.heap [] := ⟨hP, hD, va_S.rf⟩
  have hl := lv_entry [.ref (am 2003), .int a1, .int a2, .int a3] (n := 14) (Nat.le_of_ble_eq_true rfl)
  rw [lg_entry_eq]
  generalize (lg_sl [.ref (am 2003), .int a1, .int a2, .int a3] ++ List.replicate (14 - (lg_sl [.ref (am 2003), .int a1, .int a2, .int a3]).length) Slot.unset).toArray = ls at hl ⊢
  have hl : lv_has ls 14 [(0, .ref (am 2003)), (1, .int a1), (2, .int a2), (3, .int a3)] := hl
  unfold x3_isTighter at ho
  refine lv_aload_n hx hb dX3_isTighter_0 rfl (lv_at hl 0 rfl) ?_
  refine xGET_303 C0 kw_494 hW dX3_isTighter_1 ?_
  refine lv_iload_n hx hb dX3_isTighter_4 rfl (lv_at hl 1 rfl) ?_
  refine lv_aload_n hx hb dX3_isTighter_5 rfl (lv_at hl 0 rfl) ?_
  refine xGET_307 C0 kw_498 hW dX3_isTighter_6 ?_
  refine lv_imul hx hb dX3_isTighter_9 ?_
  refine lv_aload_n hx hb dX3_isTighter_10 rfl (lv_at hl 0 rfl) ?_
  refine xGET_306 C0 kw_497 hW dX3_isTighter_11 ?_
  refine lv_iadd hx hb dX3_isTighter_14 ?_
  obtain ⟨g1, ho⟩ := gd_some ho
  refine xLD_303 C0 hW g1 dX3_isTighter_15 ?_
  refine lv_nml ho (fun x2 ho => ?_)
  refine lv_lstore (lv' := [(4, .long x2), (0, .ref (am 2003)), (1, .int a1), (2, .int a2), (3, .int a3)]) hx hb dX3_isTighter_16 hl (by decide) rfl (fun ls hl => ?_)
  refine lv_aload_n hx hb dX3_isTighter_18 rfl (lv_at hl 1 rfl) ?_
  refine xGET_303 C0 kw_494 hW dX3_isTighter_19 ?_
  refine lv_iload_n hx hb dX3_isTighter_22 rfl (lv_at hl 3 rfl) ?_
  refine lv_aload_n hx hb dX3_isTighter_23 rfl (lv_at hl 1 rfl) ?_
  refine xGET_307 C0 kw_498 hW dX3_isTighter_24 ?_
  refine lv_imul hx hb dX3_isTighter_27 ?_
  refine lv_iload_n hx hb dX3_isTighter_28 rfl (lv_at hl 4 rfl) ?_
  refine lv_iadd hx hb dX3_isTighter_29 ?_
  obtain ⟨g3, ho⟩ := gd_some ho
  refine xLD_303 C0 hW g3 dX3_isTighter_30 ?_
  refine lv_nml ho (fun x4 ho => ?_)
  refine lv_lstore (lv' := [(6, .long x4), (4, .long x2), (0, .ref (am 2003)), (1, .int a1), (2, .int a2), (3, .int a3)]) hx hb dX3_isTighter_31 hl (by decide) rfl (fun ls hl => ?_)
  refine lv_aload_n hx hb dX3_isTighter_33 rfl (lv_at hl 2 rfl) ?_
  refine xGET_303 C0 kw_494 hW dX3_isTighter_34 ?_
  refine lv_iload_n hx hb dX3_isTighter_37 rfl (lv_at hl 4 rfl) ?_
  refine lv_aload_n hx hb dX3_isTighter_38 rfl (lv_at hl 2 rfl) ?_
  refine xGET_307 C0 kw_498 hW dX3_isTighter_39 ?_
  refine lv_imul hx hb dX3_isTighter_42 ?_
  refine lv_aload_n hx hb dX3_isTighter_43 rfl (lv_at hl 2 rfl) ?_
  refine xGET_306 C0 kw_497 hW dX3_isTighter_44 ?_
  refine lv_iadd hx hb dX3_isTighter_47 ?_
  obtain ⟨g5, ho⟩ := gd_some ho
  refine xLD_303 C0 hW g5 dX3_isTighter_48 ?_
  refine lv_nml ho (fun x6 ho => ?_)
  refine lv_lstore (lv' := [(8, .long x6), (6, .long x4), (4, .long x2), (0, .ref (am 2003)), (1, .int a1), (2, .int a2), (3, .int a3)]) hx hb dX3_isTighter_49 hl (by decide) rfl (fun ls hl => ?_)
  refine lv_aload_n hx hb dX3_isTighter_51 rfl (lv_at hl 3 rfl) ?_
  refine xGET_303 C0 kw_494 hW dX3_isTighter_52 ?_
  refine lv_iload_n hx hb dX3_isTighter_55 rfl (lv_at hl 4 rfl) ?_
  refine lv_aload_n hx hb dX3_isTighter_56 rfl (lv_at hl 3 rfl) ?_
  refine xGET_307 C0 kw_498 hW dX3_isTighter_57 ?_
  refine lv_imul hx hb dX3_isTighter_60 ?_
  refine lv_iload_n hx hb dX3_isTighter_61 rfl (lv_at hl 6 rfl) ?_
  refine lv_iadd hx hb dX3_isTighter_62 ?_
  obtain ⟨g7, ho⟩ := gd_some ho
  refine xLD_303 C0 hW g7 dX3_isTighter_63 ?_
  refine lv_nml ho (fun x8 ho => ?_)
  refine lv_lstore (lv' := [(10, .long x8), (8, .long x6), (6, .long x4), (4, .long x2), (0, .ref (am 2003)), (1, .int a1), (2, .int a2), (3, .int a3)]) hx hb dX3_isTighter_64 hl (by decide) rfl (fun ls hl => ?_)
  refine lv_lload hx hb dX3_isTighter_66 (lv_at hl 3 rfl) ?_
  refine lv_lload hx hb dX3_isTighter_68 (lv_at hl 2 rfl) ?_
  refine lv_lload hx hb dX3_isTighter_70 (lv_at hl 1 rfl) ?_
  refine lv_lload hx hb dX3_isTighter_72 (lv_at hl 0 rfl) ?_
  obtain ⟨q9, hc10, ho⟩ := bd_some ho
  refine bkJ C0.1 hW (runSX (As := [.long x2, .long x4, .long x6, .long x8]) (rest := []) C0 hW (c_x3_highOfDifference l _ t x2 x4 x6 x8 (r := q9) hc10) cb_X3_X3_highOfDifference_98 rfl rfl ⟨rfl, rfl⟩ ⟨Nat.le_of_ble_eq_true rfl, Nat.le_of_ble_eq_true rfl⟩ (Nat.le_of_ble_eq_true rfl) hl.1 dX3_isTighter_74 ⟨Nat.le_of_ble_eq_true rfl, Nat.le_of_ble_eq_true rfl⟩) (fun H locs hW => ?_)
  refine lv_lstore (lv' := [(12, .long q9), (10, .long x8), (8, .long x6), (6, .long x4), (4, .long x2), (0, .ref (am 2003)), (1, .int a1), (2, .int a2), (3, .int a3)]) hx hb dX3_isTighter_77 hl (by decide) rfl (fun ls hl => ?_)
  refine lv_lload hx hb dX3_isTighter_79 (lv_at hl 0 rfl) ?_
  refine lv_lconst (v := (0 : Int64)) hx hb dX3_isTighter_81 (by decide) ?_
  refine W.lcmp hx hb dX3_isTighter_82 ?_
  refine lv_if_eq (tgt := 99) hx hb dX3_isTighter_83 (by decide) (fun c11 => ?_) (fun c11 => ?_)
  · replace ho := ite_t c11 ho
    refine lv_lload hx hb dX3_isTighter_99 (lv_at hl 4 rfl) ?_
    refine lv_lload hx hb dX3_isTighter_101 (lv_at hl 3 rfl) ?_
    refine lv_lmul hx hb dX3_isTighter_103 ?_
    refine lv_lload hx hb dX3_isTighter_104 (lv_at hl 2 rfl) ?_
    refine lv_lload hx hb dX3_isTighter_106 (lv_at hl 1 rfl) ?_
    refine lv_lmul hx hb dX3_isTighter_108 ?_
    refine W.lcmp hx hb dX3_isTighter_109 ?_
    refine lv_if_ne (tgt := 132) hx hb dX3_isTighter_110 (by decide) (fun c12 => ?_) (fun c12 => ?_)
    · replace ho := ite_f c12 ho
      refine lv_iconst (v := (0 : Int32)) hx hb dX3_isTighter_132 (by decide) ?_
      cases ho
      exact rtZ C0.1 hW (Or.inl (rfl : (0 : Int32) = 0)) dX3_isTighter_133
    · replace ho := ite_t c12 ho
      refine lv_aload_n hx hb dX3_isTighter_113 rfl (lv_at hl 5 rfl) ?_
      refine xGET_304 C0 kw_495 hW dX3_isTighter_114 ?_
      refine lv_iload_n hx hb dX3_isTighter_117 rfl (lv_at hl 6 rfl) ?_
      obtain ⟨g13, ho⟩ := gd_some ho
      refine xLD_304 C0 hW g13 dX3_isTighter_118 ?_
      refine lv_aload_n hx hb dX3_isTighter_119 rfl (lv_at hl 5 rfl) ?_
      refine xGET_304 C0 kw_495 hW dX3_isTighter_120 ?_
      refine lv_iload_n hx hb dX3_isTighter_123 rfl (lv_at hl 7 rfl) ?_
      obtain ⟨g14, ho⟩ := gd_some ho
      refine xLD_304 C0 hW g14 dX3_isTighter_124 ?_
      refine lv_icmp_ge (tgt := 132) hx hb dX3_isTighter_125 (by decide) (fun c15 => ?_) (fun c15 => ?_)
      · replace ho := ite_t c15 ho
        refine lv_iconst (v := (0 : Int32)) hx hb dX3_isTighter_132 (by decide) ?_
        cases ho
        exact rtZ C0.1 hW (Or.inl (rfl : (0 : Int32) = 0)) dX3_isTighter_133
      · replace ho := ite_f c15 ho
        refine lv_iconst (v := (1 : Int32)) hx hb dX3_isTighter_128 (by decide) ?_
        refine lv_goto (tgt := 133) hx hb dX3_isTighter_129 (by decide) ?_
        cases ho
        exact rtZ C0.1 hW (Or.inr (rfl : (1 : Int32) = 1)) dX3_isTighter_133
  · replace ho := ite_f c11 ho
    refine lv_lload hx hb dX3_isTighter_86 (lv_at hl 0 rfl) ?_
    refine lv_lconst (v := (0 : Int64)) hx hb dX3_isTighter_88 (by decide) ?_
    refine W.lcmp hx hb dX3_isTighter_89 ?_
    refine lv_if_ge (tgt := 97) hx hb dX3_isTighter_90 (by decide) (fun c16 => ?_) (fun c16 => ?_)
    · replace ho := ite_t c16 ho
      refine lv_iconst (v := (0 : Int32)) hx hb dX3_isTighter_97 (by decide) ?_
      cases ho
      exact rtZ C0.1 hW (Or.inl (rfl : (0 : Int32) = 0)) dX3_isTighter_98
    · replace ho := ite_f c16 ho
      refine lv_iconst (v := (1 : Int32)) hx hb dX3_isTighter_93 (by decide) ?_
      refine lv_goto (tgt := 98) hx hb dX3_isTighter_94 (by decide) ?_
      cases ho
      exact rtZ C0.1 hW (Or.inr (rfl : (1 : Int32) = 1)) dX3_isTighter_98
noncomputable def x3_leavingRow_B4 (t : St) (v1 : Int32) (v2 : Int32) (v3 : Int32) : Option ((Int32 × Int32) ⊕ (Int32)) :=
  if (gI t 302) ≤ v3 then (some (.inr v2)) else (gd ((v3 * (gI t 307)) + v1) (gN t 303) (if (lg_cmp (gB t 303 (((v3 * (gI t 307)) + v1)).toNatClampNeg) (0 : Int64)) ≤ 0 then (nm (v3 + (1 : Int32)) (fun x4 : Int32 => some (.inl (v2, x4)))) else (if v2 < 0 then (nm (v3 + (1 : Int32)) (fun x6 : Int32 => some (.inl (v3, x6)))) else ((x3_isTighter t v3 v2 v1).bind (fun q7 => if q7 = 0 then (nm (v3 + (1 : Int32)) (fun x11 : Int32 => some (.inl (v2, x11)))) else (nm (v3 + (1 : Int32)) (fun x12 : Int32 => some (.inl (v3, x12)))))))))
noncomputable def x3_leavingRow (t : St) (a1 : Int32) : Option (Int32) :=
  (lp (fun x => x3_leavingRow_B4 t a1 x.1 x.2) ((-1 : Int32), (0 : Int32))).bind (fun y13 => some y13)
set_option maxHeartbeats 4000000 in
set_option maxRecDepth 100000 in
theorem x3_leavingRow_L4 {p : Program} {l : Launch} {e : Env} {s : State} {m : MethodId} {args : Array Value} {below : List Frame} {meth : Method} {c : Code} {Q : State → Prop} {D : va_G} {cI cJ cZ cR : ClassId} {am gm : Nat → Nat} {st : Nat} {A : Nat → Prop} (C0 : cxX p s m args meth c cX3_leavingRow RX3 4 (some .int) D (tyX cI cJ cZ cR) st A) {t : St} {v1 : Int32} {y : Int32} (hK0 : ∀ (H : Heap) (locs : List Loc) (ls : Array Slot), wl D A s (wX cI cJ cZ cR am gm t) H locs → lv_has ls 4 [(0, .ref (am 2003)), (2, .int y)] → W p l e (rmN 3 92) s m args below meth c H locs 0 0 Q (F0 m 52 ls [])) :
    ∀ (n : Nat) (v2 : Int32) (v3 : Int32), lpn (fun x => x3_leavingRow_B4 t v1 x.1 x.2) n (v2, v3) = some y → ∀ (H : Heap) (locs : List Loc) (ls : Array Slot), wl D A s (wX cI cJ cZ cR am gm t) H locs → lv_has ls 4 [(0, .ref (am 2003)), (1, .int v1), (2, .int v2), (3, .int v3)] → W p l e (rmN 3 92) s m args below meth c H locs 0 0 Q (F0 m 4 ls []) := by
  have hx := C0.1.1
  have hb := C0.1.2.1
  have hta := C0.1.2.2.2.2.2.1
  have hown := C0.1.2.2.2.2.1
  intro n
  induction n with
  | zero => intro _ _ h; cases h
  | succ n ih =>
    intro v2 v3 hrun H locs ls hW hl
    obtain ⟨o, ho, hrun⟩ := bd_some hrun
    unfold x3_leavingRow_B4 at ho
    refine lv_iload_n hx hb dX3_leavingRow_4 rfl (lv_at hl 3 rfl) ?_
    refine lv_aload_n hx hb dX3_leavingRow_5 rfl (lv_at hl 0 rfl) ?_
    refine xGET_302 C0 kw_492 hW dX3_leavingRow_6 ?_
    refine lv_icmp_ge (tgt := 52) hx hb dX3_leavingRow_9 (by decide) (fun c1 => ?_) (fun c1 => ?_)
    · replace ho := ite_t c1 ho
      cases ho
      cases hrun
      exact hK0 _ _ _ hW (lv_sub hl [0, 2] rfl)
    · replace ho := ite_f c1 ho
      refine lv_aload_n hx hb dX3_leavingRow_12 rfl (lv_at hl 0 rfl) ?_
      refine xGET_303 C0 kw_494 hW dX3_leavingRow_13 ?_
      refine lv_iload_n hx hb dX3_leavingRow_16 rfl (lv_at hl 3 rfl) ?_
      refine lv_aload_n hx hb dX3_leavingRow_17 rfl (lv_at hl 0 rfl) ?_
      refine xGET_307 C0 kw_498 hW dX3_leavingRow_18 ?_
      refine lv_imul hx hb dX3_leavingRow_21 ?_
      refine lv_iload_n hx hb dX3_leavingRow_22 rfl (lv_at hl 1 rfl) ?_
      refine lv_iadd hx hb dX3_leavingRow_23 ?_
      obtain ⟨g2, ho⟩ := gd_some ho
      refine xLD_303 C0 hW g2 dX3_leavingRow_24 ?_
      refine lv_lconst (v := (0 : Int64)) hx hb dX3_leavingRow_25 (by decide) ?_
      refine W.lcmp hx hb dX3_leavingRow_26 ?_
      refine lv_if_le (tgt := 46) hx hb dX3_leavingRow_27 (by decide) (fun c3 => ?_) (fun c3 => ?_)
      · replace ho := ite_t c3 ho
        obtain ⟨x4, ex4, ho⟩ := nm_x ho
        refine lv_iinc (v := x4) (lv' := [(3, .int x4), (0, .ref (am 2003)), (1, .int v1), (2, .int v2)]) hx hb dX3_leavingRow_46 hl (k := 3) rfl (by rw [ex4]; rfl) (by decide) rfl (fun ls hl => ?_)
        clear ex4
        refine lv_goto (tgt := 4) hx hb dX3_leavingRow_49 (by decide) ?_
        cases ho
        exact ih _ _ hrun _ _ _ hW (lv_sub hl [1, 2, 3, 0] rfl)
      · replace ho := ite_f c3 ho
        refine lv_iload_n hx hb dX3_leavingRow_30 rfl (lv_at hl 2 rfl) ?_
        refine lv_if_lt (tgt := 44) hx hb dX3_leavingRow_31 (by decide) (fun c5 => ?_) (fun c5 => ?_)
        · replace ho := ite_t c5 ho
          refine lv_iload_n hx hb dX3_leavingRow_44 rfl (lv_at hl 3 rfl) ?_
          refine lv_istore_n (lv' := [(2, .int v3), (0, .ref (am 2003)), (1, .int v1), (3, .int v3)]) hx hb dX3_leavingRow_45 rfl hl (by decide) rfl (fun ls hl => ?_)
          obtain ⟨x6, ex6, ho⟩ := nm_x ho
          refine lv_iinc (v := x6) (lv' := [(3, .int x6), (2, .int v3), (0, .ref (am 2003)), (1, .int v1)]) hx hb dX3_leavingRow_46 hl (k := 3) rfl (by rw [ex6]; rfl) (by decide) rfl (fun ls hl => ?_)
          clear ex6
          refine lv_goto (tgt := 4) hx hb dX3_leavingRow_49 (by decide) ?_
          cases ho
          exact ih _ _ hrun _ _ _ hW (lv_sub hl [2, 3, 1, 0] rfl)
        · replace ho := ite_f c5 ho
          refine lv_aload_n hx hb dX3_leavingRow_34 rfl (lv_at hl 0 rfl) ?_
          refine lv_iload_n hx hb dX3_leavingRow_35 rfl (lv_at hl 3 rfl) ?_
          refine lv_iload_n hx hb dX3_leavingRow_36 rfl (lv_at hl 2 rfl) ?_
          refine lv_iload_n hx hb dX3_leavingRow_37 rfl (lv_at hl 1 rfl) ?_
          obtain ⟨q7, hc8, ho⟩ := bd_some ho
          refine bkZ C0.1 hW (runVX (As := [.int v3, .int v2, .int v1]) (rest := []) C0 hW (c_x3_isTighter l _ t v3 v2 v1 (r := q7) hc8) cb_X3_X3_isTighter_94 3 3 rfl rfl rfl rfl rfl ⟨rfl, rfl⟩ ⟨Nat.le_of_ble_eq_true rfl, Nat.le_of_ble_eq_true rfl⟩ (Nat.le_of_ble_eq_true rfl) hl.1 dX3_leavingRow_38 ⟨Nat.le_of_ble_eq_true rfl, Nat.le_of_ble_eq_true rfl⟩) (fun z9 H locs hW => ?_)
          refine lv_if_eq (tgt := 46) hx hb dX3_leavingRow_41 (by decide) (fun c10 => ?_) (fun c10 => ?_)
          · replace ho := ite_t c10 ho
            obtain ⟨x11, ex11, ho⟩ := nm_x ho
            refine lv_iinc (v := x11) (lv' := [(3, .int x11), (0, .ref (am 2003)), (1, .int v1), (2, .int v2)]) hx hb dX3_leavingRow_46 hl (k := 3) rfl (by rw [ex11]; rfl) (by decide) rfl (fun ls hl => ?_)
            clear ex11
            refine lv_goto (tgt := 4) hx hb dX3_leavingRow_49 (by decide) ?_
            cases ho
            exact ih _ _ hrun _ _ _ hW (lv_sub hl [1, 2, 3, 0] rfl)
          · replace ho := ite_f c10 ho
            refine lv_iload_n hx hb dX3_leavingRow_44 rfl (lv_at hl 3 rfl) ?_
            refine lv_istore_n (lv' := [(2, .int v3), (0, .ref (am 2003)), (1, .int v1), (3, .int v3)]) hx hb dX3_leavingRow_45 rfl hl (by decide) rfl (fun ls hl => ?_)
            obtain ⟨x12, ex12, ho⟩ := nm_x ho
            refine lv_iinc (v := x12) (lv' := [(3, .int x12), (2, .int v3), (0, .ref (am 2003)), (1, .int v1)]) hx hb dX3_leavingRow_46 hl (k := 3) rfl (by rw [ex12]; rfl) (by decide) rfl (fun ls hl => ?_)
            clear ex12
            refine lv_goto (tgt := 4) hx hb dX3_leavingRow_49 (by decide) ?_
            cases ho
            exact ih _ _ hrun _ _ _ hW (lv_sub hl [2, 3, 1, 0] rfl)
set_option maxHeartbeats 4000000 in
set_option maxRecDepth 100000 in
theorem c_x3_leavingRow (l : Launch) {D : va_G} {cI cJ cZ cR : ClassId} {am gm : Nat → Nat} {st : Nat} (sz : Nat) (t : St) (a1 : Int32) {r : Int32} (ho : x3_leavingRow t a1 = some r) : Met l yX3_leavingRow (.code yX3_leavingRow cX3_leavingRow 4 (some .int) :: wsAll) (rmN 3 92) (va_Pc [.ref (am 2003), .int a1] (prX D (tyX cI cJ cZ cR) (wX cI cJ cZ cR am gm t) sz st)) (qI r D (tyX cI cJ cZ cR) (wX cI cJ cZ cR am gm t) (va_A (wX cI cJ cZ cR am gm t) sz)) 0 0 (va_A (wX cI cJ cZ cR am gm t) sz) := by
  refine Met.ofW (cc := cX3_leavingRow) (maxL := 4) (ret := (some .int)) (by decide) rfl ?_
  intro p e s m args below meth c s₁ B hml hv
  obtain ⟨rfl, ⟨hsz, hP, hK, hD0⟩, hsx⟩ := hv
  have hx := B.exec
  have hb := B.bytes
  have hts := atoms_spec (ws := (.code yX3_leavingRow cX3_leavingRow 4 (some .int) :: wsAll)) B.pre
  have hta := fun w h => hts w (List.mem_cons_of_mem _ h)
  have hown : s.vm.findClass RX3 = some m.cls := findClass_of_methodNamed B.named
  have hlocks := B.notSynchronized
  subst hsz
  have hD := hD0.self (sz := s.heap.size)
  generalize hAe : va_A (wX cI cJ cZ cR am gm t) s.heap.size = A at hD ⊢
  have hA : ∀ q : Nat, s.heap.size ≤ q → A q := fun q h => by rw [← hAe]; exact Or.inr h
  have C0 : cxX p s m ([.ref (am 2003), .int a1].toArray) meth c cX3_leavingRow RX3 4 (some .int) D (tyX cI cJ cZ cR) st A := ⟨⟨hx, hb, B.returns, hml, hown, hta, hlocks, hK, hA⟩, by rw [← hAe]; exact hsx⟩
  have hW : wl D A s (wX cI cJ cZ cR am gm t) s.heap [] := ⟨hP, hD, va_S.rf⟩
  have hl := lv_entry [.ref (am 2003), .int a1] (n := 4) (Nat.le_of_ble_eq_true rfl)
  rw [lg_entry_eq]
  generalize (lg_sl [.ref (am 2003), .int a1] ++ List.replicate (4 - (lg_sl [.ref (am 2003), .int a1]).length) Slot.unset).toArray = ls at hl ⊢
  have hl : lv_has ls 4 [(0, .ref (am 2003)), (1, .int a1)] := hl
  unfold x3_leavingRow at ho
  refine lv_iconst (v := (-1 : Int32)) hx hb dX3_leavingRow_0 (by decide) ?_
  refine lv_istore_n (lv' := [(2, .int (-1 : Int32)), (0, .ref (am 2003)), (1, .int a1)]) hx hb dX3_leavingRow_1 rfl hl (by decide) rfl (fun ls hl => ?_)
  refine lv_iconst (v := (0 : Int32)) hx hb dX3_leavingRow_2 (by decide) ?_
  refine lv_istore_n (lv' := [(3, .int (0 : Int32)), (2, .int (-1 : Int32)), (0, .ref (am 2003)), (1, .int a1)]) hx hb dX3_leavingRow_3 rfl hl (by decide) rfl (fun ls hl => ?_)
  obtain ⟨y13, hc15, ho⟩ := bd_some ho
  obtain ⟨ny13, hc15⟩ := lp_to hc15
  refine x3_leavingRow_L4 C0 ?_ ny13 _ _ hc15 _ _ _ hW (lv_sub hl [2, 3, 1, 0] rfl)
  intro H locs ls hW hl
  refine lv_iload_n hx hb dX3_leavingRow_52 rfl (lv_at hl 1 rfl) ?_
  cases ho
  exact rtI C0.1 hW dX3_leavingRow_53
noncomputable def x3_inverseOf_B5 (t : St) (v0 : Int64) (v2 : Int64) (v4 : Int32) : Option ((Int64 × Int32) ⊕ (Int64)) :=
  if (5 : Int32) ≤ v4 then (some (.inr v2)) else (nm (v2 * ((2 : Int64) - (v0 * v2))) (fun x2 : Int64 => nm (v4 + (1 : Int32)) (fun x3 : Int32 => some (.inl (x2, x3)))))
noncomputable def x3_inverseOf (t : St) (a0 : Int64) : Option (Int64) :=
  (lp (fun x => x3_inverseOf_B5 t a0 x.1 x.2) (a0, (0 : Int32))).bind (fun y4 => some y4)
set_option maxHeartbeats 4000000 in
set_option maxRecDepth 100000 in
theorem x3_inverseOf_L5 {p : Program} {l : Launch} {e : Env} {s : State} {m : MethodId} {args : Array Value} {below : List Frame} {meth : Method} {c : Code} {Q : State → Prop} {D : va_G} {cI cJ cZ cR : ClassId} {am gm : Nat → Nat} {st : Nat} {A : Nat → Prop} (C0 : cxX p s m args meth c cX3_inverseOf RX3 5 (some .long) D (tyX cI cJ cZ cR) st A) {t : St} {v0 : Int64} {y : Int64} (hK0 : ∀ (H : Heap) (locs : List Loc) (ls : Array Slot), wl D A s (wX cI cJ cZ cR am gm t) H locs → lv_has ls 5 [(2, .long y)] → W p l e (rmN 0 0) s m args below meth c H locs 0 0 Q (F0 m 27 ls [])) :
    ∀ (n : Nat) (v2 : Int64) (v4 : Int32), lpn (fun x => x3_inverseOf_B5 t v0 x.1 x.2) n (v2, v4) = some y → ∀ (H : Heap) (locs : List Loc) (ls : Array Slot), wl D A s (wX cI cJ cZ cR am gm t) H locs → lv_has ls 5 [(0, .long v0), (2, .long v2), (4, .int v4)] → W p l e (rmN 0 0) s m args below meth c H locs 0 0 Q (F0 m 5 ls []) := by
  have hx := C0.1.1
  have hb := C0.1.2.1
  have hta := C0.1.2.2.2.2.2.1
  have hown := C0.1.2.2.2.2.1
  intro n
  induction n with
  | zero => intro _ _ h; cases h
  | succ n ih =>
    intro v2 v4 hrun H locs ls hW hl
    obtain ⟨o, ho, hrun⟩ := bd_some hrun
    unfold x3_inverseOf_B5 at ho
    refine lv_iload hx hb dX3_inverseOf_5 (lv_at hl 2 rfl) ?_
    refine lv_iconst (v := (5 : Int32)) hx hb dX3_inverseOf_7 (by decide) ?_
    refine lv_icmp_ge (tgt := 27) hx hb dX3_inverseOf_8 (by decide) (fun c1 => ?_) (fun c1 => ?_)
    · replace ho := ite_t c1 ho
      cases ho
      cases hrun
      exact hK0 _ _ _ hW (lv_sub hl [1] rfl)
    · replace ho := ite_f c1 ho
      refine lv_lload_n hx hb dX3_inverseOf_11 rfl (lv_at hl 1 rfl) ?_
      refine lv_ldc2 hx hb hown (hta _ kw_1212) dX3_inverseOf_12 ?_
      refine lv_lload_n hx hb dX3_inverseOf_15 rfl (lv_at hl 0 rfl) ?_
      refine lv_lload_n hx hb dX3_inverseOf_16 rfl (lv_at hl 1 rfl) ?_
      refine lv_lmul hx hb dX3_inverseOf_17 ?_
      refine lv_lsub hx hb dX3_inverseOf_18 ?_
      refine lv_lmul hx hb dX3_inverseOf_19 ?_
      refine lv_nml ho (fun x2 ho => ?_)
      refine lv_lstore_n (lv' := [(2, .long x2), (0, .long v0), (4, .int v4)]) hx hb dX3_inverseOf_20 rfl hl (by decide) rfl (fun ls hl => ?_)
      obtain ⟨x3, ex3, ho⟩ := nm_x ho
      refine lv_iinc (v := x3) (lv' := [(4, .int x3), (2, .long x2), (0, .long v0)]) hx hb dX3_inverseOf_21 hl (k := 2) rfl (by rw [ex3]; rfl) (by decide) rfl (fun ls hl => ?_)
      clear ex3
      refine lv_goto (tgt := 5) hx hb dX3_inverseOf_24 (by decide) ?_
      cases ho
      exact ih _ _ hrun _ _ _ hW (lv_sub hl [2, 1, 0] rfl)
set_option maxHeartbeats 4000000 in
set_option maxRecDepth 100000 in
theorem c_x3_inverseOf (l : Launch) {D : va_G} {cI cJ cZ cR : ClassId} {am gm : Nat → Nat} {st : Nat} (sz : Nat) (t : St) (a0 : Int64) {r : Int64} (ho : x3_inverseOf t a0 = some r) : Met l yX3_inverseOf (.code yX3_inverseOf cX3_inverseOf 5 (some .long) :: wsAll) (rmN 0 0) (va_Pc [.long a0] (prX D (tyX cI cJ cZ cR) (wX cI cJ cZ cR am gm t) sz st)) (qJ r D (tyX cI cJ cZ cR) (wX cI cJ cZ cR am gm t) (va_A (wX cI cJ cZ cR am gm t) sz)) 0 0 (va_A (wX cI cJ cZ cR am gm t) sz) := by
  refine Met.ofW (cc := cX3_inverseOf) (maxL := 5) (ret := (some .long)) (by decide) rfl ?_
  intro p e s m args below meth c s₁ B hml hv
  obtain ⟨rfl, ⟨hsz, hP, hK, hD0⟩, hsx⟩ := hv
  have hx := B.exec
  have hb := B.bytes
  have hts := atoms_spec (ws := (.code yX3_inverseOf cX3_inverseOf 5 (some .long) :: wsAll)) B.pre
  have hta := fun w h => hts w (List.mem_cons_of_mem _ h)
  have hown : s.vm.findClass RX3 = some m.cls := findClass_of_methodNamed B.named
  have hlocks := B.notSynchronized
  subst hsz
  have hD := hD0.self (sz := s.heap.size)
  generalize hAe : va_A (wX cI cJ cZ cR am gm t) s.heap.size = A at hD ⊢
  have hA : ∀ q : Nat, s.heap.size ≤ q → A q := fun q h => by rw [← hAe]; exact Or.inr h
  have C0 : cxX p s m ([.long a0].toArray) meth c cX3_inverseOf RX3 5 (some .long) D (tyX cI cJ cZ cR) st A := ⟨⟨hx, hb, B.returns, hml, hown, hta, hlocks, hK, hA⟩, by rw [← hAe]; exact hsx⟩
  have hW : wl D A s (wX cI cJ cZ cR am gm t) s.heap [] := ⟨hP, hD, va_S.rf⟩
  have hl := lv_entry [.long a0] (n := 5) (Nat.le_of_ble_eq_true rfl)
  rw [lg_entry_eq]
  generalize (lg_sl [.long a0] ++ List.replicate (5 - (lg_sl [.long a0]).length) Slot.unset).toArray = ls at hl ⊢
  have hl : lv_has ls 5 [(0, .long a0)] := hl
  unfold x3_inverseOf at ho
  refine lv_lload_n hx hb dX3_inverseOf_0 rfl (lv_at hl 0 rfl) ?_
  refine lv_lstore_n (lv' := [(2, .long a0), (0, .long a0)]) hx hb dX3_inverseOf_1 rfl hl (by decide) rfl (fun ls hl => ?_)
  refine lv_iconst (v := (0 : Int32)) hx hb dX3_inverseOf_2 (by decide) ?_
  refine lv_istore (lv' := [(4, .int (0 : Int32)), (2, .long a0), (0, .long a0)]) hx hb dX3_inverseOf_3 hl (by decide) rfl (fun ls hl => ?_)
  obtain ⟨y4, hc6, ho⟩ := bd_some ho
  obtain ⟨ny4, hc6⟩ := lp_to hc6
  refine x3_inverseOf_L5 C0 ?_ ny4 _ _ hc6 _ _ _ hW (lv_sub hl [2, 1, 0] rfl)
  intro H locs ls hW hl
  refine lv_lload_n hx hb dX3_inverseOf_27 rfl (lv_at hl 0 rfl) ?_
  cases ho
  exact rtJ C0.1 hW dX3_inverseOf_28
noncomputable def x3_shifted (t : St) (a0 : Int64) (a2 : Int64) (a4 : Int32) : Option (Int64) :=
  if a4 = 0 then (some a2) else (some ((((a2).toUInt64 >>> ((a4).toInt64.toUInt64 &&& Int64.toUInt64 63)).toInt64) ||| ((a0 <<< ((((64 : Int32) - a4)).toInt64 &&& 63)))))
set_option maxHeartbeats 4000000 in
set_option maxRecDepth 100000 in
theorem c_x3_shifted (l : Launch) {D : va_G} {cI cJ cZ cR : ClassId} {am gm : Nat → Nat} {st : Nat} (sz : Nat) (t : St) (a0 : Int64) (a2 : Int64) (a4 : Int32) {r : Int64} (ho : x3_shifted t a0 a2 a4 = some r) : Met l yX3_shifted (.code yX3_shifted cX3_shifted 5 (some .long) :: wsAll) (rmN 0 0) (va_Pc [.long a0, .long a2, .int a4] (prX D (tyX cI cJ cZ cR) (wX cI cJ cZ cR am gm t) sz st)) (qJ r D (tyX cI cJ cZ cR) (wX cI cJ cZ cR am gm t) (va_A (wX cI cJ cZ cR am gm t) sz)) 0 0 (va_A (wX cI cJ cZ cR am gm t) sz) := by
  refine Met.ofW (cc := cX3_shifted) (maxL := 5) (ret := (some .long)) (by decide) rfl ?_
  intro p e s m args below meth c s₁ B hml hv
  obtain ⟨rfl, ⟨hsz, hP, hK, hD0⟩, hsx⟩ := hv
  have hx := B.exec
  have hb := B.bytes
  have hts := atoms_spec (ws := (.code yX3_shifted cX3_shifted 5 (some .long) :: wsAll)) B.pre
  have hta := fun w h => hts w (List.mem_cons_of_mem _ h)
  have hown : s.vm.findClass RX3 = some m.cls := findClass_of_methodNamed B.named
  have hlocks := B.notSynchronized
  subst hsz
  have hD := hD0.self (sz := s.heap.size)
  generalize hAe : va_A (wX cI cJ cZ cR am gm t) s.heap.size = A at hD ⊢
  have hA : ∀ q : Nat, s.heap.size ≤ q → A q := fun q h => by rw [← hAe]; exact Or.inr h
  have C0 : cxX p s m ([.long a0, .long a2, .int a4].toArray) meth c cX3_shifted RX3 5 (some .long) D (tyX cI cJ cZ cR) st A := ⟨⟨hx, hb, B.returns, hml, hown, hta, hlocks, hK, hA⟩, by rw [← hAe]; exact hsx⟩
  have hW : wl D A s (wX cI cJ cZ cR am gm t) s.heap [] := ⟨hP, hD, va_S.rf⟩
  have hl := lv_entry [.long a0, .long a2, .int a4] (n := 5) (Nat.le_of_ble_eq_true rfl)
  rw [lg_entry_eq]
  generalize (lg_sl [.long a0, .long a2, .int a4] ++ List.replicate (5 - (lg_sl [.long a0, .long a2, .int a4]).length) Slot.unset).toArray = ls at hl ⊢
  have hl : lv_has ls 5 [(0, .long a0), (2, .long a2), (4, .int a4)] := hl
  unfold x3_shifted at ho
  refine lv_iload hx hb dX3_shifted_0 (lv_at hl 2 rfl) ?_
  refine lv_if_ne (tgt := 9) hx hb dX3_shifted_2 (by decide) (fun c1 => ?_) (fun c1 => ?_)
  · replace ho := ite_f c1 ho
    refine lv_lload_n hx hb dX3_shifted_9 rfl (lv_at hl 1 rfl) ?_
    refine lv_iload hx hb dX3_shifted_10 (lv_at hl 2 rfl) ?_
    refine lv_lushr hx hb dX3_shifted_12 rfl ?_
    refine lv_lload_n hx hb dX3_shifted_13 rfl (lv_at hl 0 rfl) ?_
    refine lv_bipush (v := (64 : Int32)) hx hb dX3_shifted_14 (by decide) ?_
    refine lv_iload hx hb dX3_shifted_16 (lv_at hl 2 rfl) ?_
    refine lv_isub hx hb dX3_shifted_18 ?_
    refine lv_lshl hx hb dX3_shifted_19 rfl ?_
    refine lv_lor hx hb dX3_shifted_20 ?_
    cases ho
    exact rtJ C0.1 hW dX3_shifted_21
  · replace ho := ite_t c1 ho
    refine lv_lload_n hx hb dX3_shifted_5 rfl (lv_at hl 1 rfl) ?_
    refine lv_goto (tgt := 21) hx hb dX3_shifted_6 (by decide) ?_
    cases ho
    exact rtJ C0.1 hW dX3_shifted_21
noncomputable def x3_turn_B83 (v1 : Int32) (v2 : Int32) (v3 : Int64) (v5 : Int32) (v6 : Int64) (v8 : Int32) (v9 : Int64) (v11 : Int32) (t : St) : Option ((Int32 × St) ⊕ (St)) :=
  if (gI t 306) < v11 then (some (.inr t)) else (if v11 = v2 then (nm (v11 + (1 : Int32)) (fun x14 : Int32 => some (.inl (x14, t)))) else (gd ((v8 * (gI t 307)) + v11) (gN t 303) (nm (gB t 303 (((v8 * (gI t 307)) + v11)).toNatClampNeg) (fun x4 : Int64 => gd ((v1 * (gI t 307)) + v11) (gN t 303) (nm (gB t 303 (((v1 * (gI t 307)) + v11)).toNatClampNeg) (fun x6 : Int64 => (x3_highOfDifference t x4 v3 v9 x6).bind (fun q7 => (x3_shifted t q7 ((x4 * v3) - (v9 * x6)) v5).bind (fun q9 => gd ((v8 * (gI t 307)) + v11) (gN t 303) (nm (sB t 303 ((v8 * (gI t 307)) + v11) (q9 * v6)) (fun t12 : St => nm (v11 + (1 : Int32)) (fun x13 : Int32 => some (.inl (x13, t12)))))))))))))
theorem mm_x3_turn_B83 (v1 : Int32) (v2 : Int32) (v3 : Int64) (v5 : Int32) (v6 : Int64) (v8 : Int32) (v9 : Int64) (v11 : Int32) (t : St) : MR (x3_turn_B83 v1 v2 v3 v5 v6 v8 v9 v11 t) t (Sum.elim (fun (x : Int32 × St) => x.2) (fun (y : St) => y)) := by
  unfold x3_turn_B83
  exact MR_ite (MR_some mle.rfl) (MR_ite (MR_nm (fun x14 _ => MR_some mle.rfl)) (MR_gd (MR_nm (fun x4 _ => MR_gd (MR_nm (fun x6 _ => MR_bindn (fun q7 => MR_bindn (fun q9 => MR_gd (MR_nmS mle_sB (fun t12 ht12 => MR_nm (fun x13 _ => MR_some ht12)))))))))))
theorem mm_x3_turn_L83 (v1 : Int32) (v2 : Int32) (v3 : Int64) (v5 : Int32) (v6 : Int64) (v8 : Int32) (v9 : Int64) (v11 : Int32) (t : St) : MR (lp (fun x => x3_turn_B83 v1 v2 v3 v5 v6 v8 v9 x.1 x.2) (v11, t)) t (fun (y : St) => y) := MR_lp (p := (fun (x : Int32 × St) => x.2)) (q := (fun (y : St) => y)) (fun x => mm_x3_turn_B83 v1 v2 v3 v5 v6 v8 v9 x.1 x.2) (v11, t)
noncomputable def x3_turn_B46 (v1 : Int32) (v2 : Int32) (v3 : Int64) (v5 : Int32) (v6 : Int64) (v8 : Int32) (t : St) : Option ((Int32 × St) ⊕ (St)) :=
  if (gI t 302) < v8 then (some (.inr t)) else (if v8 = v1 then (nm (v8 + (1 : Int32)) (fun x25 : Int32 => some (.inl (x25, t)))) else (gd ((v8 * (gI t 307)) + v2) (gN t 303) (nm (gB t 303 (((v8 * (gI t 307)) + v2)).toNatClampNeg) (fun x18 : Int64 => (lp (fun x => x3_turn_B83 v1 v2 v3 v5 v6 v8 x18 x.1 x.2) ((0 : Int32), t)).bind (fun y19 => gd ((v8 * (gI y19 307)) + v2) (gN y19 303) (nm (sB y19 303 ((v8 * (gI y19 307)) + v2) (-x18)) (fun t23 : St => nm (v8 + (1 : Int32)) (fun x24 : Int32 => some (.inl (x24, t23))))))))))
theorem mm_x3_turn_B46 (v1 : Int32) (v2 : Int32) (v3 : Int64) (v5 : Int32) (v6 : Int64) (v8 : Int32) (t : St) : MR (x3_turn_B46 v1 v2 v3 v5 v6 v8 t) t (Sum.elim (fun (x : Int32 × St) => x.2) (fun (y : St) => y)) := by
  unfold x3_turn_B46
  exact MR_ite (MR_some mle.rfl) (MR_ite (MR_nm (fun x25 _ => MR_some mle.rfl)) (MR_gd (MR_nm (fun x18 _ => MR_bind (mm_x3_turn_L83 v1 v2 v3 v5 v6 v8 x18 (0 : Int32) t) (fun y19 hm20 => MR_gd (MR_nmS mle_sB (fun t23 ht23 => MR_nm (fun x24 _ => MR_some (mle.trans hm20 ht23)))))))))
theorem mm_x3_turn_L46 (v1 : Int32) (v2 : Int32) (v3 : Int64) (v5 : Int32) (v6 : Int64) (v8 : Int32) (t : St) : MR (lp (fun x => x3_turn_B46 v1 v2 v3 v5 v6 x.1 x.2) (v8, t)) t (fun (y : St) => y) := MR_lp (p := (fun (x : Int32 × St) => x.2)) (q := (fun (y : St) => y)) (fun x => mm_x3_turn_B46 v1 v2 v3 v5 v6 x.1 x.2) (v8, t)
noncomputable def x3_turn (t : St) (a1 : Int32) (a2 : Int32) : Option (St) :=
  gd ((a1 * (gI t 307)) + a2) (gN t 303) (nm (gB t 303 (((a1 * (gI t 307)) + a2)).toNatClampNeg) (fun x27 : Int64 => (j13_bitCount_95d88 t (((gJ t 308) &&& (-(gJ t 308))) - (1 : Int64))).bind (fun q28 => (x3_inverseOf t (((gJ t 308) >>> ((q28).toInt64 &&& 63)))).bind (fun q30 => (lp (fun x => x3_turn_B46 a1 a2 x27 q28 q30 x.1 x.2) ((0 : Int32), t)).bind (fun y32 => gd ((a1 * (gI y32 307)) + a2) (gN y32 303) (nm (sB y32 303 ((a1 * (gI y32 307)) + a2) (gJ y32 308)) (fun t36 : St => nm (sJ t36 308 x27) (fun t37 : St => gd a1 (gN t37 304) (nm (gA t37 304 (a1).toNatClampNeg) (fun x39 : Int32 => gd a2 (gN t37 305) (gd a1 (gN t37 304) (nm (sA t37 304 a1 (gA t37 305 (a2).toNatClampNeg)) (fun t42 : St => gd a2 (gN t42 305) (nm (sA t42 305 a2 x39) (fun t44 : St => some t44)))))))))))))))
theorem mm_x3_turn (t : St) (a1 : Int32) (a2 : Int32) : MR (x3_turn t a1 a2) t (fun (a : St) => a) := by
  unfold x3_turn
  exact MR_gd (MR_nm (fun x27 _ => MR_bindn (fun q28 => MR_bindn (fun q30 => MR_bind (mm_x3_turn_L46 a1 a2 x27 q28 q30 (0 : Int32) t) (fun y32 hm33 => MR_gd (MR_nmS mle_sB (fun t36 ht36 => MR_nmS mle_sJ (fun t37 ht37 => MR_gd (MR_nm (fun x39 _ => MR_gd (MR_gd (MR_nmS mle_sA (fun t42 ht42 => MR_gd (MR_nmS mle_sA (fun t44 ht44 => MR_some (mle.trans (mle.trans (mle.trans (mle.trans hm33 ht36) ht37) ht42) ht44))))))))))))))))
set_option maxHeartbeats 4000000 in
set_option maxRecDepth 100000 in
theorem x3_turn_L83 {p : Program} {l : Launch} {e : Env} {s : State} {m : MethodId} {args : Array Value} {below : List Frame} {meth : Method} {c : Code} {Q : State → Prop} {D : va_G} {cI cJ cZ cR : ClassId} {am gm : Nat → Nat} {st : Nat} {A : Nat → Prop} (C0 : cxX p s m args meth c cX3_turn RX3 18 none D (tyX cI cJ cZ cR) st A) {v1 : Int32} {v2 : Int32} {v3 : Int64} {v5 : Int32} {v6 : Int64} {v8 : Int32} {v9 : Int64} {y : St} (hK0 : ∀ (H : Heap) (locs : List Loc) (ls : Array Slot), wl D A s (wX cI cJ cZ cR am gm y) H locs → lv_has ls 18 [(0, .ref (am 2003)), (1, .int v1), (2, .int v2), (3, .long v3), (5, .int v5), (6, .long v6), (8, .int v8), (9, .long v9)] → W p l e (rmN 2 59) s m args below meth c H locs 0 0 Q (F0 m 187 ls [])) :
    ∀ (n : Nat) (v11 : Int32) (t : St), lpn (fun x => x3_turn_B83 v1 v2 v3 v5 v6 v8 v9 x.1 x.2) n (v11, t) = some y → ∀ (H : Heap) (locs : List Loc) (ls : Array Slot), wl D A s (wX cI cJ cZ cR am gm t) H locs → lv_has ls 18 [(0, .ref (am 2003)), (1, .int v1), (2, .int v2), (3, .long v3), (5, .int v5), (6, .long v6), (8, .int v8), (9, .long v9), (11, .int v11)] → W p l e (rmN 2 59) s m args below meth c H locs 0 0 Q (F0 m 83 ls []) := by
  have hx := C0.1.1
  have hb := C0.1.2.1
  have hta := C0.1.2.2.2.2.2.1
  have hown := C0.1.2.2.2.2.1
  intro n
  induction n with
  | zero => intro _ _ h; cases h
  | succ n ih =>
    intro v11 t hrun H locs ls hW hl
    obtain ⟨o, ho, hrun⟩ := bd_some hrun
    unfold x3_turn_B83 at ho
    refine lv_iload hx hb dX3_turn_83 (lv_at hl 8 rfl) ?_
    refine lv_aload_n hx hb dX3_turn_85 rfl (lv_at hl 0 rfl) ?_
    refine xGET_306 C0 kw_497 hW dX3_turn_86 ?_
    refine lv_icmp_gt (tgt := 187) hx hb dX3_turn_89 (by decide) (fun c1 => ?_) (fun c1 => ?_)
    · replace ho := ite_t c1 ho
      cases ho
      cases hrun
      exact hK0 _ _ _ hW (lv_sub hl [0, 1, 2, 3, 4, 5, 6, 7] rfl)
    · replace ho := ite_f c1 ho
      refine lv_iload hx hb dX3_turn_92 (lv_at hl 8 rfl) ?_
      refine lv_iload_n hx hb dX3_turn_94 rfl (lv_at hl 2 rfl) ?_
      refine lv_icmp_ne (tgt := 101) hx hb dX3_turn_95 (by decide) (fun c2 => ?_) (fun c2 => ?_)
      · replace ho := ite_f c2 ho
        refine lv_aload_n hx hb dX3_turn_101 rfl (lv_at hl 0 rfl) ?_
        refine xGET_303 C0 kw_494 hW dX3_turn_102 ?_
        refine lv_iload hx hb dX3_turn_105 (lv_at hl 6 rfl) ?_
        refine lv_aload_n hx hb dX3_turn_107 rfl (lv_at hl 0 rfl) ?_
        refine xGET_307 C0 kw_498 hW dX3_turn_108 ?_
        refine lv_imul hx hb dX3_turn_111 ?_
        refine lv_iload hx hb dX3_turn_112 (lv_at hl 8 rfl) ?_
        refine lv_iadd hx hb dX3_turn_114 ?_
        obtain ⟨g3, ho⟩ := gd_some ho
        refine xLD_303 C0 hW g3 dX3_turn_115 ?_
        refine lv_nml ho (fun x4 ho => ?_)
        refine lv_lstore (lv' := [(12, .long x4), (0, .ref (am 2003)), (1, .int v1), (2, .int v2), (3, .long v3), (5, .int v5), (6, .long v6), (8, .int v8), (9, .long v9), (11, .int v11)]) hx hb dX3_turn_116 hl (by decide) rfl (fun ls hl => ?_)
        refine lv_aload_n hx hb dX3_turn_118 rfl (lv_at hl 1 rfl) ?_
        refine xGET_303 C0 kw_494 hW dX3_turn_119 ?_
        refine lv_iload_n hx hb dX3_turn_122 rfl (lv_at hl 2 rfl) ?_
        refine lv_aload_n hx hb dX3_turn_123 rfl (lv_at hl 1 rfl) ?_
        refine xGET_307 C0 kw_498 hW dX3_turn_124 ?_
        refine lv_imul hx hb dX3_turn_127 ?_
        refine lv_iload hx hb dX3_turn_128 (lv_at hl 9 rfl) ?_
        refine lv_iadd hx hb dX3_turn_130 ?_
        obtain ⟨g5, ho⟩ := gd_some ho
        refine xLD_303 C0 hW g5 dX3_turn_131 ?_
        refine lv_nml ho (fun x6 ho => ?_)
        refine lv_lstore (lv' := [(14, .long x6), (12, .long x4), (0, .ref (am 2003)), (1, .int v1), (2, .int v2), (3, .long v3), (5, .int v5), (6, .long v6), (8, .int v8), (9, .long v9), (11, .int v11)]) hx hb dX3_turn_132 hl (by decide) rfl (fun ls hl => ?_)
        refine lv_lload hx hb dX3_turn_134 (lv_at hl 1 rfl) ?_
        refine lv_lload_n hx hb dX3_turn_136 rfl (lv_at hl 5 rfl) ?_
        refine lv_lload hx hb dX3_turn_137 (lv_at hl 9 rfl) ?_
        refine lv_lload hx hb dX3_turn_139 (lv_at hl 0 rfl) ?_
        obtain ⟨q7, hc8, ho⟩ := bd_some ho
        refine bkJ C0.1 hW (runSX (As := [.long x4, .long v3, .long v9, .long x6]) (rest := []) C0 hW (c_x3_highOfDifference l _ t x4 v3 v9 x6 (r := q7) hc8) cb_X3_X3_highOfDifference_98 rfl rfl ⟨rfl, rfl⟩ ⟨Nat.le_of_ble_eq_true rfl, Nat.le_of_ble_eq_true rfl⟩ (Nat.le_of_ble_eq_true rfl) hl.1 dX3_turn_141 ⟨Nat.le_of_ble_eq_true rfl, Nat.le_of_ble_eq_true rfl⟩) (fun H locs hW => ?_)
        refine lv_lstore (lv' := [(16, .long q7), (14, .long x6), (12, .long x4), (0, .ref (am 2003)), (1, .int v1), (2, .int v2), (3, .long v3), (5, .int v5), (6, .long v6), (8, .int v8), (9, .long v9), (11, .int v11)]) hx hb dX3_turn_144 hl (by decide) rfl (fun ls hl => ?_)
        refine lv_aload_n hx hb dX3_turn_146 rfl (lv_at hl 3 rfl) ?_
        refine xGET_303 C0 kw_494 hW dX3_turn_147 ?_
        refine lv_iload hx hb dX3_turn_150 (lv_at hl 9 rfl) ?_
        refine lv_aload_n hx hb dX3_turn_152 rfl (lv_at hl 3 rfl) ?_
        refine xGET_307 C0 kw_498 hW dX3_turn_153 ?_
        refine lv_imul hx hb dX3_turn_156 ?_
        refine lv_iload hx hb dX3_turn_157 (lv_at hl 11 rfl) ?_
        refine lv_iadd hx hb dX3_turn_159 ?_
        refine lv_lload hx hb dX3_turn_160 (lv_at hl 0 rfl) ?_
        refine lv_lload hx hb dX3_turn_162 (lv_at hl 2 rfl) ?_
        refine lv_lload_n hx hb dX3_turn_164 rfl (lv_at hl 6 rfl) ?_
        refine lv_lmul hx hb dX3_turn_165 ?_
        refine lv_lload hx hb dX3_turn_166 (lv_at hl 10 rfl) ?_
        refine lv_lload hx hb dX3_turn_168 (lv_at hl 1 rfl) ?_
        refine lv_lmul hx hb dX3_turn_170 ?_
        refine lv_lsub hx hb dX3_turn_171 ?_
        refine lv_iload hx hb dX3_turn_172 (lv_at hl 7 rfl) ?_
        obtain ⟨q9, hc10, ho⟩ := bd_some ho
        refine bkJ C0.1 hW (runSX (As := [.long q7, .long ((x4 * v3) - (v9 * x6)), .int v5]) (rest := [.int ((v8 * (gI t 307)) + v11), .ref (am 303)]) C0 hW (c_x3_shifted l _ t q7 ((x4 * v3) - (v9 * x6)) v5 (r := q9) hc10) cb_X3_X3_shifted_112 rfl rfl ⟨rfl, rfl⟩ ⟨Nat.le_of_ble_eq_true rfl, Nat.le_of_ble_eq_true rfl⟩ (Nat.le_of_ble_eq_true rfl) hl.1 dX3_turn_174 ⟨Nat.le_of_ble_eq_true rfl, Nat.le_of_ble_eq_true rfl⟩) (fun H locs hW => ?_)
        refine lv_lload hx hb dX3_turn_177 (lv_at hl 8 rfl) ?_
        refine lv_lmul hx hb dX3_turn_179 ?_
        obtain ⟨g11, ho⟩ := gd_some ho
        refine xST_303 C0 hW g11 dX3_turn_180 (fun H locs hW => ?_)
        obtain ⟨t12, ho, hW⟩ := nm_w (P := fun t => wl D A s (wX cI cJ cZ cR am gm t) H locs) ho hW
        obtain ⟨x13, ex13, ho⟩ := nm_x ho
        refine lv_iinc (v := x13) (lv' := [(11, .int x13), (16, .long q7), (14, .long x6), (12, .long x4), (0, .ref (am 2003)), (1, .int v1), (2, .int v2), (3, .long v3), (5, .int v5), (6, .long v6), (8, .int v8), (9, .long v9)]) hx hb dX3_turn_181 hl (k := 11) rfl (by rw [ex13]; rfl) (by decide) rfl (fun ls hl => ?_)
        clear ex13
        refine lv_goto (tgt := 83) hx hb dX3_turn_184 (by decide) ?_
        cases ho
        exact ih _ _ hrun _ _ _ hW (lv_sub hl [4, 5, 6, 7, 8, 9, 10, 11, 0] rfl)
      · replace ho := ite_t c2 ho
        refine lv_goto (tgt := 181) hx hb dX3_turn_98 (by decide) ?_
        obtain ⟨x14, ex14, ho⟩ := nm_x ho
        refine lv_iinc (v := x14) (lv' := [(11, .int x14), (0, .ref (am 2003)), (1, .int v1), (2, .int v2), (3, .long v3), (5, .int v5), (6, .long v6), (8, .int v8), (9, .long v9)]) hx hb dX3_turn_181 hl (k := 8) rfl (by rw [ex14]; rfl) (by decide) rfl (fun ls hl => ?_)
        clear ex14
        refine lv_goto (tgt := 83) hx hb dX3_turn_184 (by decide) ?_
        cases ho
        exact ih _ _ hrun _ _ _ hW (lv_sub hl [1, 2, 3, 4, 5, 6, 7, 8, 0] rfl)
set_option maxHeartbeats 4000000 in
set_option maxRecDepth 100000 in
theorem x3_turn_L46 {p : Program} {l : Launch} {e : Env} {s : State} {m : MethodId} {args : Array Value} {below : List Frame} {meth : Method} {c : Code} {Q : State → Prop} {D : va_G} {cI cJ cZ cR : ClassId} {am gm : Nat → Nat} {st : Nat} {A : Nat → Prop} (C0 : cxX p s m args meth c cX3_turn RX3 18 none D (tyX cI cJ cZ cR) st A) {v1 : Int32} {v2 : Int32} {v3 : Int64} {v5 : Int32} {v6 : Int64} {y : St} (hK0 : ∀ (H : Heap) (locs : List Loc) (ls : Array Slot), wl D A s (wX cI cJ cZ cR am gm y) H locs → lv_has ls 18 [(0, .ref (am 2003)), (1, .int v1), (2, .int v2), (3, .long v3)] → W p l e (rmN 2 59) s m args below meth c H locs 0 0 Q (F0 m 210 ls [])) :
    ∀ (n : Nat) (v8 : Int32) (t : St), lpn (fun x => x3_turn_B46 v1 v2 v3 v5 v6 x.1 x.2) n (v8, t) = some y → ∀ (H : Heap) (locs : List Loc) (ls : Array Slot), wl D A s (wX cI cJ cZ cR am gm t) H locs → lv_has ls 18 [(0, .ref (am 2003)), (1, .int v1), (2, .int v2), (3, .long v3), (5, .int v5), (6, .long v6), (8, .int v8)] → W p l e (rmN 2 59) s m args below meth c H locs 0 0 Q (F0 m 46 ls []) := by
  have hx := C0.1.1
  have hb := C0.1.2.1
  have hta := C0.1.2.2.2.2.2.1
  have hown := C0.1.2.2.2.2.1
  intro n
  induction n with
  | zero => intro _ _ h; cases h
  | succ n ih =>
    intro v8 t hrun H locs ls hW hl
    obtain ⟨o, ho, hrun⟩ := bd_some hrun
    unfold x3_turn_B46 at ho
    refine lv_iload hx hb dX3_turn_46 (lv_at hl 6 rfl) ?_
    refine lv_aload_n hx hb dX3_turn_48 rfl (lv_at hl 0 rfl) ?_
    refine xGET_302 C0 kw_492 hW dX3_turn_49 ?_
    refine lv_icmp_gt (tgt := 210) hx hb dX3_turn_52 (by decide) (fun c15 => ?_) (fun c15 => ?_)
    · replace ho := ite_t c15 ho
      cases ho
      cases hrun
      exact hK0 _ _ _ hW (lv_sub hl [0, 1, 2, 3] rfl)
    · replace ho := ite_f c15 ho
      refine lv_iload hx hb dX3_turn_55 (lv_at hl 6 rfl) ?_
      refine lv_iload_n hx hb dX3_turn_57 rfl (lv_at hl 1 rfl) ?_
      refine lv_icmp_ne (tgt := 64) hx hb dX3_turn_58 (by decide) (fun c16 => ?_) (fun c16 => ?_)
      · replace ho := ite_f c16 ho
        refine lv_aload_n hx hb dX3_turn_64 rfl (lv_at hl 0 rfl) ?_
        refine xGET_303 C0 kw_494 hW dX3_turn_65 ?_
        refine lv_iload hx hb dX3_turn_68 (lv_at hl 6 rfl) ?_
        refine lv_aload_n hx hb dX3_turn_70 rfl (lv_at hl 0 rfl) ?_
        refine xGET_307 C0 kw_498 hW dX3_turn_71 ?_
        refine lv_imul hx hb dX3_turn_74 ?_
        refine lv_iload_n hx hb dX3_turn_75 rfl (lv_at hl 2 rfl) ?_
        refine lv_iadd hx hb dX3_turn_76 ?_
        obtain ⟨g17, ho⟩ := gd_some ho
        refine xLD_303 C0 hW g17 dX3_turn_77 ?_
        refine lv_nml ho (fun x18 ho => ?_)
        refine lv_lstore (lv' := [(9, .long x18), (0, .ref (am 2003)), (1, .int v1), (2, .int v2), (3, .long v3), (5, .int v5), (6, .long v6), (8, .int v8)]) hx hb dX3_turn_78 hl (by decide) rfl (fun ls hl => ?_)
        refine lv_iconst (v := (0 : Int32)) hx hb dX3_turn_80 (by decide) ?_
        refine lv_istore (lv' := [(11, .int (0 : Int32)), (9, .long x18), (0, .ref (am 2003)), (1, .int v1), (2, .int v2), (3, .long v3), (5, .int v5), (6, .long v6), (8, .int v8)]) hx hb dX3_turn_81 hl (by decide) rfl (fun ls hl => ?_)
        obtain ⟨y19, hc21, ho⟩ := bd_some ho
        obtain ⟨ny19, hc21⟩ := lp_to hc21
        refine x3_turn_L83 C0 ?_ ny19 _ _ hc21 _ _ _ hW (lv_sub hl [2, 3, 4, 5, 6, 7, 8, 1, 0] rfl)
        intro H locs ls hW hl
        refine lv_aload_n hx hb dX3_turn_187 rfl (lv_at hl 0 rfl) ?_
        refine xGET_303 C0 kw_494 hW dX3_turn_188 ?_
        refine lv_iload hx hb dX3_turn_191 (lv_at hl 6 rfl) ?_
        refine lv_aload_n hx hb dX3_turn_193 rfl (lv_at hl 0 rfl) ?_
        refine xGET_307 C0 kw_498 hW dX3_turn_194 ?_
        refine lv_imul hx hb dX3_turn_197 ?_
        refine lv_iload_n hx hb dX3_turn_198 rfl (lv_at hl 2 rfl) ?_
        refine lv_iadd hx hb dX3_turn_199 ?_
        refine lv_lload hx hb dX3_turn_200 (lv_at hl 7 rfl) ?_
        refine lv_lneg hx hb dX3_turn_202 ?_
        obtain ⟨g22, ho⟩ := gd_some ho
        refine xST_303 C0 hW g22 dX3_turn_203 (fun H locs hW => ?_)
        obtain ⟨t23, ho, hW⟩ := nm_w (P := fun t => wl D A s (wX cI cJ cZ cR am gm t) H locs) ho hW
        obtain ⟨x24, ex24, ho⟩ := nm_x ho
        refine lv_iinc (v := x24) (lv' := [(8, .int x24), (0, .ref (am 2003)), (1, .int v1), (2, .int v2), (3, .long v3), (5, .int v5), (6, .long v6), (9, .long x18)]) hx hb dX3_turn_204 hl (k := 6) rfl (by rw [ex24]; rfl) (by decide) rfl (fun ls hl => ?_)
        clear ex24
        refine lv_goto (tgt := 46) hx hb dX3_turn_207 (by decide) ?_
        cases ho
        exact ih _ _ hrun _ _ _ hW (lv_sub hl [1, 2, 3, 4, 5, 6, 0] rfl)
      · replace ho := ite_t c16 ho
        refine lv_goto (tgt := 204) hx hb dX3_turn_61 (by decide) ?_
        obtain ⟨x25, ex25, ho⟩ := nm_x ho
        refine lv_iinc (v := x25) (lv' := [(8, .int x25), (0, .ref (am 2003)), (1, .int v1), (2, .int v2), (3, .long v3), (5, .int v5), (6, .long v6)]) hx hb dX3_turn_204 hl (k := 6) rfl (by rw [ex25]; rfl) (by decide) rfl (fun ls hl => ?_)
        clear ex25
        refine lv_goto (tgt := 46) hx hb dX3_turn_207 (by decide) ?_
        cases ho
        exact ih _ _ hrun _ _ _ hW (lv_sub hl [1, 2, 3, 4, 5, 6, 0] rfl)
set_option maxHeartbeats 4000000 in
set_option maxRecDepth 100000 in
theorem c_x3_turn (l : Launch) {D : va_G} {cI cJ cZ cR : ClassId} {am gm : Nat → Nat} {st : Nat} (sz : Nat) (t : St) (a1 : Int32) (a2 : Int32) {t' : St} (ho : x3_turn t a1 a2 = some t') : Met l yX3_turn (.code yX3_turn cX3_turn 18 none :: wsAll) (rmN 2 59) (va_Pc [.ref (am 2003), .int a1, .int a2] (prX D (tyX cI cJ cZ cR) (wX cI cJ cZ cR am gm t) sz st)) (qV D (tyX cI cJ cZ cR) (wX cI cJ cZ cR am gm t') (va_A (wX cI cJ cZ cR am gm t) sz)) 0 0 (va_A (wX cI cJ cZ cR am gm t) sz) := by
  refine Met.ofW (cc := cX3_turn) (maxL := 18) (ret := none) (by decide) rfl ?_
  intro p e s m args below meth c s₁ B hml hv
  obtain ⟨rfl, ⟨hsz, hP, hK, hD0⟩, hsx⟩ := hv
  have hx := B.exec
  have hb := B.bytes
  have hts := atoms_spec (ws := (.code yX3_turn cX3_turn 18 none :: wsAll)) B.pre
  have hta := fun w h => hts w (List.mem_cons_of_mem _ h)
  have hown : s.vm.findClass RX3 = some m.cls := findClass_of_methodNamed B.named
  have hlocks := B.notSynchronized
  subst hsz
  have hD := hD0.self (sz := s.heap.size)
  generalize hAe : va_A (wX cI cJ cZ cR am gm t) s.heap.size = A at hD ⊢
  have hA : ∀ q : Nat, s.heap.size ≤ q → A q := fun q h => by rw [← hAe]; exact Or.inr h
  have C0 : cxX p s m ([.ref (am 2003), .int a1, .int a2].toArray) meth c cX3_turn RX3 18 none D (tyX cI cJ cZ cR) st A := ⟨⟨hx, hb, B.returns, hml, hown, hta, hlocks, hK, hA⟩, by rw [← hAe]; exact hsx⟩
  have hW : wl D A s (wX cI cJ cZ cR am gm t) s.heap [] := ⟨hP, hD, va_S.rf⟩
  have hl := lv_entry [.ref (am 2003), .int a1, .int a2] (n := 18) (Nat.le_of_ble_eq_true rfl)
  rw [lg_entry_eq]
  generalize (lg_sl [.ref (am 2003), .int a1, .int a2] ++ List.replicate (18 - (lg_sl [.ref (am 2003), .int a1, .int a2]).length) Slot.unset).toArray = ls at hl ⊢
  have hl : lv_has ls 18 [(0, .ref (am 2003)), (1, .int a1), (2, .int a2)] := hl
  unfold x3_turn at ho
  refine lv_aload_n hx hb dX3_turn_0 rfl (lv_at hl 0 rfl) ?_
  refine xGET_303 C0 kw_494 hW dX3_turn_1 ?_
  refine lv_iload_n hx hb dX3_turn_4 rfl (lv_at hl 1 rfl) ?_
  refine lv_aload_n hx hb dX3_turn_5 rfl (lv_at hl 0 rfl) ?_
  refine xGET_307 C0 kw_498 hW dX3_turn_6 ?_
  refine lv_imul hx hb dX3_turn_9 ?_
  refine lv_iload_n hx hb dX3_turn_10 rfl (lv_at hl 2 rfl) ?_
  refine lv_iadd hx hb dX3_turn_11 ?_
  obtain ⟨g26, ho⟩ := gd_some ho
  refine xLD_303 C0 hW g26 dX3_turn_12 ?_
  refine lv_nml ho (fun x27 ho => ?_)
  refine lv_lstore_n (lv' := [(3, .long x27), (0, .ref (am 2003)), (1, .int a1), (2, .int a2)]) hx hb dX3_turn_13 rfl hl (by decide) rfl (fun ls hl => ?_)
  refine lv_aload_n hx hb dX3_turn_14 rfl (lv_at hl 1 rfl) ?_
  refine xGET_308 C0 kw_499 hW dX3_turn_15 ?_
  refine lv_aload_n hx hb dX3_turn_18 rfl (lv_at hl 1 rfl) ?_
  refine xGET_308 C0 kw_499 hW dX3_turn_19 ?_
  refine lv_lneg hx hb dX3_turn_22 ?_
  refine lv_land hx hb dX3_turn_23 ?_
  refine lv_lconst (v := (1 : Int64)) hx hb dX3_turn_24 (by decide) ?_
  refine lv_lsub hx hb dX3_turn_25 ?_
  obtain ⟨q28, hc29, ho⟩ := bd_some ho
  refine bkI C0.1 hW (runSX (As := [.long (((gJ t 308) &&& (-(gJ t 308))) - (1 : Int64))]) (rest := []) C0 hW (c_j13_bitCount_95d88 l _ t (((gJ t 308) &&& (-(gJ t 308))) - (1 : Int64)) (r := q28) hc29) cb_X3_J13_bitCount_95d88_102 rfl rfl ⟨rfl, rfl⟩ ⟨Nat.le_of_ble_eq_true rfl, Nat.le_of_ble_eq_true rfl⟩ (Nat.le_of_ble_eq_true rfl) hl.1 dX3_turn_26 ⟨Nat.le_of_ble_eq_true rfl, Nat.le_of_ble_eq_true rfl⟩) (fun H locs hW => ?_)
  refine lv_istore (lv' := [(5, .int q28), (3, .long x27), (0, .ref (am 2003)), (1, .int a1), (2, .int a2)]) hx hb dX3_turn_29 hl (by decide) rfl (fun ls hl => ?_)
  refine lv_aload_n hx hb dX3_turn_31 rfl (lv_at hl 2 rfl) ?_
  refine xGET_308 C0 kw_499 hW dX3_turn_32 ?_
  refine lv_iload hx hb dX3_turn_35 (lv_at hl 0 rfl) ?_
  refine lv_lshr hx hb dX3_turn_37 rfl ?_
  obtain ⟨q30, hc31, ho⟩ := bd_some ho
  refine bkJ C0.1 hW (runSX (As := [.long (((gJ t 308) >>> ((q28).toInt64 &&& 63)))]) (rest := []) C0 hW (c_x3_inverseOf l _ t (((gJ t 308) >>> ((q28).toInt64 &&& 63))) (r := q30) hc31) cb_X3_X3_inverseOf_108 rfl rfl ⟨rfl, rfl⟩ ⟨Nat.le_of_ble_eq_true rfl, Nat.le_of_ble_eq_true rfl⟩ (Nat.le_of_ble_eq_true rfl) hl.1 dX3_turn_38 ⟨Nat.le_of_ble_eq_true rfl, Nat.le_of_ble_eq_true rfl⟩) (fun H locs hW => ?_)
  refine lv_lstore (lv' := [(6, .long q30), (5, .int q28), (3, .long x27), (0, .ref (am 2003)), (1, .int a1), (2, .int a2)]) hx hb dX3_turn_41 hl (by decide) rfl (fun ls hl => ?_)
  refine lv_iconst (v := (0 : Int32)) hx hb dX3_turn_43 (by decide) ?_
  refine lv_istore (lv' := [(8, .int (0 : Int32)), (6, .long q30), (5, .int q28), (3, .long x27), (0, .ref (am 2003)), (1, .int a1), (2, .int a2)]) hx hb dX3_turn_44 hl (by decide) rfl (fun ls hl => ?_)
  obtain ⟨y32, hc34, ho⟩ := bd_some ho
  obtain ⟨ny32, hc34⟩ := lp_to hc34
  refine x3_turn_L46 C0 ?_ ny32 _ _ hc34 _ _ _ hW (lv_sub hl [4, 5, 6, 3, 2, 1, 0] rfl)
  intro H locs ls hW hl
  refine lv_aload_n hx hb dX3_turn_210 rfl (lv_at hl 0 rfl) ?_
  refine xGET_303 C0 kw_494 hW dX3_turn_211 ?_
  refine lv_iload_n hx hb dX3_turn_214 rfl (lv_at hl 1 rfl) ?_
  refine lv_aload_n hx hb dX3_turn_215 rfl (lv_at hl 0 rfl) ?_
  refine xGET_307 C0 kw_498 hW dX3_turn_216 ?_
  refine lv_imul hx hb dX3_turn_219 ?_
  refine lv_iload_n hx hb dX3_turn_220 rfl (lv_at hl 2 rfl) ?_
  refine lv_iadd hx hb dX3_turn_221 ?_
  refine lv_aload_n hx hb dX3_turn_222 rfl (lv_at hl 0 rfl) ?_
  refine xGET_308 C0 kw_499 hW dX3_turn_223 ?_
  obtain ⟨g35, ho⟩ := gd_some ho
  refine xST_303 C0 hW g35 dX3_turn_226 (fun H locs hW => ?_)
  obtain ⟨t36, ho, hW⟩ := nm_w (P := fun t => wl D A s (wX cI cJ cZ cR am gm t) H locs) ho hW
  refine lv_aload_n hx hb dX3_turn_227 rfl (lv_at hl 0 rfl) ?_
  refine lv_lload_n hx hb dX3_turn_228 rfl (lv_at hl 3 rfl) ?_
  refine xPUT_308 C0 kw_499 hW dX3_turn_229 (fun H locs hW => ?_)
  obtain ⟨t37, ho, hW⟩ := nm_w (P := fun t => wl D A s (wX cI cJ cZ cR am gm t) H locs) ho hW
  refine lv_aload_n hx hb dX3_turn_232 rfl (lv_at hl 0 rfl) ?_
  refine xGET_304 C0 kw_495 hW dX3_turn_233 ?_
  refine lv_iload_n hx hb dX3_turn_236 rfl (lv_at hl 1 rfl) ?_
  obtain ⟨g38, ho⟩ := gd_some ho
  refine xLD_304 C0 hW g38 dX3_turn_237 ?_
  refine lv_nmi ho (fun x39 ho => ?_)
  refine lv_istore (lv' := [(8, .int x39), (0, .ref (am 2003)), (1, .int a1), (2, .int a2), (3, .long x27)]) hx hb dX3_turn_238 hl (by decide) rfl (fun ls hl => ?_)
  refine lv_aload_n hx hb dX3_turn_240 rfl (lv_at hl 1 rfl) ?_
  refine xGET_304 C0 kw_495 hW dX3_turn_241 ?_
  refine lv_iload_n hx hb dX3_turn_244 rfl (lv_at hl 2 rfl) ?_
  refine lv_aload_n hx hb dX3_turn_245 rfl (lv_at hl 1 rfl) ?_
  refine xGET_305 C0 kw_496 hW dX3_turn_246 ?_
  refine lv_iload_n hx hb dX3_turn_249 rfl (lv_at hl 3 rfl) ?_
  obtain ⟨g40, ho⟩ := gd_some ho
  refine xLD_305 C0 hW g40 dX3_turn_250 ?_
  obtain ⟨g41, ho⟩ := gd_some ho
  refine xST_304 C0 hW g41 dX3_turn_251 (fun H locs hW => ?_)
  obtain ⟨t42, ho, hW⟩ := nm_w (P := fun t => wl D A s (wX cI cJ cZ cR am gm t) H locs) ho hW
  refine lv_aload_n hx hb dX3_turn_252 rfl (lv_at hl 1 rfl) ?_
  refine xGET_305 C0 kw_496 hW dX3_turn_253 ?_
  refine lv_iload_n hx hb dX3_turn_256 rfl (lv_at hl 3 rfl) ?_
  refine lv_iload hx hb dX3_turn_257 (lv_at hl 0 rfl) ?_
  obtain ⟨g43, ho⟩ := gd_some ho
  refine xST_305 C0 hW g43 dX3_turn_259 (fun H locs hW => ?_)
  obtain ⟨t44, ho, hW⟩ := nm_w (P := fun t => wl D A s (wX cI cJ cZ cR am gm t) H locs) ho hW
  cases ho
  exact rtV C0.1 hW dX3_turn_260
