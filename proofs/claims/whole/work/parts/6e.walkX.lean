noncomputable def x8_bit (t : St) (a1 : Int32) : Option (Int32) :=
  gd ((gI t 806) + (a1 >>> ((6 : Int32) &&& 31))) (gN t 808) (some ((((((gB t 808 (((gI t 806) + (a1 >>> ((6 : Int32) &&& 31)))).toNatClampNeg)).toUInt64 >>> (((a1 &&& (63 : Int32))).toInt64.toUInt64 &&& Int64.toUInt64 63)).toInt64) &&& (1 : Int64))).toInt32)
set_option maxHeartbeats 4000000 in
set_option maxRecDepth 100000 in
theorem c_x8_bit (l : Launch) {D : va_G} {cI cJ cZ cR : ClassId} {am gm : Nat → Nat} {st : Nat} (sz : Nat) (t : St) (a1 : Int32) {r : Int32} (ho : x8_bit t a1 = some r) : Met l yX8_bit (.code yX8_bit cX8_bit 2 (some .int) :: wsAll) (rmN 0 0) (va_Pc [.ref (am 2008), .int a1] (prX D (tyX cI cJ cZ cR) (wX cI cJ cZ cR am gm t) sz st)) (qI r D (tyX cI cJ cZ cR) (wX cI cJ cZ cR am gm t) (va_A (wX cI cJ cZ cR am gm t) sz)) 0 0 (va_A (wX cI cJ cZ cR am gm t) sz) := by
  refine Met.ofW (cc := cX8_bit) (maxL := 2) (ret := (some .int)) (by decide) rfl ?_
  intro p e s m args below meth c s₁ B hml hv
  obtain ⟨rfl, ⟨hsz, hP, hK, hD0⟩, hsx⟩ := hv
  have hx := B.exec
  have hb := B.bytes
  have hts := atoms_spec (ws := (.code yX8_bit cX8_bit 2 (some .int) :: wsAll)) B.pre
  have hta := fun w h => hts w (List.mem_cons_of_mem _ h)
  have hown : s.vm.findClass RX8 = some m.cls := findClass_of_methodNamed B.named
  have hlocks := B.notSynchronized
  subst hsz
  have hD := hD0.self (sz := s.heap.size)
  generalize hAe : va_A (wX cI cJ cZ cR am gm t) s.heap.size = A at hD ⊢
  have hA : ∀ q : Nat, s.heap.size ≤ q → A q := fun q h => by rw [← hAe]; exact Or.inr h
  have C0 : cxX p s m ([.ref (am 2008), .int a1].toArray) meth c cX8_bit RX8 2 (some .int) D (tyX cI cJ cZ cR) st A := ⟨⟨hx, hb, B.returns, hml, hown, hta, hlocks, hK, hA⟩, by rw [← hAe]; exact hsx⟩
  have hW : wl D A s (wX cI cJ cZ cR am gm t) s.heap [] := ⟨hP, hD, va_S.rf⟩
  have hl := lv_entry [.ref (am 2008), .int a1] (n := 2) (Nat.le_of_ble_eq_true rfl)
  rw [lg_entry_eq]
  generalize (lg_sl [.ref (am 2008), .int a1] ++ List.replicate (2 - (lg_sl [.ref (am 2008), .int a1]).length) Slot.unset).toArray = ls at hl ⊢
  have hl : lv_has ls 2 [(0, .ref (am 2008)), (1, .int a1)] := hl
  unfold x8_bit at ho
  refine lv_aload_n hx hb dX8_bit_0 rfl (lv_at hl 0 rfl) ?_
  refine xGET_808 C0 kw_285 hW dX8_bit_1 ?_
  refine lv_aload_n hx hb dX8_bit_4 rfl (lv_at hl 0 rfl) ?_
  refine xGET_806 C0 kw_281 hW dX8_bit_5 ?_
  refine lv_iload_n hx hb dX8_bit_8 rfl (lv_at hl 1 rfl) ?_
  refine lv_bipush (v := (6 : Int32)) hx hb dX8_bit_9 (by decide) ?_
  refine lv_ishr hx hb dX8_bit_11 ?_
  refine lv_iadd hx hb dX8_bit_12 ?_
  obtain ⟨g1, ho⟩ := gd_some ho
  refine xLD_808 C0 hW g1 dX8_bit_13 ?_
  refine lv_iload_n hx hb dX8_bit_14 rfl (lv_at hl 1 rfl) ?_
  refine lv_bipush (v := (63 : Int32)) hx hb dX8_bit_15 (by decide) ?_
  refine lv_iand hx hb dX8_bit_17 ?_
  refine lv_lushr hx hb dX8_bit_18 rfl ?_
  refine lv_lconst (v := (1 : Int64)) hx hb dX8_bit_19 (by decide) ?_
  refine lv_land hx hb dX8_bit_20 ?_
  refine lv_l2i hx hb dX8_bit_21 rfl ?_
  cases ho
  exact rtI C0.1 hW dX8_bit_22
noncomputable def x0_draw_B116 (v2 : Int32) (v3 : Int32) (v4 : Int32) (t : St) : Option ((Int32 × St) ⊕ (St)) :=
  if v2 ≤ v4 then (some (.inr t)) else (gd v4 (gN t 7) (gd (v4 + v2) (gN t 7) ((x0_nodeFor t v3 (gA t 7 (v4).toNatClampNeg) (gA t 7 ((v4 + v2)).toNatClampNeg)).bind (fun q4 => gd v4 (gN q4.2 7) (nm (sA q4.2 7 v4 q4.1) (fun t7 : St => nm (v4 + (1 : Int32)) (fun x8 : Int32 => some (.inl (x8, t7)))))))))
theorem mm_x0_draw_B116 (v2 : Int32) (v3 : Int32) (v4 : Int32) (t : St) : MR (x0_draw_B116 v2 v3 v4 t) t (Sum.elim (fun (x : Int32 × St) => x.2) (fun (y : St) => y)) := by
  unfold x0_draw_B116
  exact MR_ite (MR_some mle.rfl) (MR_gd (MR_gd (MR_bind (mm_x0_nodeFor t v3 (gA t 7 (v4).toNatClampNeg) (gA t 7 ((v4 + v2)).toNatClampNeg)) (fun q4 hq4 => MR_gd (MR_nmS mle_sA (fun t7 ht7 => MR_nm (fun x8 _ => MR_some (mle.trans hq4 ht7))))))))
theorem mm_x0_draw_L116 (v2 : Int32) (v3 : Int32) (v4 : Int32) (t : St) : MR (lp (fun x => x0_draw_B116 v2 v3 x.1 x.2) (v4, t)) t (fun (y : St) => y) := MR_lp (p := (fun (x : Int32 × St) => x.2)) (q := (fun (y : St) => y)) (fun x => mm_x0_draw_B116 v2 v3 x.1 x.2) (v4, t)
noncomputable def x0_draw_B47 (v2 : Int32) (v3 : Int32) (t : St) : Option ((Int32 × St) ⊕ (St)) :=
  if v2 ≤ v3 then (some (.inr t)) else ((x8_bit t v3).bind (fun q10 => (x8_bit t (v3 + v2)).bind (fun q12 => (x0_nodeFor t ((gI t 803) - (1 : Int32)) q10 q12).bind (fun q14 => gd v3 (gN q14.2 7) (nm (sA q14.2 7 v3 q14.1) (fun t17 : St => nm (v3 + (1 : Int32)) (fun x18 : Int32 => some (.inl (x18, t17)))))))))
theorem mm_x0_draw_B47 (v2 : Int32) (v3 : Int32) (t : St) : MR (x0_draw_B47 v2 v3 t) t (Sum.elim (fun (x : Int32 × St) => x.2) (fun (y : St) => y)) := by
  unfold x0_draw_B47
  exact MR_ite (MR_some mle.rfl) (MR_bindn (fun q10 => MR_bindn (fun q12 => MR_bind (mm_x0_nodeFor t ((gI t 803) - (1 : Int32)) q10 q12) (fun q14 hq14 => MR_gd (MR_nmS mle_sA (fun t17 ht17 => MR_nm (fun x18 _ => MR_some (mle.trans hq14 ht17))))))))
theorem mm_x0_draw_L47 (v2 : Int32) (v3 : Int32) (t : St) : MR (lp (fun x => x0_draw_B47 v2 x.1 x.2) (v3, t)) t (fun (y : St) => y) := MR_lp (p := (fun (x : Int32 × St) => x.2)) (q := (fun (y : St) => y)) (fun x => mm_x0_draw_B47 v2 x.1 x.2) (v3, t)
noncomputable def x0_draw_B105 (v3 : Int32) (t : St) : Option ((Int32 × St) ⊕ (St)) :=
  if v3 < 0 then (some (.inr t)) else (nm ((1 : Int32) <<< (v3 &&& 31)) (fun x20 : Int32 => (lp (fun x => x0_draw_B116 x20 v3 x.1 x.2) ((0 : Int32), t)).bind (fun y21 => nm (v3 + (-1 : Int32)) (fun x24 : Int32 => some (.inl (x24, y21))))))
theorem mm_x0_draw_B105 (v3 : Int32) (t : St) : MR (x0_draw_B105 v3 t) t (Sum.elim (fun (x : Int32 × St) => x.2) (fun (y : St) => y)) := by
  unfold x0_draw_B105
  exact MR_ite (MR_some mle.rfl) (MR_nm (fun x20 _ => MR_bind (mm_x0_draw_L116 x20 v3 (0 : Int32) t) (fun y21 hm22 => MR_nm (fun x24 _ => MR_some hm22))))
theorem mm_x0_draw_L105 (v3 : Int32) (t : St) : MR (lp (fun x => x0_draw_B105 x.1 x.2) (v3, t)) t (fun (y : St) => y) := MR_lp (p := (fun (x : Int32 × St) => x.2)) (q := (fun (y : St) => y)) (fun x => mm_x0_draw_B105 x.1 x.2) (v3, t)
noncomputable def x0_draw_J33 (t : St) : Option (St) :=
  nm ((1 : Int32) <<< (((gI t 803) - (1 : Int32)) &&& 31)) (fun x25 : Int32 => (lp (fun x => x0_draw_B47 x25 x.1 x.2) ((0 : Int32), t)).bind (fun y26 => nm ((gI y26 803) - (2 : Int32)) (fun x29 : Int32 => (lp (fun x => x0_draw_B105 x.1 x.2) (x29, y26)).bind (fun y30 => gd (0 : Int32) (gN y30 7) (nm (sI y30 4 (gA y30 7 ((0 : Int32)).toNatClampNeg)) (fun t34 : St => some t34))))))
theorem mm_x0_draw_J33 (t : St) : MR (x0_draw_J33 t) t (fun (a : St) => a) := by
  unfold x0_draw_J33
  exact MR_nm (fun x25 _ => MR_bind (mm_x0_draw_L47 x25 (0 : Int32) t) (fun y26 hm27 => MR_nm (fun x29 _ => MR_bind (mm_x0_draw_L105 x29 y26) (fun y30 hm31 => MR_gd (MR_nmS mle_sI (fun t34 ht34 => MR_some (mle.trans (mle.trans hm27 hm31) ht34)))))))
noncomputable def x0_draw_J8 (t : St) (v1 : Int32) : Option (St) :=
  if v1 = (gI t 2) then (some t) else (nm (sI t 2 v1) (fun t36 : St => (x0_makeRoom t36 (gI t36 803)).bind (fun q37 => x0_draw_J33 q37)))
theorem mm_x0_draw_J8 (t : St) (v1 : Int32) : MR (x0_draw_J8 t v1) t (fun (a : St) => a) := by
  unfold x0_draw_J8
  exact MR_ite (MR_some mle.rfl) (MR_nmS mle_sI (fun t36 ht36 => MR_bind (mm_x0_makeRoom t36 (gI t36 803)) (fun q37 hq37 => MR_wk (mle.trans ht36 hq37) (mm_x0_draw_J33 q37))))
noncomputable def x0_draw (t0 : St) (a1 : Int32) : Option (St) :=
  (x8_fillFor t0 a1).bind (fun q39 => x0_draw_J8 q39 a1)
theorem mm_x0_draw (t0 : St) (a1 : Int32) : MR (x0_draw t0 a1) t0 (fun (a : St) => a) := by
  unfold x0_draw
  exact MR_bind (mm_x8_fillFor t0 a1) (fun q39 hq39 => MR_wk hq39 (mm_x0_draw_J8 q39 a1))
set_option maxHeartbeats 4000000 in
set_option maxRecDepth 100000 in
theorem x0_draw_L116 {p : Program} {l : Launch} {e : Env} {s : State} {m : MethodId} {args : Array Value} {below : List Frame} {meth : Method} {c : Code} {Q : State → Prop} {D : va_G} {cI cJ cZ cR : ClassId} {am gm : Nat → Nat} {st : Nat} {A : Nat → Prop} (C0 : cxX p s m args meth c cX0_draw RX0 5 none D (tyX cI cJ cZ cR) st A) {t0 t' : St} {cells slots : Nat} (hR : cells ≤ mC t0 t' ∧ slots ≤ mS t0 t') {v2 : Int32} {v3 : Int32} {y : St} (hK0 : ∀ (H : Heap) (locs : List Loc) (ls : Array Slot), wl D A s (wX cI cJ cZ cR am gm y) H locs → lv_has ls 5 [(0, .ref (am 2000)), (3, .int v3)] → W p l e (rmA 4 97 t0 t') s m args below meth c H locs cells slots Q (F0 m 156 ls [])) :
    ∀ (n : Nat) (v4 : Int32) (t : St), lpn (fun x => x0_draw_B116 v2 v3 x.1 x.2) n (v4, t) = some y → ∀ (H : Heap) (locs : List Loc) (ls : Array Slot), wl D A s (wX cI cJ cZ cR am gm t) H locs → lv_has ls 5 [(0, .ref (am 2000)), (2, .int v2), (3, .int v3), (4, .int v4)] → W p l e (rmA 4 97 t0 t') s m args below meth c H locs cells slots Q (F0 m 116 ls []) := by
  have hx := C0.1.1
  have hb := C0.1.2.1
  have hta := C0.1.2.2.2.2.2.1
  have hown := C0.1.2.2.2.2.1
  intro n
  induction n with
  | zero => intro _ _ h; cases h
  | succ n ih =>
    intro v4 t hrun H locs ls hW hl
    obtain ⟨o, ho, hrun⟩ := bd_some hrun
    unfold x0_draw_B116 at ho
    refine lv_iload hx hb dX0_draw_116 (lv_at hl 3 rfl) ?_
    refine lv_iload_n hx hb dX0_draw_118 rfl (lv_at hl 1 rfl) ?_
    refine lv_icmp_ge (tgt := 156) hx hb dX0_draw_119 (by decide) (fun c1 => ?_) (fun c1 => ?_)
    · replace ho := ite_t c1 ho
      cases ho
      cases hrun
      exact hK0 _ _ _ hW (lv_sub hl [0, 2] rfl)
    · replace ho := ite_f c1 ho
      refine lv_aload_n hx hb dX0_draw_122 rfl (lv_at hl 0 rfl) ?_
      refine xGET_7 C0 kw_391 hW dX0_draw_123 ?_
      refine lv_iload hx hb dX0_draw_126 (lv_at hl 3 rfl) ?_
      refine lv_aload_n hx hb dX0_draw_128 rfl (lv_at hl 0 rfl) ?_
      refine lv_iload_n hx hb dX0_draw_129 rfl (lv_at hl 2 rfl) ?_
      refine lv_aload_n hx hb dX0_draw_130 rfl (lv_at hl 0 rfl) ?_
      refine xGET_7 C0 kw_391 hW dX0_draw_131 ?_
      refine lv_iload hx hb dX0_draw_134 (lv_at hl 3 rfl) ?_
      obtain ⟨g2, ho⟩ := gd_some ho
      refine xLD_7 C0 hW g2 dX0_draw_136 ?_
      refine lv_aload_n hx hb dX0_draw_137 rfl (lv_at hl 0 rfl) ?_
      refine xGET_7 C0 kw_391 hW dX0_draw_138 ?_
      refine lv_iload hx hb dX0_draw_141 (lv_at hl 3 rfl) ?_
      refine lv_iload_n hx hb dX0_draw_143 rfl (lv_at hl 1 rfl) ?_
      refine lv_iadd hx hb dX0_draw_144 ?_
      obtain ⟨g3, ho⟩ := gd_some ho
      refine xLD_7 C0 hW g3 dX0_draw_145 ?_
      obtain ⟨q4, hc5, ho⟩ := bd_some ho
      have hq4 := mm_x0_nodeFor t v3 (gA t 7 (v4).toNatClampNeg) (gA t 7 ((v4 + v2)).toNatClampNeg) _ hc5
      refine bkI C0.1 hW (runVX (As := [.int v3, .int (gA t 7 (v4).toNatClampNeg), .int (gA t 7 ((v4 + v2)).toNatClampNeg)]) (rest := [.int v4, .ref (gm 7)]) C0 hW (c_x0_nodeFor l _ t v3 (gA t 7 (v4).toNatClampNeg) (gA t 7 ((v4 + v2)).toNatClampNeg) (r := q4.1) (t' := q4.2) hc5) cb_X0_X0_nodeFor_78 0 0 rfl rfl rfl rfl rfl ⟨rfl, rfl⟩ ⟨Nat.le_of_ble_eq_true rfl, Nat.le_of_ble_eq_true rfl⟩ (Nat.le_of_ble_eq_true rfl) hl.1 dX0_draw_146 ⟨hR.1, hR.2⟩) (fun H locs hW => ?_)
      obtain ⟨g6, ho⟩ := gd_some ho
      refine xST_7 C0 hW g6 dX0_draw_149 (fun H locs hW => ?_)
      obtain ⟨t7, ht7, ho, hW⟩ := nm_wm (P := fun t => wl D A s (wX cI cJ cZ cR am gm t) H locs) mle_sA ho hW
      obtain ⟨x8, ex8, ho⟩ := nm_x ho
      refine lv_iinc (v := x8) (lv' := [(4, .int x8), (0, .ref (am 2000)), (2, .int v2), (3, .int v3)]) hx hb dX0_draw_150 hl (k := 3) rfl (by rw [ex8]; rfl) (by decide) rfl (fun ls hl => ?_)
      clear ex8
      refine lv_goto (tgt := 116) hx hb dX0_draw_153 (by decide) ?_
      cases ho
      exact ih _ _ hrun _ _ _ hW (lv_sub hl [1, 2, 3, 0] rfl)
set_option maxHeartbeats 4000000 in
set_option maxRecDepth 100000 in
theorem x0_draw_L47 {p : Program} {l : Launch} {e : Env} {s : State} {m : MethodId} {args : Array Value} {below : List Frame} {meth : Method} {c : Code} {Q : State → Prop} {D : va_G} {cI cJ cZ cR : ClassId} {am gm : Nat → Nat} {st : Nat} {A : Nat → Prop} (C0 : cxX p s m args meth c cX0_draw RX0 5 none D (tyX cI cJ cZ cR) st A) {t0 t' : St} {cells slots : Nat} (hR : cells ≤ mC t0 t' ∧ slots ≤ mS t0 t') {v2 : Int32} {y : St} (hK0 : ∀ (H : Heap) (locs : List Loc) (ls : Array Slot), wl D A s (wX cI cJ cZ cR am gm y) H locs → lv_has ls 5 [(0, .ref (am 2000))] → W p l e (rmA 4 97 t0 t') s m args below meth c H locs cells slots Q (F0 m 95 ls [])) :
    ∀ (n : Nat) (v3 : Int32) (t : St), lpn (fun x => x0_draw_B47 v2 x.1 x.2) n (v3, t) = some y → ∀ (H : Heap) (locs : List Loc) (ls : Array Slot), wl D A s (wX cI cJ cZ cR am gm t) H locs → lv_has ls 5 [(0, .ref (am 2000)), (2, .int v2), (3, .int v3)] → W p l e (rmA 4 97 t0 t') s m args below meth c H locs cells slots Q (F0 m 47 ls []) := by
  have hx := C0.1.1
  have hb := C0.1.2.1
  have hta := C0.1.2.2.2.2.2.1
  have hown := C0.1.2.2.2.2.1
  intro n
  induction n with
  | zero => intro _ _ h; cases h
  | succ n ih =>
    intro v3 t hrun H locs ls hW hl
    obtain ⟨o, ho, hrun⟩ := bd_some hrun
    unfold x0_draw_B47 at ho
    refine lv_iload_n hx hb dX0_draw_47 rfl (lv_at hl 2 rfl) ?_
    refine lv_iload_n hx hb dX0_draw_48 rfl (lv_at hl 1 rfl) ?_
    refine lv_icmp_ge (tgt := 95) hx hb dX0_draw_49 (by decide) (fun c9 => ?_) (fun c9 => ?_)
    · replace ho := ite_t c9 ho
      cases ho
      cases hrun
      exact hK0 _ _ _ hW (lv_sub hl [0] rfl)
    · replace ho := ite_f c9 ho
      refine lv_aload_n hx hb dX0_draw_52 rfl (lv_at hl 0 rfl) ?_
      refine xGET_7 C0 kw_391 hW dX0_draw_53 ?_
      refine lv_iload_n hx hb dX0_draw_56 rfl (lv_at hl 2 rfl) ?_
      refine lv_aload_n hx hb dX0_draw_57 rfl (lv_at hl 0 rfl) ?_
      refine lv_aload_n hx hb dX0_draw_58 rfl (lv_at hl 0 rfl) ?_
      refine xGET_1 C0 kw_383 hW dX0_draw_59 ?_
      refine xGET_803 C0 kw_275 hW dX0_draw_62 ?_
      refine lv_iconst (v := (1 : Int32)) hx hb dX0_draw_65 (by decide) ?_
      refine lv_isub hx hb dX0_draw_66 ?_
      refine lv_aload_n hx hb dX0_draw_67 rfl (lv_at hl 0 rfl) ?_
      refine xGET_1 C0 kw_383 hW dX0_draw_68 ?_
      refine lv_iload_n hx hb dX0_draw_71 rfl (lv_at hl 2 rfl) ?_
      obtain ⟨q10, hc11, ho⟩ := bd_some ho
      refine bkI C0.1 hW (runVX (As := [.int v3]) (rest := [.int ((gI t 803) - (1 : Int32)), .ref (am 2000), .int v3, .ref (gm 7)]) C0 hW (c_x8_bit l _ t v3 (r := q10) hc11) cb_X0_X8_bit_74 8 8 rfl rfl rfl rfl rfl ⟨rfl, rfl⟩ ⟨Nat.le_of_ble_eq_true rfl, Nat.le_of_ble_eq_true rfl⟩ (Nat.le_of_ble_eq_true rfl) hl.1 dX0_draw_72 ⟨hR.1, hR.2⟩) (fun H locs hW => ?_)
      refine lv_aload_n hx hb dX0_draw_75 rfl (lv_at hl 0 rfl) ?_
      refine xGET_1 C0 kw_383 hW dX0_draw_76 ?_
      refine lv_iload_n hx hb dX0_draw_79 rfl (lv_at hl 2 rfl) ?_
      refine lv_iload_n hx hb dX0_draw_80 rfl (lv_at hl 1 rfl) ?_
      refine lv_iadd hx hb dX0_draw_81 ?_
      obtain ⟨q12, hc13, ho⟩ := bd_some ho
      refine bkI C0.1 hW (runVX (As := [.int (v3 + v2)]) (rest := [.int q10, .int ((gI t 803) - (1 : Int32)), .ref (am 2000), .int v3, .ref (gm 7)]) C0 hW (c_x8_bit l _ t (v3 + v2) (r := q12) hc13) cb_X0_X8_bit_74 8 8 rfl rfl rfl rfl rfl ⟨rfl, rfl⟩ ⟨Nat.le_of_ble_eq_true rfl, Nat.le_of_ble_eq_true rfl⟩ (Nat.le_of_ble_eq_true rfl) hl.1 dX0_draw_82 ⟨hR.1, hR.2⟩) (fun H locs hW => ?_)
      obtain ⟨q14, hc15, ho⟩ := bd_some ho
      have hq14 := mm_x0_nodeFor t ((gI t 803) - (1 : Int32)) q10 q12 _ hc15
      refine bkI C0.1 hW (runVX (As := [.int ((gI t 803) - (1 : Int32)), .int q10, .int q12]) (rest := [.int v3, .ref (gm 7)]) C0 hW (c_x0_nodeFor l _ t ((gI t 803) - (1 : Int32)) q10 q12 (r := q14.1) (t' := q14.2) hc15) cb_X0_X0_nodeFor_78 0 0 rfl rfl rfl rfl rfl ⟨rfl, rfl⟩ ⟨Nat.le_of_ble_eq_true rfl, Nat.le_of_ble_eq_true rfl⟩ (Nat.le_of_ble_eq_true rfl) hl.1 dX0_draw_85 ⟨hR.1, hR.2⟩) (fun H locs hW => ?_)
      obtain ⟨g16, ho⟩ := gd_some ho
      refine xST_7 C0 hW g16 dX0_draw_88 (fun H locs hW => ?_)
      obtain ⟨t17, ht17, ho, hW⟩ := nm_wm (P := fun t => wl D A s (wX cI cJ cZ cR am gm t) H locs) mle_sA ho hW
      obtain ⟨x18, ex18, ho⟩ := nm_x ho
      refine lv_iinc (v := x18) (lv' := [(3, .int x18), (0, .ref (am 2000)), (2, .int v2)]) hx hb dX0_draw_89 hl (k := 2) rfl (by rw [ex18]; rfl) (by decide) rfl (fun ls hl => ?_)
      clear ex18
      refine lv_goto (tgt := 47) hx hb dX0_draw_92 (by decide) ?_
      cases ho
      exact ih _ _ hrun _ _ _ hW (lv_sub hl [1, 2, 0] rfl)
set_option maxHeartbeats 4000000 in
set_option maxRecDepth 100000 in
theorem x0_draw_L105 {p : Program} {l : Launch} {e : Env} {s : State} {m : MethodId} {args : Array Value} {below : List Frame} {meth : Method} {c : Code} {Q : State → Prop} {D : va_G} {cI cJ cZ cR : ClassId} {am gm : Nat → Nat} {st : Nat} {A : Nat → Prop} (C0 : cxX p s m args meth c cX0_draw RX0 5 none D (tyX cI cJ cZ cR) st A) {t0 t' : St} {cells slots : Nat} (hR : cells ≤ mC t0 t' ∧ slots ≤ mS t0 t') {y : St} (hK0 : ∀ (H : Heap) (locs : List Loc) (ls : Array Slot), wl D A s (wX cI cJ cZ cR am gm y) H locs → lv_has ls 5 [(0, .ref (am 2000))] → W p l e (rmA 4 97 t0 t') s m args below meth c H locs cells slots Q (F0 m 162 ls [])) :
    ∀ (n : Nat) (v3 : Int32) (t : St), lpn (fun x => x0_draw_B105 x.1 x.2) n (v3, t) = some y → ∀ (H : Heap) (locs : List Loc) (ls : Array Slot), wl D A s (wX cI cJ cZ cR am gm t) H locs → lv_has ls 5 [(0, .ref (am 2000)), (3, .int v3)] → W p l e (rmA 4 97 t0 t') s m args below meth c H locs cells slots Q (F0 m 105 ls []) := by
  have hx := C0.1.1
  have hb := C0.1.2.1
  have hta := C0.1.2.2.2.2.2.1
  have hown := C0.1.2.2.2.2.1
  intro n
  induction n with
  | zero => intro _ _ h; cases h
  | succ n ih =>
    intro v3 t hrun H locs ls hW hl
    obtain ⟨o, ho, hrun⟩ := bd_some hrun
    unfold x0_draw_B105 at ho
    refine lv_iload_n hx hb dX0_draw_105 rfl (lv_at hl 1 rfl) ?_
    refine lv_if_lt (tgt := 162) hx hb dX0_draw_106 (by decide) (fun c19 => ?_) (fun c19 => ?_)
    · replace ho := ite_t c19 ho
      cases ho
      cases hrun
      exact hK0 _ _ _ hW (lv_sub hl [0] rfl)
    · replace ho := ite_f c19 ho
      refine lv_iconst (v := (1 : Int32)) hx hb dX0_draw_109 (by decide) ?_
      refine lv_iload_n hx hb dX0_draw_110 rfl (lv_at hl 1 rfl) ?_
      refine lv_ishl hx hb dX0_draw_111 ?_
      refine lv_nmi ho (fun x20 ho => ?_)
      refine lv_istore_n (lv' := [(2, .int x20), (0, .ref (am 2000)), (3, .int v3)]) hx hb dX0_draw_112 rfl hl (by decide) rfl (fun ls hl => ?_)
      refine lv_iconst (v := (0 : Int32)) hx hb dX0_draw_113 (by decide) ?_
      refine lv_istore (lv' := [(4, .int (0 : Int32)), (2, .int x20), (0, .ref (am 2000)), (3, .int v3)]) hx hb dX0_draw_114 hl (by decide) rfl (fun ls hl => ?_)
      obtain ⟨y21, hc23, ho⟩ := bd_some ho
      have hm22 := mm_x0_draw_L116 x20 v3 (0 : Int32) t _ hc23
      obtain ⟨ny21, hc23⟩ := lp_to hc23
      refine x0_draw_L116 C0 hR ?_ ny21 _ _ hc23 _ _ _ hW (lv_sub hl [2, 1, 3, 0] rfl)
      intro H locs ls hW hl
      obtain ⟨x24, ex24, ho⟩ := nm_x ho
      refine lv_iinc (v := x24) (lv' := [(3, .int x24), (0, .ref (am 2000))]) hx hb dX0_draw_156 hl (k := 1) rfl (by rw [ex24]; rfl) (by decide) rfl (fun ls hl => ?_)
      clear ex24
      refine lv_goto (tgt := 105) hx hb dX0_draw_159 (by decide) ?_
      cases ho
      exact ih _ _ hrun _ _ _ hW (lv_sub hl [1, 0] rfl)
set_option maxHeartbeats 4000000 in
set_option maxRecDepth 100000 in
theorem c_x0_draw (l : Launch) {D : va_G} {cI cJ cZ cR : ClassId} {am gm : Nat → Nat} {st : Nat} (sz : Nat) (t0 : St) (a1 : Int32) {t' : St} (ho : x0_draw t0 a1 = some t') : Met l yX0_draw (.code yX0_draw cX0_draw 5 none :: wsAll) (rmA 4 97 t0 t') (va_Pc [.ref (am 2000), .int a1] (prX D (tyX cI cJ cZ cR) (wX cI cJ cZ cR am gm t0) sz st)) (qVa D (tyX cI cJ cZ cR) (fun gm => wX cI cJ cZ cR am gm t') (va_A (wX cI cJ cZ cR am gm t0) sz)) (mC t0 t') (mS t0 t') (va_A (wX cI cJ cZ cR am gm t0) sz) := by
  refine Met.ofW (cc := cX0_draw) (maxL := 5) (ret := none) (by decide) rfl ?_
  intro p e s m args below meth c s₁ B hml hv
  obtain ⟨rfl, ⟨hsz, hP, hK, hD0⟩, hsx⟩ := hv
  have hx := B.exec
  have hb := B.bytes
  have hts := atoms_spec (ws := (.code yX0_draw cX0_draw 5 none :: wsAll)) B.pre
  have hta := fun w h => hts w (List.mem_cons_of_mem _ h)
  have hown : s.vm.findClass RX0 = some m.cls := findClass_of_methodNamed B.named
  have hlocks := B.notSynchronized
  subst hsz
  have hD := hD0.self (sz := s.heap.size)
  generalize hAe : va_A (wX cI cJ cZ cR am gm t0) s.heap.size = A at hD ⊢
  have hA : ∀ q : Nat, s.heap.size ≤ q → A q := fun q h => by rw [← hAe]; exact Or.inr h
  have C0 : cxX p s m ([.ref (am 2000), .int a1].toArray) meth c cX0_draw RX0 5 none D (tyX cI cJ cZ cR) st A := ⟨⟨hx, hb, B.returns, hml, hown, hta, hlocks, hK, hA⟩, by rw [← hAe]; exact hsx⟩
  have hW : wl D A s (wX cI cJ cZ cR am gm t0) s.heap [] := ⟨hP, hD, va_S.rf⟩
  have hl := lv_entry [.ref (am 2000), .int a1] (n := 5) (Nat.le_of_ble_eq_true rfl)
  rw [lg_entry_eq]
  generalize (lg_sl [.ref (am 2000), .int a1] ++ List.replicate (5 - (lg_sl [.ref (am 2000), .int a1]).length) Slot.unset).toArray = ls at hl ⊢
  have hl : lv_has ls 5 [(0, .ref (am 2000)), (1, .int a1)] := hl
  clear hAe hD hP hD0 hts
  have J33 : ∀ (gm : Nat → Nat) (t : St) (_ : x0_draw_J33 t = some t') (_ : mle t0 t) (H : Heap) (locs : List Loc) (ls : Array Slot), wl D A s (wX cI cJ cZ cR am gm t) H locs → lv_has ls 5 [(0, .ref (am 2000))] → W p l e (rmA 4 97 t0 t') s m ([.ref (am 2000), .int a1].toArray) below meth c H locs (mC t0 t) (mS t0 t) (MQ below (qVa D (tyX cI cJ cZ cR) (fun gm => wX cI cJ cZ cR am gm t') A) ([.ref (am 2000), .int a1].toArray) s (mC t0 t') (mS t0 t') A) (F0 m 33 ls []) := by
    intro gm t ho h0 H locs ls hW hl
    have hE : mle t t' := (mm_x0_draw_J33 _ _ ho)
    have hR := hR_of (t0 := t0) hE
    unfold x0_draw_J33 at ho
    refine lv_iconst (v := (1 : Int32)) hx hb dX0_draw_33 (by decide) ?_
    refine lv_aload_n hx hb dX0_draw_34 rfl (lv_at hl 0 rfl) ?_
    refine xGET_1 C0 kw_383 hW dX0_draw_35 ?_
    refine xGET_803 C0 kw_275 hW dX0_draw_38 ?_
    refine lv_iconst (v := (1 : Int32)) hx hb dX0_draw_41 (by decide) ?_
    refine lv_isub hx hb dX0_draw_42 ?_
    refine lv_ishl hx hb dX0_draw_43 ?_
    refine lv_nmi ho (fun x25 ho => ?_)
    refine lv_istore_n (lv' := [(2, .int x25), (0, .ref (am 2000))]) hx hb dX0_draw_44 rfl hl (by decide) rfl (fun ls hl => ?_)
    refine lv_iconst (v := (0 : Int32)) hx hb dX0_draw_45 (by decide) ?_
    refine lv_istore_n (lv' := [(3, .int (0 : Int32)), (2, .int x25), (0, .ref (am 2000))]) hx hb dX0_draw_46 rfl hl (by decide) rfl (fun ls hl => ?_)
    obtain ⟨y26, hc28, ho⟩ := bd_some ho
    have hm27 := mm_x0_draw_L47 x25 (0 : Int32) t _ hc28
    obtain ⟨ny26, hc28⟩ := lp_to hc28
    refine x0_draw_L47 C0 hR ?_ ny26 _ _ hc28 _ _ _ hW (lv_sub hl [2, 1, 0] rfl)
    intro H locs ls hW hl
    refine lv_aload_n hx hb dX0_draw_95 rfl (lv_at hl 0 rfl) ?_
    refine xGET_1 C0 kw_383 hW dX0_draw_96 ?_
    refine xGET_803 C0 kw_275 hW dX0_draw_99 ?_
    refine lv_iconst (v := (2 : Int32)) hx hb dX0_draw_102 (by decide) ?_
    refine lv_isub hx hb dX0_draw_103 ?_
    refine lv_nmi ho (fun x29 ho => ?_)
    refine lv_istore_n (lv' := [(3, .int x29), (0, .ref (am 2000))]) hx hb dX0_draw_104 rfl hl (by decide) rfl (fun ls hl => ?_)
    obtain ⟨y30, hc32, ho⟩ := bd_some ho
    have hm31 := mm_x0_draw_L105 x29 y26 _ hc32
    obtain ⟨ny30, hc32⟩ := lp_to hc32
    refine x0_draw_L105 C0 hR ?_ ny30 _ _ hc32 _ _ _ hW (lv_sub hl [1, 0] rfl)
    intro H locs ls hW hl
    refine lv_aload_n hx hb dX0_draw_162 rfl (lv_at hl 0 rfl) ?_
    refine lv_aload_n hx hb dX0_draw_163 rfl (lv_at hl 0 rfl) ?_
    refine xGET_7 C0 kw_391 hW dX0_draw_164 ?_
    refine lv_iconst (v := (0 : Int32)) hx hb dX0_draw_167 (by decide) ?_
    obtain ⟨g33, ho⟩ := gd_some ho
    refine xLD_7 C0 hW g33 dX0_draw_168 ?_
    refine xPUT_4 C0 kw_386 hW dX0_draw_169 (fun H locs hW => ?_)
    obtain ⟨t34, ht34, ho, hW⟩ := nm_wm (P := fun t => wl D A s (wX cI cJ cZ cR am gm t) H locs) mle_sI ho hW
    refine W_up h0 (mle.trans (mle.trans hm27 hm31) ht34) ?_
    cases ho
    exact rtVa gm C0.1 hW dX0_draw_172
  have J8 : ∀ (gm : Nat → Nat) (t : St) (v1 : Int32) (_ : x0_draw_J8 t v1 = some t') (_ : mle t0 t) (H : Heap) (locs : List Loc) (ls : Array Slot), wl D A s (wX cI cJ cZ cR am gm t) H locs → lv_has ls 5 [(0, .ref (am 2000)), (1, .int v1)] → W p l e (rmA 4 97 t0 t') s m ([.ref (am 2000), .int a1].toArray) below meth c H locs (mC t0 t) (mS t0 t) (MQ below (qVa D (tyX cI cJ cZ cR) (fun gm => wX cI cJ cZ cR am gm t') A) ([.ref (am 2000), .int a1].toArray) s (mC t0 t') (mS t0 t') A) (F0 m 8 ls []) := by
    intro gm t v1 ho h0 H locs ls hW hl
    have hE : mle t t' := (mm_x0_draw_J8 _ _ _ ho)
    have hR := hR_of (t0 := t0) hE
    unfold x0_draw_J8 at ho
    refine lv_iload_n hx hb dX0_draw_8 rfl (lv_at hl 1 rfl) ?_
    refine lv_aload_n hx hb dX0_draw_9 rfl (lv_at hl 0 rfl) ?_
    refine xGET_2 C0 kw_384 hW dX0_draw_10 ?_
    refine lv_icmp_ne (tgt := 17) hx hb dX0_draw_13 (by decide) (fun c35 => ?_) (fun c35 => ?_)
    · replace ho := ite_f c35 ho
      refine lv_aload_n hx hb dX0_draw_17 rfl (lv_at hl 0 rfl) ?_
      refine lv_iload_n hx hb dX0_draw_18 rfl (lv_at hl 1 rfl) ?_
      refine xPUT_2 C0 kw_384 hW dX0_draw_19 (fun H locs hW => ?_)
      obtain ⟨t36, ht36, ho, hW⟩ := nm_wm (P := fun t => wl D A s (wX cI cJ cZ cR am gm t) H locs) mle_sI ho hW
      refine lv_aload_n hx hb dX0_draw_22 rfl (lv_at hl 0 rfl) ?_
      refine lv_aload_n hx hb dX0_draw_23 rfl (lv_at hl 0 rfl) ?_
      refine xGET_1 C0 kw_383 hW dX0_draw_24 ?_
      refine xGET_803 C0 kw_275 hW dX0_draw_27 ?_
      obtain ⟨q37, hc38, ho⟩ := bd_some ho
      have hq37 := mm_x0_makeRoom t36 (gI t36 803) _ hc38
      have hEq37 := (mm_x0_draw_J33 _ _ ho)
      refine W_up h0 ht36 ?_
      have h0 := (mle.trans h0 ht36)
      refine bkVa C0.1 hW h0 hq37 (runVX (As := [.int (gI t36 803)]) (rest := []) C0 hW (c_x0_makeRoom l _ t36 (gI t36 803) (t' := q37) hc38) cb_X0_X0_makeRoom_71 0 0 rfl rfl rfl rfl rfl ⟨rfl, rfl⟩ ⟨Nat.le_of_ble_eq_true rfl, Nat.le_of_ble_eq_true rfl⟩ (Nat.le_of_ble_eq_true rfl) hl.1 dX0_draw_30 (hf_of h0 hq37 hEq37)) (fun gm H locs hW => ?_)
      have h0 := mle.trans h0 hq37
      exact J33 gm _ ho h0 _ _ _ hW (lv_sub hl [0] rfl)
    · replace ho := ite_t c35 ho
      cases ho
      exact rtVa gm C0.1 hW dX0_draw_16
  have hE : mle t0 t' := mm_x0_draw _ _ _ ho
  have hR := hR_of (t0 := t0) hE
  have h0 : mle t0 t0 := mle.rfl
  refine W_0 (t0 := t0) ?_
  unfold x0_draw at ho
  refine lv_aload_n hx hb dX0_draw_0 rfl (lv_at hl 0 rfl) ?_
  refine xGET_1 C0 kw_383 hW dX0_draw_1 ?_
  refine lv_iload_n hx hb dX0_draw_4 rfl (lv_at hl 1 rfl) ?_
  obtain ⟨q39, hc40, ho⟩ := bd_some ho
  have hq39 := mm_x8_fillFor t0 a1 _ hc40
  have hEq39 := (mm_x0_draw_J8 _ _ _ ho)
  refine bkVa C0.1 hW h0 hq39 (runVX (As := [.int a1]) (rest := []) C0 hW (c_x8_fillFor l _ t0 a1 (t' := q39) hc40) cb_X0_X8_fillFor_62 8 8 rfl rfl rfl rfl rfl ⟨rfl, rfl⟩ ⟨Nat.le_of_ble_eq_true rfl, Nat.le_of_ble_eq_true rfl⟩ (Nat.le_of_ble_eq_true rfl) hl.1 dX0_draw_5 (hf_of h0 hq39 hEq39)) (fun gm H locs hW => ?_)
  have h0 := mle.trans h0 hq39
  exact J8 gm _ _ ho h0 _ _ _ hW (lv_sub hl [0, 1] rfl)
noncomputable def x0_drawnSize (t : St) : Option (Int32) :=
  some ((gI t 3) - (2 : Int32))
set_option maxHeartbeats 4000000 in
set_option maxRecDepth 100000 in
theorem c_x0_drawnSize (l : Launch) {D : va_G} {cI cJ cZ cR : ClassId} {am gm : Nat → Nat} {st : Nat} (sz : Nat) (t : St) {r : Int32} (ho : x0_drawnSize t = some r) : Met l yX0_drawnSize (.code yX0_drawnSize cX0_drawnSize 1 (some .int) :: wsAll) (rmN 0 0) (va_Pc [.ref (am 2000)] (prX D (tyX cI cJ cZ cR) (wX cI cJ cZ cR am gm t) sz st)) (qI r D (tyX cI cJ cZ cR) (wX cI cJ cZ cR am gm t) (va_A (wX cI cJ cZ cR am gm t) sz)) 0 0 (va_A (wX cI cJ cZ cR am gm t) sz) := by
  refine Met.ofW (cc := cX0_drawnSize) (maxL := 1) (ret := (some .int)) (by decide) rfl ?_
  intro p e s m args below meth c s₁ B hml hv
  obtain ⟨rfl, ⟨hsz, hP, hK, hD0⟩, hsx⟩ := hv
  have hx := B.exec
  have hb := B.bytes
  have hts := atoms_spec (ws := (.code yX0_drawnSize cX0_drawnSize 1 (some .int) :: wsAll)) B.pre
  have hta := fun w h => hts w (List.mem_cons_of_mem _ h)
  have hown : s.vm.findClass RX0 = some m.cls := findClass_of_methodNamed B.named
  have hlocks := B.notSynchronized
  subst hsz
  have hD := hD0.self (sz := s.heap.size)
  generalize hAe : va_A (wX cI cJ cZ cR am gm t) s.heap.size = A at hD ⊢
  have hA : ∀ q : Nat, s.heap.size ≤ q → A q := fun q h => by rw [← hAe]; exact Or.inr h
  have C0 : cxX p s m ([.ref (am 2000)].toArray) meth c cX0_drawnSize RX0 1 (some .int) D (tyX cI cJ cZ cR) st A := ⟨⟨hx, hb, B.returns, hml, hown, hta, hlocks, hK, hA⟩, by rw [← hAe]; exact hsx⟩
  have hW : wl D A s (wX cI cJ cZ cR am gm t) s.heap [] := ⟨hP, hD, va_S.rf⟩
  have hl := lv_entry [.ref (am 2000)] (n := 1) (Nat.le_of_ble_eq_true rfl)
  rw [lg_entry_eq]
  generalize (lg_sl [.ref (am 2000)] ++ List.replicate (1 - (lg_sl [.ref (am 2000)]).length) Slot.unset).toArray = ls at hl ⊢
  have hl : lv_has ls 1 [(0, .ref (am 2000))] := hl
  unfold x0_drawnSize at ho
  refine lv_aload_n hx hb dX0_drawnSize_0 rfl (lv_at hl 0 rfl) ?_
  refine xGET_3 C0 kw_385 hW dX0_drawnSize_1 ?_
  refine lv_iconst (v := (2 : Int32)) hx hb dX0_drawnSize_4 (by decide) ?_
  refine lv_isub hx hb dX0_drawnSize_5 ?_
  cases ho
  exact rtI C0.1 hW dX0_drawnSize_6
noncomputable def x11_size_J35 (t : St) : Option (Int32 × St) :=
  (x0_drawnSize t).bind (fun q1 => some (q1, t))
theorem mm_x11_size_J35 (t : St) : MR (x11_size_J35 t) t (fun (a : Int32 × St) => a.2) := by
  unfold x11_size_J35
  exact MR_bindn (fun q1 => MR_some mle.rfl)
noncomputable def x11_size (t0 : St) (a1 : Int32) : Option (Int32 × St) :=
  (x11_noNet t0 a1).bind (fun q3 => if q3 = 0 then (gd a1 (gN t0 602) (nm (gA t0 602 (a1).toNatClampNeg) (fun x8 : Int32 => if 0 ≤ x8 then ((x0_draw t0 x8).bind (fun q10 => x11_size_J35 q10)) else (some ((-3 : Int32), t0))))) else (some ((-2 : Int32), t0)))
theorem mm_x11_size (t0 : St) (a1 : Int32) : MR (x11_size t0 a1) t0 (fun (a : Int32 × St) => a.2) := by
  unfold x11_size
  exact MR_bindn (fun q3 => MR_ite (MR_gd (MR_nm (fun x8 _ => MR_ite (MR_bind (mm_x0_draw t0 x8) (fun q10 hq10 => MR_wk hq10 (mm_x11_size_J35 q10))) (MR_some mle.rfl)))) (MR_some mle.rfl))
set_option maxHeartbeats 4000000 in
set_option maxRecDepth 100000 in
theorem c_x11_size (l : Launch) {D : va_G} {cI cJ cZ cR : ClassId} {am gm : Nat → Nat} {st : Nat} (sz : Nat) (t0 : St) (a1 : Int32) {r : Int32} {t' : St} (ho : x11_size t0 a1 = some (r, t')) : Met l yX11_size (.code yX11_size cX11_size 3 (some .int) :: wsAll) (rmA 5 121 t0 t') (va_Pc [.ref (am 2011), .int a1] (prX D (tyX cI cJ cZ cR) (wX cI cJ cZ cR am gm t0) sz st)) (qIa r D (tyX cI cJ cZ cR) (fun gm => wX cI cJ cZ cR am gm t') (va_A (wX cI cJ cZ cR am gm t0) sz)) (mC t0 t') (mS t0 t') (va_A (wX cI cJ cZ cR am gm t0) sz) := by
  refine Met.ofW (cc := cX11_size) (maxL := 3) (ret := (some .int)) (by decide) rfl ?_
  intro p e s m args below meth c s₁ B hml hv
  obtain ⟨rfl, ⟨hsz, hP, hK, hD0⟩, hsx⟩ := hv
  have hx := B.exec
  have hb := B.bytes
  have hts := atoms_spec (ws := (.code yX11_size cX11_size 3 (some .int) :: wsAll)) B.pre
  have hta := fun w h => hts w (List.mem_cons_of_mem _ h)
  have hown : s.vm.findClass RX11 = some m.cls := findClass_of_methodNamed B.named
  have hlocks := B.notSynchronized
  subst hsz
  have hD := hD0.self (sz := s.heap.size)
  generalize hAe : va_A (wX cI cJ cZ cR am gm t0) s.heap.size = A at hD ⊢
  have hA : ∀ q : Nat, s.heap.size ≤ q → A q := fun q h => by rw [← hAe]; exact Or.inr h
  have C0 : cxX p s m ([.ref (am 2011), .int a1].toArray) meth c cX11_size RX11 3 (some .int) D (tyX cI cJ cZ cR) st A := ⟨⟨hx, hb, B.returns, hml, hown, hta, hlocks, hK, hA⟩, by rw [← hAe]; exact hsx⟩
  have hW : wl D A s (wX cI cJ cZ cR am gm t0) s.heap [] := ⟨hP, hD, va_S.rf⟩
  have hl := lv_entry [.ref (am 2011), .int a1] (n := 3) (Nat.le_of_ble_eq_true rfl)
  rw [lg_entry_eq]
  generalize (lg_sl [.ref (am 2011), .int a1] ++ List.replicate (3 - (lg_sl [.ref (am 2011), .int a1]).length) Slot.unset).toArray = ls at hl ⊢
  have hl : lv_has ls 3 [(0, .ref (am 2011)), (1, .int a1)] := hl
  clear hAe hD hP hD0 hts
  have J35 : ∀ (gm : Nat → Nat) (t : St) (_ : x11_size_J35 t = some (r, t')) (_ : mle t0 t) (H : Heap) (locs : List Loc) (ls : Array Slot), wl D A s (wX cI cJ cZ cR am gm t) H locs → lv_has ls 3 [(0, .ref (am 2011))] → W p l e (rmA 5 121 t0 t') s m ([.ref (am 2011), .int a1].toArray) below meth c H locs (mC t0 t) (mS t0 t) (MQ below (qIa r D (tyX cI cJ cZ cR) (fun gm => wX cI cJ cZ cR am gm t') A) ([.ref (am 2011), .int a1].toArray) s (mC t0 t') (mS t0 t') A) (F0 m 35 ls []) := by
    intro gm t ho h0 H locs ls hW hl
    have hE : mle t t' := (mm_x11_size_J35 _ _ ho)
    have hR := hR_of (t0 := t0) hE
    unfold x11_size_J35 at ho
    refine lv_aload_n hx hb dX11_size_35 rfl (lv_at hl 0 rfl) ?_
    refine xGET_1106 C0 kw_597 hW dX11_size_36 ?_
    obtain ⟨q1, hc2, ho⟩ := bd_some ho
    refine bkI C0.1 hW (runVX (As := []) (rest := []) C0 hW (c_x0_drawnSize l _ t (r := q1) hc2) cb_X11_X0_drawnSize_194 0 0 rfl rfl rfl rfl rfl ⟨rfl, rfl⟩ ⟨Nat.le_of_ble_eq_true rfl, Nat.le_of_ble_eq_true rfl⟩ (Nat.le_of_ble_eq_true rfl) hl.1 dX11_size_39 ⟨hR.1, hR.2⟩) (fun H locs hW => ?_)
    cases ho
    exact rtIa gm C0.1 hW dX11_size_42
  have hE : mle t0 t' := mm_x11_size _ _ _ ho
  have hR := hR_of (t0 := t0) hE
  have h0 : mle t0 t0 := mle.rfl
  refine W_0 (t0 := t0) ?_
  unfold x11_size at ho
  refine lv_iload_n hx hb dX11_size_0 rfl (lv_at hl 1 rfl) ?_
  obtain ⟨q3, hc4, ho⟩ := bd_some ho
  refine bkZ C0.1 hW (runSX (As := [.int a1]) (rest := []) C0 hW (c_x11_noNet l _ t0 a1 (r := q3) hc4) cb_X11_X11_noNet_124 rfl rfl ⟨rfl, rfl⟩ ⟨Nat.le_of_ble_eq_true rfl, Nat.le_of_ble_eq_true rfl⟩ (Nat.le_of_ble_eq_true rfl) hl.1 dX11_size_1 ⟨hR.1, hR.2⟩) (fun z5 H locs hW => ?_)
  refine lv_if_eq (tgt := 10) hx hb dX11_size_4 (by decide) (fun c6 => ?_) (fun c6 => ?_)
  · replace ho := ite_t c6 ho
    refine lv_aload_n hx hb dX11_size_10 rfl (lv_at hl 0 rfl) ?_
    refine xGET_1101 C0 kw_592 hW dX11_size_11 ?_
    refine xGET_602 C0 kw_184 hW dX11_size_14 ?_
    refine lv_iload_n hx hb dX11_size_17 rfl (lv_at hl 1 rfl) ?_
    obtain ⟨g7, ho⟩ := gd_some ho
    refine xLD_602 C0 hW g7 dX11_size_18 ?_
    refine lv_nmi ho (fun x8 ho => ?_)
    refine lv_istore_n (lv' := [(2, .int x8), (0, .ref (am 2011)), (1, .int a1)]) hx hb dX11_size_19 rfl hl (by decide) rfl (fun ls hl => ?_)
    refine lv_iload_n hx hb dX11_size_20 rfl (lv_at hl 0 rfl) ?_
    refine lv_if_ge (tgt := 27) hx hb dX11_size_21 (by decide) (fun c9 => ?_) (fun c9 => ?_)
    · replace ho := ite_t c9 ho
      refine lv_aload_n hx hb dX11_size_27 rfl (lv_at hl 1 rfl) ?_
      refine xGET_1106 C0 kw_597 hW dX11_size_28 ?_
      refine lv_iload_n hx hb dX11_size_31 rfl (lv_at hl 0 rfl) ?_
      obtain ⟨q10, hc11, ho⟩ := bd_some ho
      have hq10 := mm_x0_draw t0 x8 _ hc11
      have hEq10 := (mm_x11_size_J35 _ _ ho)
      refine bkVa C0.1 hW h0 hq10 (runVX (As := [.int x8]) (rest := []) C0 hW (c_x0_draw l _ t0 x8 (t' := q10) hc11) cb_X11_X0_draw_190 0 0 rfl rfl rfl rfl rfl ⟨rfl, rfl⟩ ⟨Nat.le_of_ble_eq_true rfl, Nat.le_of_ble_eq_true rfl⟩ (Nat.le_of_ble_eq_true rfl) hl.1 dX11_size_32 (hf_of h0 hq10 hEq10)) (fun gm H locs hW => ?_)
      have h0 := mle.trans h0 hq10
      exact J35 gm _ ho h0 _ _ _ hW (lv_sub hl [1] rfl)
    · replace ho := ite_f c9 ho
      refine lv_bipush (v := (-3 : Int32)) hx hb dX11_size_24 (by decide) ?_
      cases ho
      exact rtIa gm C0.1 hW dX11_size_26
  · replace ho := ite_f c6 ho
    refine lv_bipush (v := (-2 : Int32)) hx hb dX11_size_7 (by decide) ?_
    cases ho
    exact rtIa gm C0.1 hW dX11_size_9
noncomputable def x0_mayWork_J5 (t : St) : Option (Int32 × St) :=
  (x0_drawnSize t).bind (fun q1 => if (400 : Int32) < q1 then (some ((0 : Int32), t)) else (some ((1 : Int32), t)))
theorem mm_x0_mayWork_J5 (t : St) : MR (x0_mayWork_J5 t) t (fun (a : Int32 × St) => a.2) := by
  unfold x0_mayWork_J5
  exact MR_bindn (fun q1 => MR_ite (MR_some mle.rfl) (MR_some mle.rfl))
noncomputable def x0_mayWork (t0 : St) (a1 : Int32) : Option (Int32 × St) :=
  (x0_draw t0 a1).bind (fun q4 => x0_mayWork_J5 q4)
theorem mm_x0_mayWork (t0 : St) (a1 : Int32) : MR (x0_mayWork t0 a1) t0 (fun (a : Int32 × St) => a.2) := by
  unfold x0_mayWork
  exact MR_bind (mm_x0_draw t0 a1) (fun q4 hq4 => MR_wk hq4 (mm_x0_mayWork_J5 q4))
set_option maxHeartbeats 4000000 in
set_option maxRecDepth 100000 in
theorem c_x0_mayWork (l : Launch) {D : va_G} {cI cJ cZ cR : ClassId} {am gm : Nat → Nat} {st : Nat} (sz : Nat) (t0 : St) (a1 : Int32) {r : Int32} {t' : St} (ho : x0_mayWork t0 a1 = some (r, t')) : Met l yX0_mayWork (.code yX0_mayWork cX0_mayWork 2 (some .boolean) :: wsAll) (rmA 5 121 t0 t') (va_Pc [.ref (am 2000), .int a1] (prX D (tyX cI cJ cZ cR) (wX cI cJ cZ cR am gm t0) sz st)) (qZa r D (tyX cI cJ cZ cR) (fun gm => wX cI cJ cZ cR am gm t') (va_A (wX cI cJ cZ cR am gm t0) sz)) (mC t0 t') (mS t0 t') (va_A (wX cI cJ cZ cR am gm t0) sz) := by
  refine Met.ofW (cc := cX0_mayWork) (maxL := 2) (ret := (some .boolean)) (by decide) rfl ?_
  intro p e s m args below meth c s₁ B hml hv
  obtain ⟨rfl, ⟨hsz, hP, hK, hD0⟩, hsx⟩ := hv
  have hx := B.exec
  have hb := B.bytes
  have hts := atoms_spec (ws := (.code yX0_mayWork cX0_mayWork 2 (some .boolean) :: wsAll)) B.pre
  have hta := fun w h => hts w (List.mem_cons_of_mem _ h)
  have hown : s.vm.findClass RX0 = some m.cls := findClass_of_methodNamed B.named
  have hlocks := B.notSynchronized
  subst hsz
  have hD := hD0.self (sz := s.heap.size)
  generalize hAe : va_A (wX cI cJ cZ cR am gm t0) s.heap.size = A at hD ⊢
  have hA : ∀ q : Nat, s.heap.size ≤ q → A q := fun q h => by rw [← hAe]; exact Or.inr h
  have C0 : cxX p s m ([.ref (am 2000), .int a1].toArray) meth c cX0_mayWork RX0 2 (some .boolean) D (tyX cI cJ cZ cR) st A := ⟨⟨hx, hb, B.returns, hml, hown, hta, hlocks, hK, hA⟩, by rw [← hAe]; exact hsx⟩
  have hW : wl D A s (wX cI cJ cZ cR am gm t0) s.heap [] := ⟨hP, hD, va_S.rf⟩
  have hl := lv_entry [.ref (am 2000), .int a1] (n := 2) (Nat.le_of_ble_eq_true rfl)
  rw [lg_entry_eq]
  generalize (lg_sl [.ref (am 2000), .int a1] ++ List.replicate (2 - (lg_sl [.ref (am 2000), .int a1]).length) Slot.unset).toArray = ls at hl ⊢
  have hl : lv_has ls 2 [(0, .ref (am 2000)), (1, .int a1)] := hl
  clear hAe hD hP hD0 hts
  have J5 : ∀ (gm : Nat → Nat) (t : St) (_ : x0_mayWork_J5 t = some (r, t')) (_ : mle t0 t) (H : Heap) (locs : List Loc) (ls : Array Slot), wl D A s (wX cI cJ cZ cR am gm t) H locs → lv_has ls 2 [(0, .ref (am 2000))] → W p l e (rmA 5 121 t0 t') s m ([.ref (am 2000), .int a1].toArray) below meth c H locs (mC t0 t) (mS t0 t) (MQ below (qZa r D (tyX cI cJ cZ cR) (fun gm => wX cI cJ cZ cR am gm t') A) ([.ref (am 2000), .int a1].toArray) s (mC t0 t') (mS t0 t') A) (F0 m 5 ls []) := by
    intro gm t ho h0 H locs ls hW hl
    have hE : mle t t' := (mm_x0_mayWork_J5 _ _ ho)
    have hR := hR_of (t0 := t0) hE
    unfold x0_mayWork_J5 at ho
    refine lv_aload_n hx hb dX0_mayWork_5 rfl (lv_at hl 0 rfl) ?_
    obtain ⟨q1, hc2, ho⟩ := bd_some ho
    refine bkI C0.1 hW (runVX (As := []) (rest := []) C0 hW (c_x0_drawnSize l _ t (r := q1) hc2) cb_X0_X0_drawnSize_100 0 0 rfl rfl rfl rfl rfl ⟨rfl, rfl⟩ ⟨Nat.le_of_ble_eq_true rfl, Nat.le_of_ble_eq_true rfl⟩ (Nat.le_of_ble_eq_true rfl) hl.1 dX0_mayWork_6 ⟨hR.1, hR.2⟩) (fun H locs hW => ?_)
    refine lv_sipush (v := (400 : Int32)) hx hb dX0_mayWork_9 (by decide) ?_
    refine lv_icmp_gt (tgt := 19) hx hb dX0_mayWork_12 (by decide) (fun c3 => ?_) (fun c3 => ?_)
    · replace ho := ite_t c3 ho
      refine lv_iconst (v := (0 : Int32)) hx hb dX0_mayWork_19 (by decide) ?_
      cases ho
      exact rtZa gm C0.1 hW (Or.inl (rfl : (0 : Int32) = 0)) dX0_mayWork_20
    · replace ho := ite_f c3 ho
      refine lv_iconst (v := (1 : Int32)) hx hb dX0_mayWork_15 (by decide) ?_
      refine lv_goto (tgt := 20) hx hb dX0_mayWork_16 (by decide) ?_
      cases ho
      exact rtZa gm C0.1 hW (Or.inr (rfl : (1 : Int32) = 1)) dX0_mayWork_20
  have hE : mle t0 t' := mm_x0_mayWork _ _ _ ho
  have hR := hR_of (t0 := t0) hE
  have h0 : mle t0 t0 := mle.rfl
  refine W_0 (t0 := t0) ?_
  unfold x0_mayWork at ho
  refine lv_aload_n hx hb dX0_mayWork_0 rfl (lv_at hl 0 rfl) ?_
  refine lv_iload_n hx hb dX0_mayWork_1 rfl (lv_at hl 1 rfl) ?_
  obtain ⟨q4, hc5, ho⟩ := bd_some ho
  have hq4 := mm_x0_draw t0 a1 _ hc5
  have hEq4 := (mm_x0_mayWork_J5 _ _ ho)
  refine bkVa C0.1 hW h0 hq4 (runVX (As := [.int a1]) (rest := []) C0 hW (c_x0_draw l _ t0 a1 (t' := q4) hc5) cb_X0_X0_draw_97 0 0 rfl rfl rfl rfl rfl ⟨rfl, rfl⟩ ⟨Nat.le_of_ble_eq_true rfl, Nat.le_of_ble_eq_true rfl⟩ (Nat.le_of_ble_eq_true rfl) hl.1 dX0_mayWork_2 (hf_of h0 hq4 hEq4)) (fun gm H locs hW => ?_)
  have h0 := mle.trans h0 hq4
  exact J5 gm _ ho h0 _ _ _ hW (lv_sub hl [0] rfl)
noncomputable def x0_takeOdds_J50 (t : St) (v1 : Int32) (v2 : Int32) (w1 : Int32) (w2 : Int32) : Option ((Int32 × St) ⊕ (St)) :=
  gd w1 (gN t 14) (nm (sA t 14 w1 w2) (fun t2 : St => nm (v2 + (1 : Int32)) (fun x3 : Int32 => some (.inl (x3, t2)))))
theorem mm_x0_takeOdds_J50 (t : St) (v1 : Int32) (v2 : Int32) (w1 : Int32) (w2 : Int32) : MR (x0_takeOdds_J50 t v1 v2 w1 w2) t (Sum.elim (fun (x : Int32 × St) => x.2) (fun (y : St) => y)) := by
  unfold x0_takeOdds_J50
  exact MR_gd (MR_nmS mle_sA (fun t2 ht2 => MR_nm (fun x3 _ => MR_some ht2)))
noncomputable def x0_takeOdds_B2 (v1 : Int32) (v2 : Int32) (t : St) : Option ((Int32 × St) ⊕ (St)) :=
  if (gI t 803) ≤ v2 then (some (.inr t)) else (gd v2 (gN t 801) (nm (gA t 801 (v2).toNatClampNeg) (fun x6 : Int32 => if ((v1 >>> (x6 &&& 31)) &&& (1 : Int32)) = (1 : Int32) then (x0_takeOdds_J50 t v1 v2 v2 (0 : Int32)) else ((x5_get t x6 (2 : Int32)).bind (fun q8 => x0_takeOdds_J50 t v1 v2 v2 q8)))))
theorem mm_x0_takeOdds_B2 (v1 : Int32) (v2 : Int32) (t : St) : MR (x0_takeOdds_B2 v1 v2 t) t (Sum.elim (fun (x : Int32 × St) => x.2) (fun (y : St) => y)) := by
  unfold x0_takeOdds_B2
  exact MR_ite (MR_some mle.rfl) (MR_gd (MR_nm (fun x6 _ => MR_ite (MR_wk mle.rfl (mm_x0_takeOdds_J50 t v1 v2 v2 (0 : Int32))) (MR_bindn (fun q8 => MR_wk mle.rfl (mm_x0_takeOdds_J50 t v1 v2 v2 q8))))))
theorem mm_x0_takeOdds_L2 (v1 : Int32) (v2 : Int32) (t : St) : MR (lp (fun x => x0_takeOdds_B2 v1 x.1 x.2) (v2, t)) t (fun (y : St) => y) := MR_lp (p := (fun (x : Int32 × St) => x.2)) (q := (fun (y : St) => y)) (fun x => mm_x0_takeOdds_B2 v1 x.1 x.2) (v2, t)
noncomputable def x0_takeOdds (t : St) (a1 : Int32) : Option (St) :=
  (lp (fun x => x0_takeOdds_B2 a1 x.1 x.2) ((0 : Int32), t)).bind (fun y10 => some y10)
theorem mm_x0_takeOdds (t : St) (a1 : Int32) : MR (x0_takeOdds t a1) t (fun (a : St) => a) := by
  unfold x0_takeOdds
  exact MR_bind (mm_x0_takeOdds_L2 a1 (0 : Int32) t) (fun y10 hm11 => MR_some hm11)
set_option maxHeartbeats 4000000 in
set_option maxRecDepth 100000 in
theorem x0_takeOdds_L2 {p : Program} {l : Launch} {e : Env} {s : State} {m : MethodId} {args : Array Value} {below : List Frame} {meth : Method} {c : Code} {Q : State → Prop} {D : va_G} {cI cJ cZ cR : ClassId} {am gm : Nat → Nat} {st : Nat} {A : Nat → Prop} (C0 : cxX p s m args meth c cX0_takeOdds RX0 4 none D (tyX cI cJ cZ cR) st A) {v1 : Int32} {y : St} (hK0 : ∀ (H : Heap) (locs : List Loc) (ls : Array Slot), wl D A s (wX cI cJ cZ cR am gm y) H locs → lv_has ls 4 [(0, .ref (am 2000))] → W p l e (rmN 1 22) s m args below meth c H locs 0 0 Q (F0 m 57 ls [])) :
    ∀ (n : Nat) (v2 : Int32) (t : St), lpn (fun x => x0_takeOdds_B2 v1 x.1 x.2) n (v2, t) = some y → ∀ (H : Heap) (locs : List Loc) (ls : Array Slot), wl D A s (wX cI cJ cZ cR am gm t) H locs → lv_has ls 4 [(0, .ref (am 2000)), (1, .int v1), (2, .int v2)] → W p l e (rmN 1 22) s m args below meth c H locs 0 0 Q (F0 m 2 ls []) := by
  have hx := C0.1.1
  have hb := C0.1.2.1
  have hta := C0.1.2.2.2.2.2.1
  have hown := C0.1.2.2.2.2.1
  intro n
  induction n with
  | zero => intro _ _ h; cases h
  | succ n ih =>
    intro v2 t hrun H locs ls hW hl
    obtain ⟨o, ho, hrun⟩ := bd_some hrun
    have J50 : ∀ (t : St) (v2 : Int32) (w1 : Int32) (w2 : Int32) (_ : x0_takeOdds_J50 t v1 v2 w1 w2 = some o) (H : Heap) (locs : List Loc) (ls : Array Slot), wl D A s (wX cI cJ cZ cR am gm t) H locs → lv_has ls 4 [(0, .ref (am 2000)), (1, .int v1), (2, .int v2)] → W p l e (rmN 1 22) s m args below meth c H locs 0 0 Q (F0 m 50 ls [.int w2, .int w1, .ref (am 14)]) := by
      intro t v2 w1 w2 ho H locs ls hW hl
      unfold x0_takeOdds_J50 at ho
      obtain ⟨g1, ho⟩ := gd_some ho
      refine xST_14 C0 hW g1 dX0_takeOdds_50 (fun H locs hW => ?_)
      obtain ⟨t2, ho, hW⟩ := nm_w (P := fun t => wl D A s (wX cI cJ cZ cR am gm t) H locs) ho hW
      obtain ⟨x3, ex3, ho⟩ := nm_x ho
      refine lv_iinc (v := x3) (lv' := [(2, .int x3), (0, .ref (am 2000)), (1, .int v1)]) hx hb dX0_takeOdds_51 hl (k := 2) rfl (by rw [ex3]; rfl) (by decide) rfl (fun ls hl => ?_)
      clear ex3
      refine lv_goto (tgt := 2) hx hb dX0_takeOdds_54 (by decide) ?_
      cases ho
      exact ih _ _ hrun _ _ _ hW (lv_sub hl [1, 2, 0] rfl)
    unfold x0_takeOdds_B2 at ho
    refine lv_iload_n hx hb dX0_takeOdds_2 rfl (lv_at hl 2 rfl) ?_
    refine lv_aload_n hx hb dX0_takeOdds_3 rfl (lv_at hl 0 rfl) ?_
    refine xGET_1 C0 kw_383 hW dX0_takeOdds_4 ?_
    refine xGET_803 C0 kw_275 hW dX0_takeOdds_7 ?_
    refine lv_icmp_ge (tgt := 57) hx hb dX0_takeOdds_10 (by decide) (fun c4 => ?_) (fun c4 => ?_)
    · replace ho := ite_t c4 ho
      cases ho
      cases hrun
      exact hK0 _ _ _ hW (lv_sub hl [0] rfl)
    · replace ho := ite_f c4 ho
      refine lv_aload_n hx hb dX0_takeOdds_13 rfl (lv_at hl 0 rfl) ?_
      refine xGET_1 C0 kw_383 hW dX0_takeOdds_14 ?_
      refine xGET_801 C0 kw_271 hW dX0_takeOdds_17 ?_
      refine lv_iload_n hx hb dX0_takeOdds_20 rfl (lv_at hl 2 rfl) ?_
      obtain ⟨g5, ho⟩ := gd_some ho
      refine xLD_801 C0 hW g5 dX0_takeOdds_21 ?_
      refine lv_nmi ho (fun x6 ho => ?_)
      refine lv_istore_n (lv' := [(3, .int x6), (0, .ref (am 2000)), (1, .int v1), (2, .int v2)]) hx hb dX0_takeOdds_22 rfl hl (by decide) rfl (fun ls hl => ?_)
      refine lv_aload_n hx hb dX0_takeOdds_23 rfl (lv_at hl 1 rfl) ?_
      refine xGET_14 C0 kw_401 hW dX0_takeOdds_24 ?_
      refine lv_iload_n hx hb dX0_takeOdds_27 rfl (lv_at hl 3 rfl) ?_
      refine lv_iload_n hx hb dX0_takeOdds_28 rfl (lv_at hl 2 rfl) ?_
      refine lv_iload_n hx hb dX0_takeOdds_29 rfl (lv_at hl 0 rfl) ?_
      refine lv_ishr hx hb dX0_takeOdds_30 ?_
      refine lv_iconst (v := (1 : Int32)) hx hb dX0_takeOdds_31 (by decide) ?_
      refine lv_iand hx hb dX0_takeOdds_32 ?_
      refine lv_iconst (v := (1 : Int32)) hx hb dX0_takeOdds_33 (by decide) ?_
      refine lv_icmp_ne (tgt := 41) hx hb dX0_takeOdds_34 (by decide) (fun c7 => ?_) (fun c7 => ?_)
      · replace ho := ite_f c7 ho
        refine lv_aload_n hx hb dX0_takeOdds_41 rfl (lv_at hl 1 rfl) ?_
        refine xGET_0 C0 kw_382 hW dX0_takeOdds_42 ?_
        refine lv_iload_n hx hb dX0_takeOdds_45 rfl (lv_at hl 0 rfl) ?_
        refine lv_iconst (v := (2 : Int32)) hx hb dX0_takeOdds_46 (by decide) ?_
        obtain ⟨q8, hc9, ho⟩ := bd_some ho
        refine bkI C0.1 hW (runVX (As := [.int x6, .int (2 : Int32)]) (rest := [.int v2, .ref (am 14)]) C0 hW (c_x5_get l _ t x6 (2 : Int32) (r := q8) hc9) cb_X0_X5_get_109 5 5 rfl rfl rfl rfl rfl ⟨rfl, rfl⟩ ⟨Nat.le_of_ble_eq_true rfl, Nat.le_of_ble_eq_true rfl⟩ (Nat.le_of_ble_eq_true rfl) hl.1 dX0_takeOdds_47 ⟨Nat.le_of_ble_eq_true rfl, Nat.le_of_ble_eq_true rfl⟩) (fun H locs hW => ?_)
        exact J50 _ _ _ _ ho _ _ _ hW (lv_sub hl [1, 2, 3] rfl)
      · replace ho := ite_t c7 ho
        refine lv_iconst (v := (0 : Int32)) hx hb dX0_takeOdds_37 (by decide) ?_
        refine lv_goto (tgt := 50) hx hb dX0_takeOdds_38 (by decide) ?_
        exact J50 _ _ _ _ ho _ _ _ hW (lv_sub hl [1, 2, 3] rfl)
set_option maxHeartbeats 4000000 in
set_option maxRecDepth 100000 in
theorem c_x0_takeOdds (l : Launch) {D : va_G} {cI cJ cZ cR : ClassId} {am gm : Nat → Nat} {st : Nat} (sz : Nat) (t : St) (a1 : Int32) {t' : St} (ho : x0_takeOdds t a1 = some t') : Met l yX0_takeOdds (.code yX0_takeOdds cX0_takeOdds 4 none :: wsAll) (rmN 1 22) (va_Pc [.ref (am 2000), .int a1] (prX D (tyX cI cJ cZ cR) (wX cI cJ cZ cR am gm t) sz st)) (qV D (tyX cI cJ cZ cR) (wX cI cJ cZ cR am gm t') (va_A (wX cI cJ cZ cR am gm t) sz)) 0 0 (va_A (wX cI cJ cZ cR am gm t) sz) := by
  refine Met.ofW (cc := cX0_takeOdds) (maxL := 4) (ret := none) (by decide) rfl ?_
  intro p e s m args below meth c s₁ B hml hv
  obtain ⟨rfl, ⟨hsz, hP, hK, hD0⟩, hsx⟩ := hv
  have hx := B.exec
  have hb := B.bytes
  have hts := atoms_spec (ws := (.code yX0_takeOdds cX0_takeOdds 4 none :: wsAll)) B.pre
  have hta := fun w h => hts w (List.mem_cons_of_mem _ h)
  have hown : s.vm.findClass RX0 = some m.cls := findClass_of_methodNamed B.named
  have hlocks := B.notSynchronized
  subst hsz
  have hD := hD0.self (sz := s.heap.size)
  generalize hAe : va_A (wX cI cJ cZ cR am gm t) s.heap.size = A at hD ⊢
  have hA : ∀ q : Nat, s.heap.size ≤ q → A q := fun q h => by rw [← hAe]; exact Or.inr h
  have C0 : cxX p s m ([.ref (am 2000), .int a1].toArray) meth c cX0_takeOdds RX0 4 none D (tyX cI cJ cZ cR) st A := ⟨⟨hx, hb, B.returns, hml, hown, hta, hlocks, hK, hA⟩, by rw [← hAe]; exact hsx⟩
  have hW : wl D A s (wX cI cJ cZ cR am gm t) s.heap [] := ⟨hP, hD, va_S.rf⟩
  have hl := lv_entry [.ref (am 2000), .int a1] (n := 4) (Nat.le_of_ble_eq_true rfl)
  rw [lg_entry_eq]
  generalize (lg_sl [.ref (am 2000), .int a1] ++ List.replicate (4 - (lg_sl [.ref (am 2000), .int a1]).length) Slot.unset).toArray = ls at hl ⊢
  have hl : lv_has ls 4 [(0, .ref (am 2000)), (1, .int a1)] := hl
  unfold x0_takeOdds at ho
  refine lv_iconst (v := (0 : Int32)) hx hb dX0_takeOdds_0 (by decide) ?_
  refine lv_istore_n (lv' := [(2, .int (0 : Int32)), (0, .ref (am 2000)), (1, .int a1)]) hx hb dX0_takeOdds_1 rfl hl (by decide) rfl (fun ls hl => ?_)
  obtain ⟨y10, hc12, ho⟩ := bd_some ho
  obtain ⟨ny10, hc12⟩ := lp_to hc12
  refine x0_takeOdds_L2 C0 ?_ ny10 _ _ hc12 _ _ _ hW (lv_sub hl [1, 2, 0] rfl)
  intro H locs ls hW hl
  cases ho
  exact rtV C0.1 hW dX0_takeOdds_57
noncomputable def x2_wipe_12_B2 (v1 : Int32) (v2 : Int32) (v3 : Int32) (t : St) : Option ((Int32 × St) ⊕ (St)) :=
  if v2 ≤ v3 then (some (.inr t)) else (gd (v1 + v3) (gN t 12) (nm (sA t 12 (v1 + v3) (0 : Int32)) (fun t3 : St => nm (v3 + (1 : Int32)) (fun x4 : Int32 => some (.inl (x4, t3))))))
theorem mm_x2_wipe_12_B2 (v1 : Int32) (v2 : Int32) (v3 : Int32) (t : St) : MR (x2_wipe_12_B2 v1 v2 v3 t) t (Sum.elim (fun (x : Int32 × St) => x.2) (fun (y : St) => y)) := by
  unfold x2_wipe_12_B2
  exact MR_ite (MR_some mle.rfl) (MR_gd (MR_nmS mle_sA (fun t3 ht3 => MR_nm (fun x4 _ => MR_some ht3))))
theorem mm_x2_wipe_12_L2 (v1 : Int32) (v2 : Int32) (v3 : Int32) (t : St) : MR (lp (fun x => x2_wipe_12_B2 v1 v2 x.1 x.2) (v3, t)) t (fun (y : St) => y) := MR_lp (p := (fun (x : Int32 × St) => x.2)) (q := (fun (y : St) => y)) (fun x => mm_x2_wipe_12_B2 v1 v2 x.1 x.2) (v3, t)
noncomputable def x2_wipe_12 (t : St) (a1 : Int32) (a2 : Int32) : Option (St) :=
  (lp (fun x => x2_wipe_12_B2 a1 a2 x.1 x.2) ((0 : Int32), t)).bind (fun y5 => some y5)
theorem mm_x2_wipe_12 (t : St) (a1 : Int32) (a2 : Int32) : MR (x2_wipe_12 t a1 a2) t (fun (a : St) => a) := by
  unfold x2_wipe_12
  exact MR_bind (mm_x2_wipe_12_L2 a1 a2 (0 : Int32) t) (fun y5 hm6 => MR_some hm6)
set_option maxHeartbeats 4000000 in
set_option maxRecDepth 100000 in
theorem x2_wipe_12_L2 {p : Program} {l : Launch} {e : Env} {s : State} {m : MethodId} {args : Array Value} {below : List Frame} {meth : Method} {c : Code} {Q : State → Prop} {D : va_G} {cI cJ cZ cR : ClassId} {am gm : Nat → Nat} {st : Nat} {A : Nat → Prop} (C0 : cxX p s m args meth c cX2_wipe RX2 4 none D (tyX cI cJ cZ cR) st A) {v1 : Int32} {v2 : Int32} {y : St} (hK0 : ∀ (H : Heap) (locs : List Loc) (ls : Array Slot), wl D A s (wX cI cJ cZ cR am gm y) H locs → lv_has ls 4 [] → W p l e (rmN 0 0) s m args below meth c H locs 0 0 Q (F0 m 19 ls [])) :
    ∀ (n : Nat) (v3 : Int32) (t : St), lpn (fun x => x2_wipe_12_B2 v1 v2 x.1 x.2) n (v3, t) = some y → ∀ (H : Heap) (locs : List Loc) (ls : Array Slot), wl D A s (wX cI cJ cZ cR am gm t) H locs → lv_has ls 4 [(0, .ref (gm 12)), (1, .int v1), (2, .int v2), (3, .int v3)] → W p l e (rmN 0 0) s m args below meth c H locs 0 0 Q (F0 m 2 ls []) := by
  have hx := C0.1.1
  have hb := C0.1.2.1
  have hta := C0.1.2.2.2.2.2.1
  have hown := C0.1.2.2.2.2.1
  intro n
  induction n with
  | zero => intro _ _ h; cases h
  | succ n ih =>
    intro v3 t hrun H locs ls hW hl
    obtain ⟨o, ho, hrun⟩ := bd_some hrun
    unfold x2_wipe_12_B2 at ho
    refine lv_iload_n hx hb dX2_wipe_2 rfl (lv_at hl 3 rfl) ?_
    refine lv_iload_n hx hb dX2_wipe_3 rfl (lv_at hl 2 rfl) ?_
    refine lv_icmp_ge (tgt := 19) hx hb dX2_wipe_4 (by decide) (fun c1 => ?_) (fun c1 => ?_)
    · replace ho := ite_t c1 ho
      cases ho
      cases hrun
      exact hK0 _ _ _ hW (lv_sub hl [] rfl)
    · replace ho := ite_f c1 ho
      refine lv_aload_n hx hb dX2_wipe_7 rfl (lv_at hl 0 rfl) ?_
      refine lv_iload_n hx hb dX2_wipe_8 rfl (lv_at hl 1 rfl) ?_
      refine lv_iload_n hx hb dX2_wipe_9 rfl (lv_at hl 3 rfl) ?_
      refine lv_iadd hx hb dX2_wipe_10 ?_
      refine lv_iconst (v := (0 : Int32)) hx hb dX2_wipe_11 (by decide) ?_
      obtain ⟨g2, ho⟩ := gd_some ho
      refine xST_12 C0 hW g2 dX2_wipe_12 (fun H locs hW => ?_)
      obtain ⟨t3, ho, hW⟩ := nm_w (P := fun t => wl D A s (wX cI cJ cZ cR am gm t) H locs) ho hW
      obtain ⟨x4, ex4, ho⟩ := nm_x ho
      refine lv_iinc (v := x4) (lv' := [(3, .int x4), (0, .ref (gm 12)), (1, .int v1), (2, .int v2)]) hx hb dX2_wipe_13 hl (k := 3) rfl (by rw [ex4]; rfl) (by decide) rfl (fun ls hl => ?_)
      clear ex4
      refine lv_goto (tgt := 2) hx hb dX2_wipe_16 (by decide) ?_
      cases ho
      exact ih _ _ hrun _ _ _ hW (lv_sub hl [1, 2, 3, 0] rfl)
set_option maxHeartbeats 4000000 in
set_option maxRecDepth 100000 in
theorem c_x2_wipe_12 (l : Launch) {D : va_G} {cI cJ cZ cR : ClassId} {am gm : Nat → Nat} {st : Nat} (sz : Nat) (t : St) (a1 : Int32) (a2 : Int32) {t' : St} (ho : x2_wipe_12 t a1 a2 = some t') : Met l yX2_wipe (.code yX2_wipe cX2_wipe 4 none :: wsAll) (rmN 0 0) (va_Pc [.ref (gm 12), .int a1, .int a2] (prX D (tyX cI cJ cZ cR) (wX cI cJ cZ cR am gm t) sz st)) (qV D (tyX cI cJ cZ cR) (wX cI cJ cZ cR am gm t') (va_A (wX cI cJ cZ cR am gm t) sz)) 0 0 (va_A (wX cI cJ cZ cR am gm t) sz) := by
  refine Met.ofW (cc := cX2_wipe) (maxL := 4) (ret := none) (by decide) rfl ?_
  intro p e s m args below meth c s₁ B hml hv
  obtain ⟨rfl, ⟨hsz, hP, hK, hD0⟩, hsx⟩ := hv
  have hx := B.exec
  have hb := B.bytes
  have hts := atoms_spec (ws := (.code yX2_wipe cX2_wipe 4 none :: wsAll)) B.pre
  have hta := fun w h => hts w (List.mem_cons_of_mem _ h)
  have hown : s.vm.findClass RX2 = some m.cls := findClass_of_methodNamed B.named
  have hlocks := B.notSynchronized
  subst hsz
  have hD := hD0.self (sz := s.heap.size)
  generalize hAe : va_A (wX cI cJ cZ cR am gm t) s.heap.size = A at hD ⊢
  have hA : ∀ q : Nat, s.heap.size ≤ q → A q := fun q h => by rw [← hAe]; exact Or.inr h
  have C0 : cxX p s m ([.ref (gm 12), .int a1, .int a2].toArray) meth c cX2_wipe RX2 4 none D (tyX cI cJ cZ cR) st A := ⟨⟨hx, hb, B.returns, hml, hown, hta, hlocks, hK, hA⟩, by rw [← hAe]; exact hsx⟩
  have hW : wl D A s (wX cI cJ cZ cR am gm t) s.heap [] := ⟨hP, hD, va_S.rf⟩
  have hl := lv_entry [.ref (gm 12), .int a1, .int a2] (n := 4) (Nat.le_of_ble_eq_true rfl)
  rw [lg_entry_eq]
  generalize (lg_sl [.ref (gm 12), .int a1, .int a2] ++ List.replicate (4 - (lg_sl [.ref (gm 12), .int a1, .int a2]).length) Slot.unset).toArray = ls at hl ⊢
  have hl : lv_has ls 4 [(0, .ref (gm 12)), (1, .int a1), (2, .int a2)] := hl
  unfold x2_wipe_12 at ho
  refine lv_iconst (v := (0 : Int32)) hx hb dX2_wipe_0 (by decide) ?_
  refine lv_istore_n (lv' := [(3, .int (0 : Int32)), (0, .ref (gm 12)), (1, .int a1), (2, .int a2)]) hx hb dX2_wipe_1 rfl hl (by decide) rfl (fun ls hl => ?_)
  obtain ⟨y5, hc7, ho⟩ := bd_some ho
  obtain ⟨ny5, hc7⟩ := lp_to hc7
  refine x2_wipe_12_L2 C0 ?_ ny5 _ _ hc7 _ _ _ hW (lv_sub hl [1, 2, 3, 0] rfl)
  intro H locs ls hW hl
  cases ho
  exact rtV C0.1 hW dX2_wipe_19
noncomputable def x2_multiply_12_B6 (v1 : Int32) (v2 : Int32) (v3 : Int32) (v4 : Int64) (v6 : Int32) (t : St) : Option ((Int64 × Int32 × St) ⊕ (St)) :=
  if v2 ≤ v6 then (some (.inr t)) else (gd (v1 + v6) (gN t 12) (nm (v4 + (((gA t 12 ((v1 + v6)).toNatClampNeg)).toInt64 * (v3).toInt64)) (fun x3 : Int64 => gd (v1 + v6) (gN t 12) (nm (sA t 12 (v1 + v6) ((x3 &&& (1073741823 : Int64))).toInt32) (fun t5 : St => nm ((x3 >>> (((30 : Int32)).toInt64 &&& 63))) (fun x6 : Int64 => nm (v6 + (1 : Int32)) (fun x7 : Int32 => some (.inl (x6, x7, t5)))))))))
theorem mm_x2_multiply_12_B6 (v1 : Int32) (v2 : Int32) (v3 : Int32) (v4 : Int64) (v6 : Int32) (t : St) : MR (x2_multiply_12_B6 v1 v2 v3 v4 v6 t) t (Sum.elim (fun (x : Int64 × Int32 × St) => x.2.2) (fun (y : St) => y)) := by
  unfold x2_multiply_12_B6
  exact MR_ite (MR_some mle.rfl) (MR_gd (MR_nm (fun x3 _ => MR_gd (MR_nmS mle_sA (fun t5 ht5 => MR_nm (fun x6 _ => MR_nm (fun x7 _ => MR_some ht5)))))))
theorem mm_x2_multiply_12_L6 (v1 : Int32) (v2 : Int32) (v3 : Int32) (v4 : Int64) (v6 : Int32) (t : St) : MR (lp (fun x => x2_multiply_12_B6 v1 v2 v3 x.1 x.2.1 x.2.2) (v4, v6, t)) t (fun (y : St) => y) := MR_lp (p := (fun (x : Int64 × Int32 × St) => x.2.2)) (q := (fun (y : St) => y)) (fun x => mm_x2_multiply_12_B6 v1 v2 v3 x.1 x.2.1 x.2.2) (v4, v6, t)
noncomputable def x2_multiply_12 (t : St) (a1 : Int32) (a2 : Int32) (a3 : Int32) : Option (St) :=
  (lp (fun x => x2_multiply_12_B6 a1 a2 a3 x.1 x.2.1 x.2.2) ((0 : Int64), (0 : Int32), t)).bind (fun y8 => some y8)
theorem mm_x2_multiply_12 (t : St) (a1 : Int32) (a2 : Int32) (a3 : Int32) : MR (x2_multiply_12 t a1 a2 a3) t (fun (a : St) => a) := by
  unfold x2_multiply_12
  exact MR_bind (mm_x2_multiply_12_L6 a1 a2 a3 (0 : Int64) (0 : Int32) t) (fun y8 hm9 => MR_some hm9)
set_option maxHeartbeats 4000000 in
set_option maxRecDepth 100000 in
theorem x2_multiply_12_L6 {p : Program} {l : Launch} {e : Env} {s : State} {m : MethodId} {args : Array Value} {below : List Frame} {meth : Method} {c : Code} {Q : State → Prop} {D : va_G} {cI cJ cZ cR : ClassId} {am gm : Nat → Nat} {st : Nat} {A : Nat → Prop} (C0 : cxX p s m args meth c cX2_multiply RX2 7 none D (tyX cI cJ cZ cR) st A) {v1 : Int32} {v2 : Int32} {v3 : Int32} {y : St} (hK0 : ∀ (H : Heap) (locs : List Loc) (ls : Array Slot), wl D A s (wX cI cJ cZ cR am gm y) H locs → lv_has ls 7 [] → W p l e (rmN 0 0) s m args below meth c H locs 0 0 Q (F0 m 53 ls [])) :
    ∀ (n : Nat) (v4 : Int64) (v6 : Int32) (t : St), lpn (fun x => x2_multiply_12_B6 v1 v2 v3 x.1 x.2.1 x.2.2) n (v4, v6, t) = some y → ∀ (H : Heap) (locs : List Loc) (ls : Array Slot), wl D A s (wX cI cJ cZ cR am gm t) H locs → lv_has ls 7 [(0, .ref (gm 12)), (1, .int v1), (2, .int v2), (3, .int v3), (4, .long v4), (6, .int v6)] → W p l e (rmN 0 0) s m args below meth c H locs 0 0 Q (F0 m 6 ls []) := by
  have hx := C0.1.1
  have hb := C0.1.2.1
  have hta := C0.1.2.2.2.2.2.1
  have hown := C0.1.2.2.2.2.1
  intro n
  induction n with
  | zero => intro _ _ _ h; cases h
  | succ n ih =>
    intro v4 v6 t hrun H locs ls hW hl
    obtain ⟨o, ho, hrun⟩ := bd_some hrun
    unfold x2_multiply_12_B6 at ho
    refine lv_iload hx hb dX2_multiply_6 (lv_at hl 5 rfl) ?_
    refine lv_iload_n hx hb dX2_multiply_8 rfl (lv_at hl 2 rfl) ?_
    refine lv_icmp_ge (tgt := 53) hx hb dX2_multiply_9 (by decide) (fun c1 => ?_) (fun c1 => ?_)
    · replace ho := ite_t c1 ho
      cases ho
      cases hrun
      exact hK0 _ _ _ hW (lv_sub hl [] rfl)
    · replace ho := ite_f c1 ho
      refine lv_lload hx hb dX2_multiply_12 (lv_at hl 4 rfl) ?_
      refine lv_aload_n hx hb dX2_multiply_14 rfl (lv_at hl 0 rfl) ?_
      refine lv_iload_n hx hb dX2_multiply_15 rfl (lv_at hl 1 rfl) ?_
      refine lv_iload hx hb dX2_multiply_16 (lv_at hl 5 rfl) ?_
      refine lv_iadd hx hb dX2_multiply_18 ?_
      obtain ⟨g2, ho⟩ := gd_some ho
      refine xLD_12 C0 hW g2 dX2_multiply_19 ?_
      refine lv_i2l hx hb dX2_multiply_20 rfl ?_
      refine lv_iload_n hx hb dX2_multiply_21 rfl (lv_at hl 3 rfl) ?_
      refine lv_i2l hx hb dX2_multiply_22 rfl ?_
      refine lv_lmul hx hb dX2_multiply_23 ?_
      refine lv_ladd hx hb dX2_multiply_24 ?_
      refine lv_nml ho (fun x3 ho => ?_)
      refine lv_lstore (lv' := [(4, .long x3), (0, .ref (gm 12)), (1, .int v1), (2, .int v2), (3, .int v3), (6, .int v6)]) hx hb dX2_multiply_25 hl (by decide) rfl (fun ls hl => ?_)
      refine lv_aload_n hx hb dX2_multiply_27 rfl (lv_at hl 1 rfl) ?_
      refine lv_iload_n hx hb dX2_multiply_28 rfl (lv_at hl 2 rfl) ?_
      refine lv_iload hx hb dX2_multiply_29 (lv_at hl 5 rfl) ?_
      refine lv_iadd hx hb dX2_multiply_31 ?_
      refine lv_lload hx hb dX2_multiply_32 (lv_at hl 0 rfl) ?_
      refine lv_ldc2 hx hb hown (hta _ kw_996) dX2_multiply_34 ?_
      refine lv_land hx hb dX2_multiply_37 ?_
      refine lv_l2i hx hb dX2_multiply_38 rfl ?_
      obtain ⟨g4, ho⟩ := gd_some ho
      refine xST_12 C0 hW g4 dX2_multiply_39 (fun H locs hW => ?_)
      obtain ⟨t5, ho, hW⟩ := nm_w (P := fun t => wl D A s (wX cI cJ cZ cR am gm t) H locs) ho hW
      refine lv_lload hx hb dX2_multiply_40 (lv_at hl 0 rfl) ?_
      refine lv_bipush (v := (30 : Int32)) hx hb dX2_multiply_42 (by decide) ?_
      refine lv_lshr hx hb dX2_multiply_44 rfl ?_
      refine lv_nml ho (fun x6 ho => ?_)
      refine lv_lstore (lv' := [(4, .long x6), (0, .ref (gm 12)), (1, .int v1), (2, .int v2), (3, .int v3), (6, .int v6)]) hx hb dX2_multiply_45 hl (by decide) rfl (fun ls hl => ?_)
      obtain ⟨x7, ex7, ho⟩ := nm_x ho
      refine lv_iinc (v := x7) (lv' := [(6, .int x7), (4, .long x6), (0, .ref (gm 12)), (1, .int v1), (2, .int v2), (3, .int v3)]) hx hb dX2_multiply_47 hl (k := 5) rfl (by rw [ex7]; rfl) (by decide) rfl (fun ls hl => ?_)
      clear ex7
      refine lv_goto (tgt := 6) hx hb dX2_multiply_50 (by decide) ?_
      cases ho
      exact ih _ _ _ hrun _ _ _ hW (lv_sub hl [2, 3, 4, 5, 1, 0] rfl)
set_option maxHeartbeats 4000000 in
set_option maxRecDepth 100000 in
theorem c_x2_multiply_12 (l : Launch) {D : va_G} {cI cJ cZ cR : ClassId} {am gm : Nat → Nat} {st : Nat} (sz : Nat) (t : St) (a1 : Int32) (a2 : Int32) (a3 : Int32) {t' : St} (ho : x2_multiply_12 t a1 a2 a3 = some t') : Met l yX2_multiply (.code yX2_multiply cX2_multiply 7 none :: wsAll) (rmN 0 0) (va_Pc [.ref (gm 12), .int a1, .int a2, .int a3] (prX D (tyX cI cJ cZ cR) (wX cI cJ cZ cR am gm t) sz st)) (qV D (tyX cI cJ cZ cR) (wX cI cJ cZ cR am gm t') (va_A (wX cI cJ cZ cR am gm t) sz)) 0 0 (va_A (wX cI cJ cZ cR am gm t) sz) := by
  refine Met.ofW (cc := cX2_multiply) (maxL := 7) (ret := none) (by decide) rfl ?_
  intro p e s m args below meth c s₁ B hml hv
  obtain ⟨rfl, ⟨hsz, hP, hK, hD0⟩, hsx⟩ := hv
  have hx := B.exec
  have hb := B.bytes
  have hts := atoms_spec (ws := (.code yX2_multiply cX2_multiply 7 none :: wsAll)) B.pre
  have hta := fun w h => hts w (List.mem_cons_of_mem _ h)
  have hown : s.vm.findClass RX2 = some m.cls := findClass_of_methodNamed B.named
  have hlocks := B.notSynchronized
  subst hsz
  have hD := hD0.self (sz := s.heap.size)
  generalize hAe : va_A (wX cI cJ cZ cR am gm t) s.heap.size = A at hD ⊢
  have hA : ∀ q : Nat, s.heap.size ≤ q → A q := fun q h => by rw [← hAe]; exact Or.inr h
  have C0 : cxX p s m ([.ref (gm 12), .int a1, .int a2, .int a3].toArray) meth c cX2_multiply RX2 7 none D (tyX cI cJ cZ cR) st A := ⟨⟨hx, hb, B.returns, hml, hown, hta, hlocks, hK, hA⟩, by rw [← hAe]; exact hsx⟩
  have hW : wl D A s (wX cI cJ cZ cR am gm t) s.heap [] := ⟨hP, hD, va_S.rf⟩
  have hl := lv_entry [.ref (gm 12), .int a1, .int a2, .int a3] (n := 7) (Nat.le_of_ble_eq_true rfl)
  rw [lg_entry_eq]
  generalize (lg_sl [.ref (gm 12), .int a1, .int a2, .int a3] ++ List.replicate (7 - (lg_sl [.ref (gm 12), .int a1, .int a2, .int a3]).length) Slot.unset).toArray = ls at hl ⊢
  have hl : lv_has ls 7 [(0, .ref (gm 12)), (1, .int a1), (2, .int a2), (3, .int a3)] := hl
  unfold x2_multiply_12 at ho
  refine lv_lconst (v := (0 : Int64)) hx hb dX2_multiply_0 (by decide) ?_
  refine lv_lstore (lv' := [(4, .long (0 : Int64)), (0, .ref (gm 12)), (1, .int a1), (2, .int a2), (3, .int a3)]) hx hb dX2_multiply_1 hl (by decide) rfl (fun ls hl => ?_)
  refine lv_iconst (v := (0 : Int32)) hx hb dX2_multiply_3 (by decide) ?_
  refine lv_istore (lv' := [(6, .int (0 : Int32)), (4, .long (0 : Int64)), (0, .ref (gm 12)), (1, .int a1), (2, .int a2), (3, .int a3)]) hx hb dX2_multiply_4 hl (by decide) rfl (fun ls hl => ?_)
  obtain ⟨y8, hc10, ho⟩ := bd_some ho
  obtain ⟨ny8, hc10⟩ := lp_to hc10
  refine x2_multiply_12_L6 C0 ?_ ny8 _ _ _ hc10 _ _ _ hW (lv_sub hl [2, 3, 4, 5, 1, 0] rfl)
  intro H locs ls hW hl
  cases ho
  exact rtV C0.1 hW dX2_multiply_53
noncomputable def x2_putPower_12_B13 (v1 : Int32) (v2 : Int32) (v3 : Int32) (v4 : Int32) (t : St) : Option ((Int32 × St) ⊕ (St)) :=
  if v3 ≤ v4 then (some (.inr t)) else ((x2_multiply_12 t v1 v2 (1000 : Int32)).bind (fun q2 => nm (v4 + (1 : Int32)) (fun x4 : Int32 => some (.inl (x4, q2)))))
theorem mm_x2_putPower_12_B13 (v1 : Int32) (v2 : Int32) (v3 : Int32) (v4 : Int32) (t : St) : MR (x2_putPower_12_B13 v1 v2 v3 v4 t) t (Sum.elim (fun (x : Int32 × St) => x.2) (fun (y : St) => y)) := by
  unfold x2_putPower_12_B13
  exact MR_ite (MR_some mle.rfl) (MR_bind (mm_x2_multiply_12 t v1 v2 (1000 : Int32)) (fun q2 hq2 => MR_nm (fun x4 _ => MR_some hq2)))
theorem mm_x2_putPower_12_L13 (v1 : Int32) (v2 : Int32) (v3 : Int32) (v4 : Int32) (t : St) : MR (lp (fun x => x2_putPower_12_B13 v1 v2 v3 x.1 x.2) (v4, t)) t (fun (y : St) => y) := MR_lp (p := (fun (x : Int32 × St) => x.2)) (q := (fun (y : St) => y)) (fun x => mm_x2_putPower_12_B13 v1 v2 v3 x.1 x.2) (v4, t)
noncomputable def x2_putPower_12 (t : St) (a1 : Int32) (a2 : Int32) (a3 : Int32) : Option (St) :=
  (x2_wipe_12 t a1 a2).bind (fun q5 => gd a1 (gN q5 12) (nm (sA q5 12 a1 (1 : Int32)) (fun t8 : St => (lp (fun x => x2_putPower_12_B13 a1 a2 a3 x.1 x.2) ((0 : Int32), t8)).bind (fun y9 => some y9))))
theorem mm_x2_putPower_12 (t : St) (a1 : Int32) (a2 : Int32) (a3 : Int32) : MR (x2_putPower_12 t a1 a2 a3) t (fun (a : St) => a) := by
  unfold x2_putPower_12
  exact MR_bind (mm_x2_wipe_12 t a1 a2) (fun q5 hq5 => MR_gd (MR_nmS mle_sA (fun t8 ht8 => MR_bind (mm_x2_putPower_12_L13 a1 a2 a3 (0 : Int32) t8) (fun y9 hm10 => MR_some (mle.trans (mle.trans hq5 ht8) hm10)))))
set_option maxHeartbeats 4000000 in
set_option maxRecDepth 100000 in
theorem x2_putPower_12_L13 {p : Program} {l : Launch} {e : Env} {s : State} {m : MethodId} {args : Array Value} {below : List Frame} {meth : Method} {c : Code} {Q : State → Prop} {D : va_G} {cI cJ cZ cR : ClassId} {am gm : Nat → Nat} {st : Nat} {A : Nat → Prop} (C0 : cxX p s m args meth c cX2_putPower RX2 5 none D (tyX cI cJ cZ cR) st A) {v1 : Int32} {v2 : Int32} {v3 : Int32} {y : St} (hK0 : ∀ (H : Heap) (locs : List Loc) (ls : Array Slot), wl D A s (wX cI cJ cZ cR am gm y) H locs → lv_has ls 5 [] → W p l e (rmN 1 26) s m args below meth c H locs 0 0 Q (F0 m 34 ls [])) :
    ∀ (n : Nat) (v4 : Int32) (t : St), lpn (fun x => x2_putPower_12_B13 v1 v2 v3 x.1 x.2) n (v4, t) = some y → ∀ (H : Heap) (locs : List Loc) (ls : Array Slot), wl D A s (wX cI cJ cZ cR am gm t) H locs → lv_has ls 5 [(0, .ref (gm 12)), (1, .int v1), (2, .int v2), (3, .int v3), (4, .int v4)] → W p l e (rmN 1 26) s m args below meth c H locs 0 0 Q (F0 m 13 ls []) := by
  have hx := C0.1.1
  have hb := C0.1.2.1
  have hta := C0.1.2.2.2.2.2.1
  have hown := C0.1.2.2.2.2.1
  intro n
  induction n with
  | zero => intro _ _ h; cases h
  | succ n ih =>
    intro v4 t hrun H locs ls hW hl
    obtain ⟨o, ho, hrun⟩ := bd_some hrun
    unfold x2_putPower_12_B13 at ho
    refine lv_iload hx hb dX2_putPower_13 (lv_at hl 4 rfl) ?_
    refine lv_iload_n hx hb dX2_putPower_15 rfl (lv_at hl 3 rfl) ?_
    refine lv_icmp_ge (tgt := 34) hx hb dX2_putPower_16 (by decide) (fun c1 => ?_) (fun c1 => ?_)
    · replace ho := ite_t c1 ho
      cases ho
      cases hrun
      exact hK0 _ _ _ hW (lv_sub hl [] rfl)
    · replace ho := ite_f c1 ho
      refine lv_aload_n hx hb dX2_putPower_19 rfl (lv_at hl 0 rfl) ?_
      refine lv_iload_n hx hb dX2_putPower_20 rfl (lv_at hl 1 rfl) ?_
      refine lv_iload_n hx hb dX2_putPower_21 rfl (lv_at hl 2 rfl) ?_
      refine lv_sipush (v := (1000 : Int32)) hx hb dX2_putPower_22 (by decide) ?_
      obtain ⟨q2, hc3, ho⟩ := bd_some ho
      refine bkV C0.1 hW (runSX (As := [.ref (gm 12), .int v1, .int v2, .int (1000 : Int32)]) (rest := []) C0 hW (c_x2_multiply_12 l _ t v1 v2 (1000 : Int32) (t' := q2) hc3) cb_X2_X2_multiply_51 rfl rfl ⟨rfl, rfl⟩ ⟨Nat.le_of_ble_eq_true rfl, Nat.le_of_ble_eq_true rfl⟩ (Nat.le_of_ble_eq_true rfl) hl.1 dX2_putPower_25 ⟨Nat.le_of_ble_eq_true rfl, Nat.le_of_ble_eq_true rfl⟩) (fun H locs hW => ?_)
      obtain ⟨x4, ex4, ho⟩ := nm_x ho
      refine lv_iinc (v := x4) (lv' := [(4, .int x4), (0, .ref (gm 12)), (1, .int v1), (2, .int v2), (3, .int v3)]) hx hb dX2_putPower_28 hl (k := 4) rfl (by rw [ex4]; rfl) (by decide) rfl (fun ls hl => ?_)
      clear ex4
      refine lv_goto (tgt := 13) hx hb dX2_putPower_31 (by decide) ?_
      cases ho
      exact ih _ _ hrun _ _ _ hW (lv_sub hl [1, 2, 3, 4, 0] rfl)
set_option maxHeartbeats 4000000 in
set_option maxRecDepth 100000 in
theorem c_x2_putPower_12 (l : Launch) {D : va_G} {cI cJ cZ cR : ClassId} {am gm : Nat → Nat} {st : Nat} (sz : Nat) (t : St) (a1 : Int32) (a2 : Int32) (a3 : Int32) {t' : St} (ho : x2_putPower_12 t a1 a2 a3 = some t') : Met l yX2_putPower (.code yX2_putPower cX2_putPower 5 none :: wsAll) (rmN 1 26) (va_Pc [.ref (gm 12), .int a1, .int a2, .int a3] (prX D (tyX cI cJ cZ cR) (wX cI cJ cZ cR am gm t) sz st)) (qV D (tyX cI cJ cZ cR) (wX cI cJ cZ cR am gm t') (va_A (wX cI cJ cZ cR am gm t) sz)) 0 0 (va_A (wX cI cJ cZ cR am gm t) sz) := by
  refine Met.ofW (cc := cX2_putPower) (maxL := 5) (ret := none) (by decide) rfl ?_
  intro p e s m args below meth c s₁ B hml hv
  obtain ⟨rfl, ⟨hsz, hP, hK, hD0⟩, hsx⟩ := hv
  have hx := B.exec
  have hb := B.bytes
  have hts := atoms_spec (ws := (.code yX2_putPower cX2_putPower 5 none :: wsAll)) B.pre
  have hta := fun w h => hts w (List.mem_cons_of_mem _ h)
  have hown : s.vm.findClass RX2 = some m.cls := findClass_of_methodNamed B.named
  have hlocks := B.notSynchronized
  subst hsz
  have hD := hD0.self (sz := s.heap.size)
  generalize hAe : va_A (wX cI cJ cZ cR am gm t) s.heap.size = A at hD ⊢
  have hA : ∀ q : Nat, s.heap.size ≤ q → A q := fun q h => by rw [← hAe]; exact Or.inr h
  have C0 : cxX p s m ([.ref (gm 12), .int a1, .int a2, .int a3].toArray) meth c cX2_putPower RX2 5 none D (tyX cI cJ cZ cR) st A := ⟨⟨hx, hb, B.returns, hml, hown, hta, hlocks, hK, hA⟩, by rw [← hAe]; exact hsx⟩
  have hW : wl D A s (wX cI cJ cZ cR am gm t) s.heap [] := ⟨hP, hD, va_S.rf⟩
  have hl := lv_entry [.ref (gm 12), .int a1, .int a2, .int a3] (n := 5) (Nat.le_of_ble_eq_true rfl)
  rw [lg_entry_eq]
  generalize (lg_sl [.ref (gm 12), .int a1, .int a2, .int a3] ++ List.replicate (5 - (lg_sl [.ref (gm 12), .int a1, .int a2, .int a3]).length) Slot.unset).toArray = ls at hl ⊢
  have hl : lv_has ls 5 [(0, .ref (gm 12)), (1, .int a1), (2, .int a2), (3, .int a3)] := hl
  unfold x2_putPower_12 at ho
  refine lv_aload_n hx hb dX2_putPower_0 rfl (lv_at hl 0 rfl) ?_
  refine lv_iload_n hx hb dX2_putPower_1 rfl (lv_at hl 1 rfl) ?_
  refine lv_iload_n hx hb dX2_putPower_2 rfl (lv_at hl 2 rfl) ?_
  obtain ⟨q5, hc6, ho⟩ := bd_some ho
  refine bkV C0.1 hW (runSX (As := [.ref (gm 12), .int a1, .int a2]) (rest := []) C0 hW (c_x2_wipe_12 l _ t a1 a2 (t' := q5) hc6) cb_X2_X2_wipe_65 rfl rfl ⟨rfl, rfl⟩ ⟨Nat.le_of_ble_eq_true rfl, Nat.le_of_ble_eq_true rfl⟩ (Nat.le_of_ble_eq_true rfl) hl.1 dX2_putPower_3 ⟨Nat.le_of_ble_eq_true rfl, Nat.le_of_ble_eq_true rfl⟩) (fun H locs hW => ?_)
  refine lv_aload_n hx hb dX2_putPower_6 rfl (lv_at hl 0 rfl) ?_
  refine lv_iload_n hx hb dX2_putPower_7 rfl (lv_at hl 1 rfl) ?_
  refine lv_iconst (v := (1 : Int32)) hx hb dX2_putPower_8 (by decide) ?_
  obtain ⟨g7, ho⟩ := gd_some ho
  refine xST_12 C0 hW g7 dX2_putPower_9 (fun H locs hW => ?_)
  obtain ⟨t8, ho, hW⟩ := nm_w (P := fun t => wl D A s (wX cI cJ cZ cR am gm t) H locs) ho hW
  refine lv_iconst (v := (0 : Int32)) hx hb dX2_putPower_10 (by decide) ?_
  refine lv_istore (lv' := [(4, .int (0 : Int32)), (0, .ref (gm 12)), (1, .int a1), (2, .int a2), (3, .int a3)]) hx hb dX2_putPower_11 hl (by decide) rfl (fun ls hl => ?_)
  obtain ⟨y9, hc11, ho⟩ := bd_some ho
  obtain ⟨ny9, hc11⟩ := lp_to hc11
  refine x2_putPower_12_L13 C0 ?_ ny9 _ _ hc11 _ _ _ hW (lv_sub hl [1, 2, 3, 4, 0] rfl)
  intro H locs ls hW hl
  cases ho
  exact rtV C0.1 hW dX2_putPower_34
noncomputable def x2_blend_12_B77 (v1 : Int32) (v6 : Int64) (v8 : Int32) (t : St) : Option ((Int64 × Int32 × St) ⊕ (St)) :=
  if v8 < 0 then (some (.inr t)) else (gd (v1 + v8) (gN t 12) (nm (((v6 <<< (((30 : Int32)).toInt64 &&& 63))) + ((gA t 12 ((v1 + v8)).toNatClampNeg)).toInt64) (fun x3 : Int64 => gd (v1 + v8) (gN t 12) (nm (sA t 12 (v1 + v8) ((x3 / (1000 : Int64))).toInt32) (fun t5 : St => nm (x3 - x3 / (1000 : Int64) * (1000 : Int64)) (fun x6 : Int64 => nm (v8 + (-1 : Int32)) (fun x7 : Int32 => some (.inl (x6, x7, t5)))))))))
theorem mm_x2_blend_12_B77 (v1 : Int32) (v6 : Int64) (v8 : Int32) (t : St) : MR (x2_blend_12_B77 v1 v6 v8 t) t (Sum.elim (fun (x : Int64 × Int32 × St) => x.2.2) (fun (y : St) => y)) := by
  unfold x2_blend_12_B77
  exact MR_ite (MR_some mle.rfl) (MR_gd (MR_nm (fun x3 _ => MR_gd (MR_nmS mle_sA (fun t5 ht5 => MR_nm (fun x6 _ => MR_nm (fun x7 _ => MR_some ht5)))))))
theorem mm_x2_blend_12_L77 (v1 : Int32) (v6 : Int64) (v8 : Int32) (t : St) : MR (lp (fun x => x2_blend_12_B77 v1 x.1 x.2.1 x.2.2) (v6, v8, t)) t (fun (y : St) => y) := MR_lp (p := (fun (x : Int64 × Int32 × St) => x.2.2)) (q := (fun (y : St) => y)) (fun x => mm_x2_blend_12_B77 v1 x.1 x.2.1 x.2.2) (v6, v8, t)
noncomputable def x2_blend_12_B6 (v1 : Int32) (v2 : Int32) (v3 : Int32) (v4 : Int32) (v5 : Int32) (v6 : Int64) (v8 : Int32) (t : St) : Option ((Int64 × Int32 × St) ⊕ (Int64 × St)) :=
  if v5 ≤ v8 then (some (.inr (v6, t))) else (gd (v2 + v8) (gN t 12) (gd (v3 + v8) (gN t 12) (nm (v6 + (((v4).toInt64 * ((gA t 12 ((v2 + v8)).toNatClampNeg)).toInt64) + ((((1000 : Int32) - v4)).toInt64 * ((gA t 12 ((v3 + v8)).toNatClampNeg)).toInt64))) (fun x11 : Int64 => gd (v1 + v8) (gN t 12) (nm (sA t 12 (v1 + v8) ((x11 &&& (1073741823 : Int64))).toInt32) (fun t13 : St => nm ((x11 >>> (((30 : Int32)).toInt64 &&& 63))) (fun x14 : Int64 => nm (v8 + (1 : Int32)) (fun x15 : Int32 => some (.inl (x14, x15, t13))))))))))
theorem mm_x2_blend_12_B6 (v1 : Int32) (v2 : Int32) (v3 : Int32) (v4 : Int32) (v5 : Int32) (v6 : Int64) (v8 : Int32) (t : St) : MR (x2_blend_12_B6 v1 v2 v3 v4 v5 v6 v8 t) t (Sum.elim (fun (x : Int64 × Int32 × St) => x.2.2) (fun (y : Int64 × St) => y.2)) := by
  unfold x2_blend_12_B6
  exact MR_ite (MR_some mle.rfl) (MR_gd (MR_gd (MR_nm (fun x11 _ => MR_gd (MR_nmS mle_sA (fun t13 ht13 => MR_nm (fun x14 _ => MR_nm (fun x15 _ => MR_some ht13))))))))
theorem mm_x2_blend_12_L6 (v1 : Int32) (v2 : Int32) (v3 : Int32) (v4 : Int32) (v5 : Int32) (v6 : Int64) (v8 : Int32) (t : St) : MR (lp (fun x => x2_blend_12_B6 v1 v2 v3 v4 v5 x.1 x.2.1 x.2.2) (v6, v8, t)) t (fun (y : Int64 × St) => y.2) := MR_lp (p := (fun (x : Int64 × Int32 × St) => x.2.2)) (q := (fun (y : Int64 × St) => y.2)) (fun x => mm_x2_blend_12_B6 v1 v2 v3 v4 v5 x.1 x.2.1 x.2.2) (v6, v8, t)
noncomputable def x2_blend_12 (t : St) (a1 : Int32) (a2 : Int32) (a3 : Int32) (a4 : Int32) (a5 : Int32) : Option (St) :=
  (lp (fun x => x2_blend_12_B6 a1 a2 a3 a4 a5 x.1 x.2.1 x.2.2) ((0 : Int64), (0 : Int32), t)).bind (fun y16 => nm (a5 - (1 : Int32)) (fun x19 : Int32 => (lp (fun x => x2_blend_12_B77 a1 x.1 x.2.1 x.2.2) (y16.1, x19, y16.2)).bind (fun y20 => some y20)))
theorem mm_x2_blend_12 (t : St) (a1 : Int32) (a2 : Int32) (a3 : Int32) (a4 : Int32) (a5 : Int32) : MR (x2_blend_12 t a1 a2 a3 a4 a5) t (fun (a : St) => a) := by
  unfold x2_blend_12
  exact MR_bind (mm_x2_blend_12_L6 a1 a2 a3 a4 a5 (0 : Int64) (0 : Int32) t) (fun y16 hm17 => MR_nm (fun x19 _ => MR_bind (mm_x2_blend_12_L77 a1 y16.1 x19 y16.2) (fun y20 hm21 => MR_some (mle.trans hm17 hm21))))
set_option maxHeartbeats 4000000 in
set_option maxRecDepth 100000 in
theorem x2_blend_12_L77 {p : Program} {l : Launch} {e : Env} {s : State} {m : MethodId} {args : Array Value} {below : List Frame} {meth : Method} {c : Code} {Q : State → Prop} {D : va_G} {cI cJ cZ cR : ClassId} {am gm : Nat → Nat} {st : Nat} {A : Nat → Prop} (C0 : cxX p s m args meth c cX2_blend RX2 9 none D (tyX cI cJ cZ cR) st A) {v1 : Int32} {y : St} (hK0 : ∀ (H : Heap) (locs : List Loc) (ls : Array Slot), wl D A s (wX cI cJ cZ cR am gm y) H locs → lv_has ls 9 [] → W p l e (rmN 0 0) s m args below meth c H locs 0 0 Q (F0 m 124 ls [])) :
    ∀ (n : Nat) (v6 : Int64) (v8 : Int32) (t : St), lpn (fun x => x2_blend_12_B77 v1 x.1 x.2.1 x.2.2) n (v6, v8, t) = some y → ∀ (H : Heap) (locs : List Loc) (ls : Array Slot), wl D A s (wX cI cJ cZ cR am gm t) H locs → lv_has ls 9 [(0, .ref (gm 12)), (1, .int v1), (6, .long v6), (8, .int v8)] → W p l e (rmN 0 0) s m args below meth c H locs 0 0 Q (F0 m 77 ls []) := by
  have hx := C0.1.1
  have hb := C0.1.2.1
  have hta := C0.1.2.2.2.2.2.1
  have hown := C0.1.2.2.2.2.1
  intro n
  induction n with
  | zero => intro _ _ _ h; cases h
  | succ n ih =>
    intro v6 v8 t hrun H locs ls hW hl
    obtain ⟨o, ho, hrun⟩ := bd_some hrun
    unfold x2_blend_12_B77 at ho
    refine lv_iload hx hb dX2_blend_77 (lv_at hl 3 rfl) ?_
    refine lv_if_lt (tgt := 124) hx hb dX2_blend_79 (by decide) (fun c1 => ?_) (fun c1 => ?_)
    · replace ho := ite_t c1 ho
      cases ho
      cases hrun
      exact hK0 _ _ _ hW (lv_sub hl [] rfl)
    · replace ho := ite_f c1 ho
      refine lv_lload hx hb dX2_blend_82 (lv_at hl 2 rfl) ?_
      refine lv_bipush (v := (30 : Int32)) hx hb dX2_blend_84 (by decide) ?_
      refine lv_lshl hx hb dX2_blend_86 rfl ?_
      refine lv_aload_n hx hb dX2_blend_87 rfl (lv_at hl 0 rfl) ?_
      refine lv_iload_n hx hb dX2_blend_88 rfl (lv_at hl 1 rfl) ?_
      refine lv_iload hx hb dX2_blend_89 (lv_at hl 3 rfl) ?_
      refine lv_iadd hx hb dX2_blend_91 ?_
      obtain ⟨g2, ho⟩ := gd_some ho
      refine xLD_12 C0 hW g2 dX2_blend_92 ?_
      refine lv_i2l hx hb dX2_blend_93 rfl ?_
      refine lv_ladd hx hb dX2_blend_94 ?_
      refine lv_nml ho (fun x3 ho => ?_)
      refine lv_lstore (lv' := [(6, .long x3), (0, .ref (gm 12)), (1, .int v1), (8, .int v8)]) hx hb dX2_blend_95 hl (by decide) rfl (fun ls hl => ?_)
      refine lv_aload_n hx hb dX2_blend_97 rfl (lv_at hl 1 rfl) ?_
      refine lv_iload_n hx hb dX2_blend_98 rfl (lv_at hl 2 rfl) ?_
      refine lv_iload hx hb dX2_blend_99 (lv_at hl 3 rfl) ?_
      refine lv_iadd hx hb dX2_blend_101 ?_
      refine lv_lload hx hb dX2_blend_102 (lv_at hl 0 rfl) ?_
      refine lv_ldc2 hx hb hown (hta _ kw_1000) dX2_blend_104 ?_
      refine lv_ldiv hx hb dX2_blend_107 (by decide) ?_
      refine lv_l2i hx hb dX2_blend_108 rfl ?_
      obtain ⟨g4, ho⟩ := gd_some ho
      refine xST_12 C0 hW g4 dX2_blend_109 (fun H locs hW => ?_)
      obtain ⟨t5, ho, hW⟩ := nm_w (P := fun t => wl D A s (wX cI cJ cZ cR am gm t) H locs) ho hW
      refine lv_lload hx hb dX2_blend_110 (lv_at hl 0 rfl) ?_
      refine lv_ldc2 hx hb hown (hta _ kw_1000) dX2_blend_112 ?_
      refine lv_lrem hx hb dX2_blend_115 (by decide) ?_
      refine lv_nml ho (fun x6 ho => ?_)
      refine lv_lstore (lv' := [(6, .long x6), (0, .ref (gm 12)), (1, .int v1), (8, .int v8)]) hx hb dX2_blend_116 hl (by decide) rfl (fun ls hl => ?_)
      obtain ⟨x7, ex7, ho⟩ := nm_x ho
      refine lv_iinc (v := x7) (lv' := [(8, .int x7), (6, .long x6), (0, .ref (gm 12)), (1, .int v1)]) hx hb dX2_blend_118 hl (k := 3) rfl (by rw [ex7]; rfl) (by decide) rfl (fun ls hl => ?_)
      clear ex7
      refine lv_goto (tgt := 77) hx hb dX2_blend_121 (by decide) ?_
      cases ho
      exact ih _ _ _ hrun _ _ _ hW (lv_sub hl [2, 3, 1, 0] rfl)
set_option maxHeartbeats 4000000 in
set_option maxRecDepth 100000 in
theorem x2_blend_12_L6 {p : Program} {l : Launch} {e : Env} {s : State} {m : MethodId} {args : Array Value} {below : List Frame} {meth : Method} {c : Code} {Q : State → Prop} {D : va_G} {cI cJ cZ cR : ClassId} {am gm : Nat → Nat} {st : Nat} {A : Nat → Prop} (C0 : cxX p s m args meth c cX2_blend RX2 9 none D (tyX cI cJ cZ cR) st A) {v1 : Int32} {v2 : Int32} {v3 : Int32} {v4 : Int32} {v5 : Int32} {y : Int64 × St} (hK0 : ∀ (H : Heap) (locs : List Loc) (ls : Array Slot), wl D A s (wX cI cJ cZ cR am gm y.2) H locs → lv_has ls 9 [(0, .ref (gm 12)), (1, .int v1), (5, .int v5), (6, .long y.1)] → W p l e (rmN 0 0) s m args below meth c H locs 0 0 Q (F0 m 71 ls [])) :
    ∀ (n : Nat) (v6 : Int64) (v8 : Int32) (t : St), lpn (fun x => x2_blend_12_B6 v1 v2 v3 v4 v5 x.1 x.2.1 x.2.2) n (v6, v8, t) = some y → ∀ (H : Heap) (locs : List Loc) (ls : Array Slot), wl D A s (wX cI cJ cZ cR am gm t) H locs → lv_has ls 9 [(0, .ref (gm 12)), (1, .int v1), (2, .int v2), (3, .int v3), (4, .int v4), (5, .int v5), (6, .long v6), (8, .int v8)] → W p l e (rmN 0 0) s m args below meth c H locs 0 0 Q (F0 m 6 ls []) := by
  have hx := C0.1.1
  have hb := C0.1.2.1
  have hta := C0.1.2.2.2.2.2.1
  have hown := C0.1.2.2.2.2.1
  intro n
  induction n with
  | zero => intro _ _ _ h; cases h
  | succ n ih =>
    intro v6 v8 t hrun H locs ls hW hl
    obtain ⟨o, ho, hrun⟩ := bd_some hrun
    unfold x2_blend_12_B6 at ho
    refine lv_iload hx hb dX2_blend_6 (lv_at hl 7 rfl) ?_
    refine lv_iload hx hb dX2_blend_8 (lv_at hl 5 rfl) ?_
    refine lv_icmp_ge (tgt := 71) hx hb dX2_blend_10 (by decide) (fun c8 => ?_) (fun c8 => ?_)
    · replace ho := ite_t c8 ho
      cases ho
      cases hrun
      exact hK0 _ _ _ hW (lv_sub hl [0, 1, 5, 6] rfl)
    · replace ho := ite_f c8 ho
      refine lv_lload hx hb dX2_blend_13 (lv_at hl 6 rfl) ?_
      refine lv_iload hx hb dX2_blend_15 (lv_at hl 4 rfl) ?_
      refine lv_i2l hx hb dX2_blend_17 rfl ?_
      refine lv_aload_n hx hb dX2_blend_18 rfl (lv_at hl 0 rfl) ?_
      refine lv_iload_n hx hb dX2_blend_19 rfl (lv_at hl 2 rfl) ?_
      refine lv_iload hx hb dX2_blend_20 (lv_at hl 7 rfl) ?_
      refine lv_iadd hx hb dX2_blend_22 ?_
      obtain ⟨g9, ho⟩ := gd_some ho
      refine xLD_12 C0 hW g9 dX2_blend_23 ?_
      refine lv_i2l hx hb dX2_blend_24 rfl ?_
      refine lv_lmul hx hb dX2_blend_25 ?_
      refine lv_sipush (v := (1000 : Int32)) hx hb dX2_blend_26 (by decide) ?_
      refine lv_iload hx hb dX2_blend_29 (lv_at hl 4 rfl) ?_
      refine lv_isub hx hb dX2_blend_31 ?_
      refine lv_i2l hx hb dX2_blend_32 rfl ?_
      refine lv_aload_n hx hb dX2_blend_33 rfl (lv_at hl 0 rfl) ?_
      refine lv_iload_n hx hb dX2_blend_34 rfl (lv_at hl 3 rfl) ?_
      refine lv_iload hx hb dX2_blend_35 (lv_at hl 7 rfl) ?_
      refine lv_iadd hx hb dX2_blend_37 ?_
      obtain ⟨g10, ho⟩ := gd_some ho
      refine xLD_12 C0 hW g10 dX2_blend_38 ?_
      refine lv_i2l hx hb dX2_blend_39 rfl ?_
      refine lv_lmul hx hb dX2_blend_40 ?_
      refine lv_ladd hx hb dX2_blend_41 ?_
      refine lv_ladd hx hb dX2_blend_42 ?_
      refine lv_nml ho (fun x11 ho => ?_)
      refine lv_lstore (lv' := [(6, .long x11), (0, .ref (gm 12)), (1, .int v1), (2, .int v2), (3, .int v3), (4, .int v4), (5, .int v5), (8, .int v8)]) hx hb dX2_blend_43 hl (by decide) rfl (fun ls hl => ?_)
      refine lv_aload_n hx hb dX2_blend_45 rfl (lv_at hl 1 rfl) ?_
      refine lv_iload_n hx hb dX2_blend_46 rfl (lv_at hl 2 rfl) ?_
      refine lv_iload hx hb dX2_blend_47 (lv_at hl 7 rfl) ?_
      refine lv_iadd hx hb dX2_blend_49 ?_
      refine lv_lload hx hb dX2_blend_50 (lv_at hl 0 rfl) ?_
      refine lv_ldc2 hx hb hown (hta _ kw_996) dX2_blend_52 ?_
      refine lv_land hx hb dX2_blend_55 ?_
      refine lv_l2i hx hb dX2_blend_56 rfl ?_
      obtain ⟨g12, ho⟩ := gd_some ho
      refine xST_12 C0 hW g12 dX2_blend_57 (fun H locs hW => ?_)
      obtain ⟨t13, ho, hW⟩ := nm_w (P := fun t => wl D A s (wX cI cJ cZ cR am gm t) H locs) ho hW
      refine lv_lload hx hb dX2_blend_58 (lv_at hl 0 rfl) ?_
      refine lv_bipush (v := (30 : Int32)) hx hb dX2_blend_60 (by decide) ?_
      refine lv_lshr hx hb dX2_blend_62 rfl ?_
      refine lv_nml ho (fun x14 ho => ?_)
      refine lv_lstore (lv' := [(6, .long x14), (0, .ref (gm 12)), (1, .int v1), (2, .int v2), (3, .int v3), (4, .int v4), (5, .int v5), (8, .int v8)]) hx hb dX2_blend_63 hl (by decide) rfl (fun ls hl => ?_)
      obtain ⟨x15, ex15, ho⟩ := nm_x ho
      refine lv_iinc (v := x15) (lv' := [(8, .int x15), (6, .long x14), (0, .ref (gm 12)), (1, .int v1), (2, .int v2), (3, .int v3), (4, .int v4), (5, .int v5)]) hx hb dX2_blend_65 hl (k := 7) rfl (by rw [ex15]; rfl) (by decide) rfl (fun ls hl => ?_)
      clear ex15
      refine lv_goto (tgt := 6) hx hb dX2_blend_68 (by decide) ?_
      cases ho
      exact ih _ _ _ hrun _ _ _ hW (lv_sub hl [2, 3, 4, 5, 6, 7, 1, 0] rfl)
set_option maxHeartbeats 4000000 in
set_option maxRecDepth 100000 in
theorem c_x2_blend_12 (l : Launch) {D : va_G} {cI cJ cZ cR : ClassId} {am gm : Nat → Nat} {st : Nat} (sz : Nat) (t : St) (a1 : Int32) (a2 : Int32) (a3 : Int32) (a4 : Int32) (a5 : Int32) {t' : St} (ho : x2_blend_12 t a1 a2 a3 a4 a5 = some t') : Met l yX2_blend (.code yX2_blend cX2_blend 9 none :: wsAll) (rmN 0 0) (va_Pc [.ref (gm 12), .int a1, .int a2, .int a3, .int a4, .int a5] (prX D (tyX cI cJ cZ cR) (wX cI cJ cZ cR am gm t) sz st)) (qV D (tyX cI cJ cZ cR) (wX cI cJ cZ cR am gm t') (va_A (wX cI cJ cZ cR am gm t) sz)) 0 0 (va_A (wX cI cJ cZ cR am gm t) sz) := by
  refine Met.ofW (cc := cX2_blend) (maxL := 9) (ret := none) (by decide) rfl ?_
  intro p e s m args below meth c s₁ B hml hv
  obtain ⟨rfl, ⟨hsz, hP, hK, hD0⟩, hsx⟩ := hv
  have hx := B.exec
  have hb := B.bytes
  have hts := atoms_spec (ws := (.code yX2_blend cX2_blend 9 none :: wsAll)) B.pre
  have hta := fun w h => hts w (List.mem_cons_of_mem _ h)
  have hown : s.vm.findClass RX2 = some m.cls := findClass_of_methodNamed B.named
  have hlocks := B.notSynchronized
  subst hsz
  have hD := hD0.self (sz := s.heap.size)
  generalize hAe : va_A (wX cI cJ cZ cR am gm t) s.heap.size = A at hD ⊢
  have hA : ∀ q : Nat, s.heap.size ≤ q → A q := fun q h => by rw [← hAe]; exact Or.inr h
  have C0 : cxX p s m ([.ref (gm 12), .int a1, .int a2, .int a3, .int a4, .int a5].toArray) meth c cX2_blend RX2 9 none D (tyX cI cJ cZ cR) st A := ⟨⟨hx, hb, B.returns, hml, hown, hta, hlocks, hK, hA⟩, by rw [← hAe]; exact hsx⟩
  have hW : wl D A s (wX cI cJ cZ cR am gm t) s.heap [] := ⟨hP, hD, va_S.rf⟩
  have hl := lv_entry [.ref (gm 12), .int a1, .int a2, .int a3, .int a4, .int a5] (n := 9) (Nat.le_of_ble_eq_true rfl)
  rw [lg_entry_eq]
  generalize (lg_sl [.ref (gm 12), .int a1, .int a2, .int a3, .int a4, .int a5] ++ List.replicate (9 - (lg_sl [.ref (gm 12), .int a1, .int a2, .int a3, .int a4, .int a5]).length) Slot.unset).toArray = ls at hl ⊢
  have hl : lv_has ls 9 [(0, .ref (gm 12)), (1, .int a1), (2, .int a2), (3, .int a3), (4, .int a4), (5, .int a5)] := hl
  unfold x2_blend_12 at ho
  refine lv_lconst (v := (0 : Int64)) hx hb dX2_blend_0 (by decide) ?_
  refine lv_lstore (lv' := [(6, .long (0 : Int64)), (0, .ref (gm 12)), (1, .int a1), (2, .int a2), (3, .int a3), (4, .int a4), (5, .int a5)]) hx hb dX2_blend_1 hl (by decide) rfl (fun ls hl => ?_)
  refine lv_iconst (v := (0 : Int32)) hx hb dX2_blend_3 (by decide) ?_
  refine lv_istore (lv' := [(8, .int (0 : Int32)), (6, .long (0 : Int64)), (0, .ref (gm 12)), (1, .int a1), (2, .int a2), (3, .int a3), (4, .int a4), (5, .int a5)]) hx hb dX2_blend_4 hl (by decide) rfl (fun ls hl => ?_)
  obtain ⟨y16, hc18, ho⟩ := bd_some ho
  obtain ⟨ny16, hc18⟩ := lp_to hc18
  refine x2_blend_12_L6 C0 ?_ ny16 _ _ _ hc18 _ _ _ hW (lv_sub hl [2, 3, 4, 5, 6, 7, 1, 0] rfl)
  intro H locs ls hW hl
  refine lv_iload hx hb dX2_blend_71 (lv_at hl 2 rfl) ?_
  refine lv_iconst (v := (1 : Int32)) hx hb dX2_blend_73 (by decide) ?_
  refine lv_isub hx hb dX2_blend_74 ?_
  refine lv_nmi ho (fun x19 ho => ?_)
  refine lv_istore (lv' := [(8, .int x19), (0, .ref (gm 12)), (1, .int a1), (5, .int a5), (6, .long y16.1)]) hx hb dX2_blend_75 hl (by decide) rfl (fun ls hl => ?_)
  obtain ⟨y20, hc22, ho⟩ := bd_some ho
  obtain ⟨ny20, hc22⟩ := lp_to hc22
  refine x2_blend_12_L77 C0 ?_ ny20 _ _ _ hc22 _ _ _ hW (lv_sub hl [1, 2, 4, 0] rfl)
  intro H locs ls hW hl
  cases ho
  exact rtV C0.1 hW dX2_blend_124
noncomputable def x0_work_B56 (v1 : Int32) (t : St) : Option ((Int32 × St) ⊕ (St)) :=
  if (gI t 3) ≤ v1 then (some (.inr t)) else (gd v1 (gN t 11) (gd v1 (gN t 10) (gd v1 (gN t 9) (gd (gA t 9 (v1).toNatClampNeg) (gN t 14) ((x2_blend_12 t (v1 * (gI t 6)) ((gA t 11 (v1).toNatClampNeg) * (gI t 6)) ((gA t 10 (v1).toNatClampNeg) * (gI t 6)) (gA t 14 ((gA t 9 (v1).toNatClampNeg)).toNatClampNeg) (gI t 6)).bind (fun q6 => nm (v1 + (1 : Int32)) (fun x8 : Int32 => some (.inl (x8, q6)))))))))
theorem mm_x0_work_B56 (v1 : Int32) (t : St) : MR (x0_work_B56 v1 t) t (Sum.elim (fun (x : Int32 × St) => x.2) (fun (y : St) => y)) := by
  unfold x0_work_B56
  exact MR_ite (MR_some mle.rfl) (MR_gd (MR_gd (MR_gd (MR_gd (MR_bind (mm_x2_blend_12 t (v1 * (gI t 6)) ((gA t 11 (v1).toNatClampNeg) * (gI t 6)) ((gA t 10 (v1).toNatClampNeg) * (gI t 6)) (gA t 14 ((gA t 9 (v1).toNatClampNeg)).toNatClampNeg) (gI t 6)) (fun q6 hq6 => MR_nm (fun x8 _ => MR_some hq6)))))))
theorem mm_x0_work_L56 (v1 : Int32) (t : St) : MR (lp (fun x => x0_work_B56 x.1 x.2) (v1, t)) t (fun (y : St) => y) := MR_lp (p := (fun (x : Int32 × St) => x.2)) (q := (fun (y : St) => y)) (fun x => mm_x0_work_B56 x.1 x.2) (v1, t)
noncomputable def x0_work_J20 (t : St) : Option (Int32 × St) :=
  (x2_wipe_12 t (0 : Int32) (gI t 6)).bind (fun q9 => (x2_putPower_12 q9 (gI q9 6) (gI q9 6) (gI q9 803)).bind (fun q11 => (lp (fun x => x0_work_B56 x.1 x.2) ((2 : Int32), q11)).bind (fun y13 => some (((gI y13 4) * (gI y13 6)), y13))))
theorem mm_x0_work_J20 (t : St) : MR (x0_work_J20 t) t (fun (a : Int32 × St) => a.2) := by
  unfold x0_work_J20
  exact MR_bind (mm_x2_wipe_12 t (0 : Int32) (gI t 6)) (fun q9 hq9 => MR_bind (mm_x2_putPower_12 q9 (gI q9 6) (gI q9 6) (gI q9 803)) (fun q11 hq11 => MR_bind (mm_x0_work_L56 (2 : Int32) q11) (fun y13 hm14 => MR_some (mle.trans (mle.trans hq9 hq11) hm14))))
noncomputable def x0_work (t0 : St) : Option (Int32 × St) :=
  grw t0 12 ((gI t0 3) * (gI t0 6)) (fun t16 : St => x0_work_J20 t16)
theorem mm_x0_work (t0 : St) : MR (x0_work t0) t0 (fun (a : Int32 × St) => a.2) := by
  unfold x0_work
  exact MR_grw (fun t16 ht16 => MR_wk ht16 (mm_x0_work_J20 t16))
set_option maxHeartbeats 4000000 in
set_option maxRecDepth 100000 in
theorem x0_work_L56 {p : Program} {l : Launch} {e : Env} {s : State} {m : MethodId} {args : Array Value} {below : List Frame} {meth : Method} {c : Code} {Q : State → Prop} {D : va_G} {cI cJ cZ cR : ClassId} {am gm : Nat → Nat} {st : Nat} {A : Nat → Prop} (C0 : cxX p s m args meth c cX0_work RX0 2 (some .int) D (tyX cI cJ cZ cR) st A) {t0 t' : St} {cells slots : Nat} (hR : cells ≤ mC t0 t' ∧ slots ≤ mS t0 t') {y : St} (hK0 : ∀ (H : Heap) (locs : List Loc) (ls : Array Slot), wl D A s (wX cI cJ cZ cR am gm y) H locs → lv_has ls 2 [(0, .ref (am 2000))] → W p l e (rmA 2 50 t0 t') s m args below meth c H locs cells slots Q (F0 m 120 ls [])) :
    ∀ (n : Nat) (v1 : Int32) (t : St), lpn (fun x => x0_work_B56 x.1 x.2) n (v1, t) = some y → ∀ (H : Heap) (locs : List Loc) (ls : Array Slot), wl D A s (wX cI cJ cZ cR am gm t) H locs → lv_has ls 2 [(0, .ref (am 2000)), (1, .int v1)] → W p l e (rmA 2 50 t0 t') s m args below meth c H locs cells slots Q (F0 m 56 ls []) := by
  have hx := C0.1.1
  have hb := C0.1.2.1
  have hta := C0.1.2.2.2.2.2.1
  have hown := C0.1.2.2.2.2.1
  intro n
  induction n with
  | zero => intro _ _ h; cases h
  | succ n ih =>
    intro v1 t hrun H locs ls hW hl
    obtain ⟨o, ho, hrun⟩ := bd_some hrun
    unfold x0_work_B56 at ho
    refine lv_iload_n hx hb dX0_work_56 rfl (lv_at hl 1 rfl) ?_
    refine lv_aload_n hx hb dX0_work_57 rfl (lv_at hl 0 rfl) ?_
    refine xGET_3 C0 kw_385 hW dX0_work_58 ?_
    refine lv_icmp_ge (tgt := 120) hx hb dX0_work_61 (by decide) (fun c1 => ?_) (fun c1 => ?_)
    · replace ho := ite_t c1 ho
      cases ho
      cases hrun
      exact hK0 _ _ _ hW (lv_sub hl [0] rfl)
    · replace ho := ite_f c1 ho
      refine lv_aload_n hx hb dX0_work_64 rfl (lv_at hl 0 rfl) ?_
      refine xGET_12 C0 kw_396 hW dX0_work_65 ?_
      refine lv_iload_n hx hb dX0_work_68 rfl (lv_at hl 1 rfl) ?_
      refine lv_aload_n hx hb dX0_work_69 rfl (lv_at hl 0 rfl) ?_
      refine xGET_6 C0 kw_388 hW dX0_work_70 ?_
      refine lv_imul hx hb dX0_work_73 ?_
      refine lv_aload_n hx hb dX0_work_74 rfl (lv_at hl 0 rfl) ?_
      refine xGET_11 C0 kw_395 hW dX0_work_75 ?_
      refine lv_iload_n hx hb dX0_work_78 rfl (lv_at hl 1 rfl) ?_
      obtain ⟨g2, ho⟩ := gd_some ho
      refine xLD_11 C0 hW g2 dX0_work_79 ?_
      refine lv_aload_n hx hb dX0_work_80 rfl (lv_at hl 0 rfl) ?_
      refine xGET_6 C0 kw_388 hW dX0_work_81 ?_
      refine lv_imul hx hb dX0_work_84 ?_
      refine lv_aload_n hx hb dX0_work_85 rfl (lv_at hl 0 rfl) ?_
      refine xGET_10 C0 kw_394 hW dX0_work_86 ?_
      refine lv_iload_n hx hb dX0_work_89 rfl (lv_at hl 1 rfl) ?_
      obtain ⟨g3, ho⟩ := gd_some ho
      refine xLD_10 C0 hW g3 dX0_work_90 ?_
      refine lv_aload_n hx hb dX0_work_91 rfl (lv_at hl 0 rfl) ?_
      refine xGET_6 C0 kw_388 hW dX0_work_92 ?_
      refine lv_imul hx hb dX0_work_95 ?_
      refine lv_aload_n hx hb dX0_work_96 rfl (lv_at hl 0 rfl) ?_
      refine xGET_14 C0 kw_401 hW dX0_work_97 ?_
      refine lv_aload_n hx hb dX0_work_100 rfl (lv_at hl 0 rfl) ?_
      refine xGET_9 C0 kw_393 hW dX0_work_101 ?_
      refine lv_iload_n hx hb dX0_work_104 rfl (lv_at hl 1 rfl) ?_
      obtain ⟨g4, ho⟩ := gd_some ho
      refine xLD_9 C0 hW g4 dX0_work_105 ?_
      obtain ⟨g5, ho⟩ := gd_some ho
      refine xLD_14 C0 hW g5 dX0_work_106 ?_
      refine lv_aload_n hx hb dX0_work_107 rfl (lv_at hl 0 rfl) ?_
      refine xGET_6 C0 kw_388 hW dX0_work_108 ?_
      obtain ⟨q6, hc7, ho⟩ := bd_some ho
      have hq6 := mm_x2_blend_12 t (v1 * (gI t 6)) ((gA t 11 (v1).toNatClampNeg) * (gI t 6)) ((gA t 10 (v1).toNatClampNeg) * (gI t 6)) (gA t 14 ((gA t 9 (v1).toNatClampNeg)).toNatClampNeg) (gI t 6) _ hc7
      refine bkV C0.1 hW (runSX (As := [.ref (gm 12), .int (v1 * (gI t 6)), .int ((gA t 11 (v1).toNatClampNeg) * (gI t 6)), .int ((gA t 10 (v1).toNatClampNeg) * (gI t 6)), .int (gA t 14 ((gA t 9 (v1).toNatClampNeg)).toNatClampNeg), .int (gI t 6)]) (rest := []) C0 hW (c_x2_blend_12 l _ t (v1 * (gI t 6)) ((gA t 11 (v1).toNatClampNeg) * (gI t 6)) ((gA t 10 (v1).toNatClampNeg) * (gI t 6)) (gA t 14 ((gA t 9 (v1).toNatClampNeg)).toNatClampNeg) (gI t 6) (t' := q6) hc7) cb_X0_X2_blend_116 rfl rfl ⟨rfl, rfl⟩ ⟨Nat.le_of_ble_eq_true rfl, Nat.le_of_ble_eq_true rfl⟩ (Nat.le_of_ble_eq_true rfl) hl.1 dX0_work_111 ⟨hR.1, hR.2⟩) (fun H locs hW => ?_)
      obtain ⟨x8, ex8, ho⟩ := nm_x ho
      refine lv_iinc (v := x8) (lv' := [(1, .int x8), (0, .ref (am 2000))]) hx hb dX0_work_114 hl (k := 1) rfl (by rw [ex8]; rfl) (by decide) rfl (fun ls hl => ?_)
      clear ex8
      refine lv_goto (tgt := 56) hx hb dX0_work_117 (by decide) ?_
      cases ho
      exact ih _ _ hrun _ _ _ hW (lv_sub hl [1, 0] rfl)
set_option maxHeartbeats 4000000 in
set_option maxRecDepth 100000 in
theorem c_x0_work (l : Launch) {D : va_G} {cI cJ cZ cR : ClassId} {am gm : Nat → Nat} {st : Nat} (sz : Nat) (t0 : St) {r : Int32} {t' : St} (ho : x0_work t0 = some (r, t')) : Met l yX0_work (.code yX0_work cX0_work 2 (some .int) :: wsAll) (rmA 2 50 t0 t') (va_Pc [.ref (am 2000)] (prX D (tyX cI cJ cZ cR) (wX cI cJ cZ cR am gm t0) sz st)) (qIa r D (tyX cI cJ cZ cR) (fun gm => wX cI cJ cZ cR am gm t') (va_A (wX cI cJ cZ cR am gm t0) sz)) (mC t0 t') (mS t0 t') (va_A (wX cI cJ cZ cR am gm t0) sz) := by
  refine Met.ofW (cc := cX0_work) (maxL := 2) (ret := (some .int)) (by decide) rfl ?_
  intro p e s m args below meth c s₁ B hml hv
  obtain ⟨rfl, ⟨hsz, hP, hK, hD0⟩, hsx⟩ := hv
  have hx := B.exec
  have hb := B.bytes
  have hts := atoms_spec (ws := (.code yX0_work cX0_work 2 (some .int) :: wsAll)) B.pre
  have hta := fun w h => hts w (List.mem_cons_of_mem _ h)
  have hown : s.vm.findClass RX0 = some m.cls := findClass_of_methodNamed B.named
  have hlocks := B.notSynchronized
  subst hsz
  have hD := hD0.self (sz := s.heap.size)
  generalize hAe : va_A (wX cI cJ cZ cR am gm t0) s.heap.size = A at hD ⊢
  have hA : ∀ q : Nat, s.heap.size ≤ q → A q := fun q h => by rw [← hAe]; exact Or.inr h
  have C0 : cxX p s m ([.ref (am 2000)].toArray) meth c cX0_work RX0 2 (some .int) D (tyX cI cJ cZ cR) st A := ⟨⟨hx, hb, B.returns, hml, hown, hta, hlocks, hK, hA⟩, by rw [← hAe]; exact hsx⟩
  have hW : wl D A s (wX cI cJ cZ cR am gm t0) s.heap [] := ⟨hP, hD, va_S.rf⟩
  have hl := lv_entry [.ref (am 2000)] (n := 2) (Nat.le_of_ble_eq_true rfl)
  rw [lg_entry_eq]
  generalize (lg_sl [.ref (am 2000)] ++ List.replicate (2 - (lg_sl [.ref (am 2000)]).length) Slot.unset).toArray = ls at hl ⊢
  have hl : lv_has ls 2 [(0, .ref (am 2000))] := hl
  clear hAe hD hP hD0 hts
  have J20 : ∀ (gm : Nat → Nat) (t : St) (_ : x0_work_J20 t = some (r, t')) (_ : mle t0 t) (H : Heap) (locs : List Loc) (ls : Array Slot), wl D A s (wX cI cJ cZ cR am gm t) H locs → lv_has ls 2 [(0, .ref (am 2000))] → W p l e (rmA 2 50 t0 t') s m ([.ref (am 2000)].toArray) below meth c H locs (mC t0 t) (mS t0 t) (MQ below (qIa r D (tyX cI cJ cZ cR) (fun gm => wX cI cJ cZ cR am gm t') A) ([.ref (am 2000)].toArray) s (mC t0 t') (mS t0 t') A) (F0 m 20 ls []) := by
    intro gm t ho h0 H locs ls hW hl
    have hE : mle t t' := (mm_x0_work_J20 _ _ ho)
    have hR := hR_of (t0 := t0) hE
    unfold x0_work_J20 at ho
    refine lv_aload_n hx hb dX0_work_20 rfl (lv_at hl 0 rfl) ?_
    refine xGET_12 C0 kw_396 hW dX0_work_21 ?_
    refine lv_iconst (v := (0 : Int32)) hx hb dX0_work_24 (by decide) ?_
    refine lv_aload_n hx hb dX0_work_25 rfl (lv_at hl 0 rfl) ?_
    refine xGET_6 C0 kw_388 hW dX0_work_26 ?_
    obtain ⟨q9, hc10, ho⟩ := bd_some ho
    have hq9 := mm_x2_wipe_12 t (0 : Int32) (gI t 6) _ hc10
    refine bkV C0.1 hW (runSX (As := [.ref (gm 12), .int (0 : Int32), .int (gI t 6)]) (rest := []) C0 hW (c_x2_wipe_12 l _ t (0 : Int32) (gI t 6) (t' := q9) hc10) cb_X0_X2_wipe_92 rfl rfl ⟨rfl, rfl⟩ ⟨Nat.le_of_ble_eq_true rfl, Nat.le_of_ble_eq_true rfl⟩ (Nat.le_of_ble_eq_true rfl) hl.1 dX0_work_29 ⟨hR.1, hR.2⟩) (fun H locs hW => ?_)
    refine lv_aload_n hx hb dX0_work_32 rfl (lv_at hl 0 rfl) ?_
    refine xGET_12 C0 kw_396 hW dX0_work_33 ?_
    refine lv_aload_n hx hb dX0_work_36 rfl (lv_at hl 0 rfl) ?_
    refine xGET_6 C0 kw_388 hW dX0_work_37 ?_
    refine lv_aload_n hx hb dX0_work_40 rfl (lv_at hl 0 rfl) ?_
    refine xGET_6 C0 kw_388 hW dX0_work_41 ?_
    refine lv_aload_n hx hb dX0_work_44 rfl (lv_at hl 0 rfl) ?_
    refine xGET_1 C0 kw_383 hW dX0_work_45 ?_
    refine xGET_803 C0 kw_275 hW dX0_work_48 ?_
    obtain ⟨q11, hc12, ho⟩ := bd_some ho
    have hq11 := mm_x2_putPower_12 q9 (gI q9 6) (gI q9 6) (gI q9 803) _ hc12
    refine bkV C0.1 hW (runSX (As := [.ref (gm 12), .int (gI q9 6), .int (gI q9 6), .int (gI q9 803)]) (rest := []) C0 hW (c_x2_putPower_12 l _ q9 (gI q9 6) (gI q9 6) (gI q9 803) (t' := q11) hc12) cb_X0_X2_putPower_112 rfl rfl ⟨rfl, rfl⟩ ⟨Nat.le_of_ble_eq_true rfl, Nat.le_of_ble_eq_true rfl⟩ (Nat.le_of_ble_eq_true rfl) hl.1 dX0_work_51 ⟨hR.1, hR.2⟩) (fun H locs hW => ?_)
    refine lv_iconst (v := (2 : Int32)) hx hb dX0_work_54 (by decide) ?_
    refine lv_istore_n (lv' := [(1, .int (2 : Int32)), (0, .ref (am 2000))]) hx hb dX0_work_55 rfl hl (by decide) rfl (fun ls hl => ?_)
    obtain ⟨y13, hc15, ho⟩ := bd_some ho
    have hm14 := mm_x0_work_L56 (2 : Int32) q11 _ hc15
    obtain ⟨ny13, hc15⟩ := lp_to hc15
    refine x0_work_L56 C0 hR ?_ ny13 _ _ hc15 _ _ _ hW (lv_sub hl [1, 0] rfl)
    intro H locs ls hW hl
    refine lv_aload_n hx hb dX0_work_120 rfl (lv_at hl 0 rfl) ?_
    refine xGET_4 C0 kw_386 hW dX0_work_121 ?_
    refine lv_aload_n hx hb dX0_work_124 rfl (lv_at hl 0 rfl) ?_
    refine xGET_6 C0 kw_388 hW dX0_work_125 ?_
    refine lv_imul hx hb dX0_work_128 ?_
    refine W_up h0 (mle.trans (mle.trans hq9 hq11) hm14) ?_
    cases ho
    exact rtIa gm C0.1 hW dX0_work_129
  have hE : mle t0 t' := mm_x0_work _ _ ho
  have hR := hR_of (t0 := t0) hE
  have h0 : mle t0 t0 := mle.rfl
  refine W_0 (t0 := t0) ?_
  unfold x0_work at ho
  refine lv_aload_n hx hb dX0_work_0 rfl (lv_at hl 0 rfl) ?_
  refine lv_aload_n hx hb dX0_work_1 rfl (lv_at hl 0 rfl) ?_
  refine xGET_12 C0 kw_396 hW dX0_work_2 ?_
  refine lv_aload_n hx hb dX0_work_5 rfl (lv_at hl 0 rfl) ?_
  refine xGET_3 C0 kw_385 hW dX0_work_6 ?_
  refine lv_aload_n hx hb dX0_work_9 rfl (lv_at hl 0 rfl) ?_
  refine xGET_6 C0 kw_388 hW dX0_work_10 ?_
  refine lv_imul hx hb dX0_work_13 ?_
  obtain ⟨t16, g17, ho⟩ := grw_some ho
  have ht16 := g17.mle
  have hEt16 := (mm_x0_work_J20 _ _ ho)
  refine xGROW_12 (rest := []) C0 cb_X0_X2_grown_88 kw_396 hl.1 hW g17 h0 hEt16 (Nat.le_of_ble_eq_true rfl) (Nat.le_of_ble_eq_true rfl) (Nat.le_of_ble_eq_true rfl) dX0_work_14 dX0_work_17 (fun gm H locs hW => ?_)
  have h0 := mle.trans h0 ht16
  exact J20 gm _ ho h0 _ _ _ hW (lv_sub hl [0] rfl)
noncomputable def j7_fill_53178_200_B5 (v1 : Int32) (v3 : Int32) (v2 : Int32) (t : St) : Option ((Int32 × St) ⊕ (St)) :=
  if v3 ≤ v2 then (some (.inr t)) else (gd v2 (gN t 200) (nm (sA t 200 v2 v1) (fun t3 : St => nm (v2 + (1 : Int32)) (fun x4 : Int32 => some (.inl (x4, t3))))))
theorem mm_j7_fill_53178_200_B5 (v1 : Int32) (v3 : Int32) (v2 : Int32) (t : St) : MR (j7_fill_53178_200_B5 v1 v3 v2 t) t (Sum.elim (fun (x : Int32 × St) => x.2) (fun (y : St) => y)) := by
  unfold j7_fill_53178_200_B5
  exact MR_ite (MR_some mle.rfl) (MR_gd (MR_nmS mle_sA (fun t3 ht3 => MR_nm (fun x4 _ => MR_some ht3))))
theorem mm_j7_fill_53178_200_L5 (v1 : Int32) (v3 : Int32) (v2 : Int32) (t : St) : MR (lp (fun x => j7_fill_53178_200_B5 v1 v3 x.1 x.2) (v2, t)) t (fun (y : St) => y) := MR_lp (p := (fun (x : Int32 × St) => x.2)) (q := (fun (y : St) => y)) (fun x => mm_j7_fill_53178_200_B5 v1 v3 x.1 x.2) (v2, t)
noncomputable def j7_fill_53178_200 (t : St) (a1 : Int32) : Option (St) :=
  nm (Int32.ofNat (gN t 200)) (fun x5 : Int32 => (lp (fun x => j7_fill_53178_200_B5 a1 x5 x.1 x.2) ((0 : Int32), t)).bind (fun y6 => some y6))
theorem mm_j7_fill_53178_200 (t : St) (a1 : Int32) : MR (j7_fill_53178_200 t a1) t (fun (a : St) => a) := by
  unfold j7_fill_53178_200
  exact MR_nm (fun x5 _ => MR_bind (mm_j7_fill_53178_200_L5 a1 x5 (0 : Int32) t) (fun y6 hm7 => MR_some hm7))
set_option maxHeartbeats 4000000 in
set_option maxRecDepth 100000 in
theorem j7_fill_53178_200_L5 {p : Program} {l : Launch} {e : Env} {s : State} {m : MethodId} {args : Array Value} {below : List Frame} {meth : Method} {c : Code} {Q : State → Prop} {D : va_G} {cI cJ cZ cR : ClassId} {am gm : Nat → Nat} {st : Nat} {A : Nat → Prop} (C0 : cxX p s m args meth c cJ7_fill_53178 RJ7 4 none D (tyX cI cJ cZ cR) st A) {v1 : Int32} {v3 : Int32} {y : St} (hK0 : ∀ (H : Heap) (locs : List Loc) (ls : Array Slot), wl D A s (wX cI cJ cZ cR am gm y) H locs → lv_has ls 4 [] → W p l e (rmN 0 0) s m args below meth c H locs 0 0 Q (F0 m 20 ls [])) :
    ∀ (n : Nat) (v2 : Int32) (t : St), lpn (fun x => j7_fill_53178_200_B5 v1 v3 x.1 x.2) n (v2, t) = some y → ∀ (H : Heap) (locs : List Loc) (ls : Array Slot), wl D A s (wX cI cJ cZ cR am gm t) H locs → lv_has ls 4 [(0, .ref (am 200)), (1, .int v1), (2, .int v2), (3, .int v3)] → W p l e (rmN 0 0) s m args below meth c H locs 0 0 Q (F0 m 5 ls []) := by
  have hx := C0.1.1
  have hb := C0.1.2.1
  have hta := C0.1.2.2.2.2.2.1
  have hown := C0.1.2.2.2.2.1
  intro n
  induction n with
  | zero => intro _ _ h; cases h
  | succ n ih =>
    intro v2 t hrun H locs ls hW hl
    obtain ⟨o, ho, hrun⟩ := bd_some hrun
    unfold j7_fill_53178_200_B5 at ho
    refine lv_iload_n hx hb dJ7_fill_53178_5 rfl (lv_at hl 2 rfl) ?_
    refine lv_iload_n hx hb dJ7_fill_53178_6 rfl (lv_at hl 3 rfl) ?_
    refine lv_icmp_ge (tgt := 20) hx hb dJ7_fill_53178_7 (by decide) (fun c1 => ?_) (fun c1 => ?_)
    · replace ho := ite_t c1 ho
      cases ho
      cases hrun
      exact hK0 _ _ _ hW (lv_sub hl [] rfl)
    · replace ho := ite_f c1 ho
      refine lv_aload_n hx hb dJ7_fill_53178_10 rfl (lv_at hl 0 rfl) ?_
      refine lv_iload_n hx hb dJ7_fill_53178_11 rfl (lv_at hl 2 rfl) ?_
      refine lv_iload_n hx hb dJ7_fill_53178_12 rfl (lv_at hl 1 rfl) ?_
      obtain ⟨g2, ho⟩ := gd_some ho
      refine xST_200 C0 hW g2 dJ7_fill_53178_13 (fun H locs hW => ?_)
      obtain ⟨t3, ho, hW⟩ := nm_w (P := fun t => wl D A s (wX cI cJ cZ cR am gm t) H locs) ho hW
      obtain ⟨x4, ex4, ho⟩ := nm_x ho
      refine lv_iinc (v := x4) (lv' := [(2, .int x4), (0, .ref (am 200)), (1, .int v1), (3, .int v3)]) hx hb dJ7_fill_53178_14 hl (k := 2) rfl (by rw [ex4]; rfl) (by decide) rfl (fun ls hl => ?_)
      clear ex4
      refine lv_goto (tgt := 5) hx hb dJ7_fill_53178_17 (by decide) ?_
      cases ho
      exact ih _ _ hrun _ _ _ hW (lv_sub hl [1, 2, 0, 3] rfl)
set_option maxHeartbeats 4000000 in
set_option maxRecDepth 100000 in
theorem c_j7_fill_53178_200 (l : Launch) {D : va_G} {cI cJ cZ cR : ClassId} {am gm : Nat → Nat} {st : Nat} (sz : Nat) (t : St) (a1 : Int32) {t' : St} (ho : j7_fill_53178_200 t a1 = some t') : Met l yJ7_fill_53178 (.code yJ7_fill_53178 cJ7_fill_53178 4 none :: wsAll) (rmN 0 0) (va_Pc [.ref (am 200), .int a1] (prX D (tyX cI cJ cZ cR) (wX cI cJ cZ cR am gm t) sz st)) (qV D (tyX cI cJ cZ cR) (wX cI cJ cZ cR am gm t') (va_A (wX cI cJ cZ cR am gm t) sz)) 0 0 (va_A (wX cI cJ cZ cR am gm t) sz) := by
  refine Met.ofW (cc := cJ7_fill_53178) (maxL := 4) (ret := none) (by decide) rfl ?_
  intro p e s m args below meth c s₁ B hml hv
  obtain ⟨rfl, ⟨hsz, hP, hK, hD0⟩, hsx⟩ := hv
  have hx := B.exec
  have hb := B.bytes
  have hts := atoms_spec (ws := (.code yJ7_fill_53178 cJ7_fill_53178 4 none :: wsAll)) B.pre
  have hta := fun w h => hts w (List.mem_cons_of_mem _ h)
  have hown : s.vm.findClass RJ7 = some m.cls := findClass_of_methodNamed B.named
  have hlocks := B.notSynchronized
  subst hsz
  have hD := hD0.self (sz := s.heap.size)
  generalize hAe : va_A (wX cI cJ cZ cR am gm t) s.heap.size = A at hD ⊢
  have hA : ∀ q : Nat, s.heap.size ≤ q → A q := fun q h => by rw [← hAe]; exact Or.inr h
  have C0 : cxX p s m ([.ref (am 200), .int a1].toArray) meth c cJ7_fill_53178 RJ7 4 none D (tyX cI cJ cZ cR) st A := ⟨⟨hx, hb, B.returns, hml, hown, hta, hlocks, hK, hA⟩, by rw [← hAe]; exact hsx⟩
  have hW : wl D A s (wX cI cJ cZ cR am gm t) s.heap [] := ⟨hP, hD, va_S.rf⟩
  have hl := lv_entry [.ref (am 200), .int a1] (n := 4) (Nat.le_of_ble_eq_true rfl)
  rw [lg_entry_eq]
  generalize (lg_sl [.ref (am 200), .int a1] ++ List.replicate (4 - (lg_sl [.ref (am 200), .int a1]).length) Slot.unset).toArray = ls at hl ⊢
  have hl : lv_has ls 4 [(0, .ref (am 200)), (1, .int a1)] := hl
  unfold j7_fill_53178_200 at ho
  refine lv_iconst (v := (0 : Int32)) hx hb dJ7_fill_53178_0 (by decide) ?_
  refine lv_istore_n (lv' := [(2, .int (0 : Int32)), (0, .ref (am 200)), (1, .int a1)]) hx hb dJ7_fill_53178_1 rfl hl (by decide) rfl (fun ls hl => ?_)
  refine lv_aload_n hx hb dJ7_fill_53178_2 rfl (lv_at hl 1 rfl) ?_
  refine xLEN_200 C0 hW dJ7_fill_53178_3 ?_
  refine lv_nmi ho (fun x5 ho => ?_)
  refine lv_istore_n (lv' := [(3, .int x5), (2, .int (0 : Int32)), (0, .ref (am 200)), (1, .int a1)]) hx hb dJ7_fill_53178_4 rfl hl (by decide) rfl (fun ls hl => ?_)
  obtain ⟨y6, hc8, ho⟩ := bd_some ho
  obtain ⟨ny6, hc8⟩ := lp_to hc8
  refine j7_fill_53178_200_L5 C0 ?_ ny6 _ _ hc8 _ _ _ hW (lv_sub hl [2, 3, 1, 0] rfl)
  intro H locs ls hW hl
  cases ho
  exact rtV C0.1 hW dJ7_fill_53178_20
noncomputable def x2_isZeroRow_200_B2 (t : St) (v1 : Int32) : Option ((Int32) ⊕ ((Unit) ⊕ (Unit))) :=
  if (6 : Int32) ≤ v1 then (some (.inr (.inr ()))) else (gd v1 (gN t 200) (if (gA t 200 (v1).toNatClampNeg) = 0 then (nm (v1 + (1 : Int32)) (fun x4 : Int32 => some (.inl x4))) else (some (.inr (.inl ())))))
noncomputable def x2_isZeroRow_200 (t : St) : Option (Int32) :=
  (lp (fun x => x2_isZeroRow_200_B2 t x) (0 : Int32)).bind (fun y5 => (Sum.elim (fun u8 => some (0 : Int32)) (fun u8 => some (1 : Int32))) y5)
set_option maxHeartbeats 4000000 in
set_option maxRecDepth 100000 in
theorem x2_isZeroRow_200_L2 {p : Program} {l : Launch} {e : Env} {s : State} {m : MethodId} {args : Array Value} {below : List Frame} {meth : Method} {c : Code} {Q : State → Prop} {D : va_G} {cI cJ cZ cR : ClassId} {am gm : Nat → Nat} {st : Nat} {A : Nat → Prop} (C0 : cxX p s m args meth c cX2_isZeroRow RX2 2 (some .boolean) D (tyX cI cJ cZ cR) st A) {t : St} {y : (Unit) ⊕ (Unit)} (hK0 : ∀ u, y = (.inl u) → ∀ (H : Heap) (locs : List Loc) (ls : Array Slot), wl D A s (wX cI cJ cZ cR am gm t) H locs → lv_has ls 2 [] → W p l e (rmN 0 0) s m args below meth c H locs 0 0 Q (F0 m 14 ls [])) (hK1 : ∀ u, y = (.inr u) → ∀ (H : Heap) (locs : List Loc) (ls : Array Slot), wl D A s (wX cI cJ cZ cR am gm t) H locs → lv_has ls 2 [] → W p l e (rmN 0 0) s m args below meth c H locs 0 0 Q (F0 m 22 ls [])) :
    ∀ (n : Nat) (v1 : Int32), lpn (fun x => x2_isZeroRow_200_B2 t x) n v1 = some y → ∀ (H : Heap) (locs : List Loc) (ls : Array Slot), wl D A s (wX cI cJ cZ cR am gm t) H locs → lv_has ls 2 [(0, .ref (am 200)), (1, .int v1)] → W p l e (rmN 0 0) s m args below meth c H locs 0 0 Q (F0 m 2 ls []) := by
  have hx := C0.1.1
  have hb := C0.1.2.1
  have hta := C0.1.2.2.2.2.2.1
  have hown := C0.1.2.2.2.2.1
  intro n
  induction n with
  | zero => intro _ h; cases h
  | succ n ih =>
    intro v1 hrun H locs ls hW hl
    obtain ⟨o, ho, hrun⟩ := bd_some hrun
    unfold x2_isZeroRow_200_B2 at ho
    refine lv_iload_n hx hb dX2_isZeroRow_2 rfl (lv_at hl 1 rfl) ?_
    refine lv_bipush (v := (6 : Int32)) hx hb dX2_isZeroRow_3 (by decide) ?_
    refine lv_icmp_ge (tgt := 22) hx hb dX2_isZeroRow_5 (by decide) (fun c1 => ?_) (fun c1 => ?_)
    · replace ho := ite_t c1 ho
      cases ho
      cases hrun
      exact hK1 _ rfl _ _ _ hW (lv_sub hl [] rfl)
    · replace ho := ite_f c1 ho
      refine lv_aload_n hx hb dX2_isZeroRow_8 rfl (lv_at hl 0 rfl) ?_
      refine lv_iload_n hx hb dX2_isZeroRow_9 rfl (lv_at hl 1 rfl) ?_
      obtain ⟨g2, ho⟩ := gd_some ho
      refine xLD_200 C0 hW g2 dX2_isZeroRow_10 ?_
      refine lv_if_eq (tgt := 16) hx hb dX2_isZeroRow_11 (by decide) (fun c3 => ?_) (fun c3 => ?_)
      · replace ho := ite_t c3 ho
        obtain ⟨x4, ex4, ho⟩ := nm_x ho
        refine lv_iinc (v := x4) (lv' := [(1, .int x4), (0, .ref (am 200))]) hx hb dX2_isZeroRow_16 hl (k := 1) rfl (by rw [ex4]; rfl) (by decide) rfl (fun ls hl => ?_)
        clear ex4
        refine lv_goto (tgt := 2) hx hb dX2_isZeroRow_19 (by decide) ?_
        cases ho
        exact ih _ hrun _ _ _ hW (lv_sub hl [1, 0] rfl)
      · replace ho := ite_f c3 ho
        cases ho
        cases hrun
        exact hK0 _ rfl _ _ _ hW (lv_sub hl [] rfl)
set_option maxHeartbeats 4000000 in
set_option maxRecDepth 100000 in
theorem c_x2_isZeroRow_200 (l : Launch) {D : va_G} {cI cJ cZ cR : ClassId} {am gm : Nat → Nat} {st : Nat} (sz : Nat) (t : St) {r : Int32} (ho : x2_isZeroRow_200 t = some r) : Met l yX2_isZeroRow (.code yX2_isZeroRow cX2_isZeroRow 2 (some .boolean) :: wsAll) (rmN 0 0) (va_Pc [.ref (am 200)] (prX D (tyX cI cJ cZ cR) (wX cI cJ cZ cR am gm t) sz st)) (qZ r D (tyX cI cJ cZ cR) (wX cI cJ cZ cR am gm t) (va_A (wX cI cJ cZ cR am gm t) sz)) 0 0 (va_A (wX cI cJ cZ cR am gm t) sz) := by
  refine Met.ofW (cc := cX2_isZeroRow) (maxL := 2) (ret := (some .boolean)) (by decide) rfl ?_
  intro p e s m args below meth c s₁ B hml hv
  obtain ⟨rfl, ⟨hsz, hP, hK, hD0⟩, hsx⟩ := hv
  have hx := B.exec
  have hb := B.bytes
  have hts := atoms_spec (ws := (.code yX2_isZeroRow cX2_isZeroRow 2 (some .boolean) :: wsAll)) B.pre
  have hta := fun w h => hts w (List.mem_cons_of_mem _ h)
  have hown : s.vm.findClass RX2 = some m.cls := findClass_of_methodNamed B.named
  have hlocks := B.notSynchronized
  subst hsz
  have hD := hD0.self (sz := s.heap.size)
  generalize hAe : va_A (wX cI cJ cZ cR am gm t) s.heap.size = A at hD ⊢
  have hA : ∀ q : Nat, s.heap.size ≤ q → A q := fun q h => by rw [← hAe]; exact Or.inr h
  have C0 : cxX p s m ([.ref (am 200)].toArray) meth c cX2_isZeroRow RX2 2 (some .boolean) D (tyX cI cJ cZ cR) st A := ⟨⟨hx, hb, B.returns, hml, hown, hta, hlocks, hK, hA⟩, by rw [← hAe]; exact hsx⟩
  have hW : wl D A s (wX cI cJ cZ cR am gm t) s.heap [] := ⟨hP, hD, va_S.rf⟩
  have hl := lv_entry [.ref (am 200)] (n := 2) (Nat.le_of_ble_eq_true rfl)
  rw [lg_entry_eq]
  generalize (lg_sl [.ref (am 200)] ++ List.replicate (2 - (lg_sl [.ref (am 200)]).length) Slot.unset).toArray = ls at hl ⊢
  have hl : lv_has ls 2 [(0, .ref (am 200))] := hl
  unfold x2_isZeroRow_200 at ho
  refine lv_iconst (v := (0 : Int32)) hx hb dX2_isZeroRow_0 (by decide) ?_
  refine lv_istore_n (lv' := [(1, .int (0 : Int32)), (0, .ref (am 200))]) hx hb dX2_isZeroRow_1 rfl hl (by decide) rfl (fun ls hl => ?_)
  obtain ⟨y5, hc7, ho⟩ := bd_some ho
  obtain ⟨ny5, hc7⟩ := lp_to hc7
  refine x2_isZeroRow_200_L2 C0 ?_ ?_ ny5 _ hc7 _ _ _ hW (lv_sub hl [1, 0] rfl)
  · intro u8 hy H locs ls hW hl
    subst hy
    replace ho := sum_l ho
    refine lv_iconst (v := (0 : Int32)) hx hb dX2_isZeroRow_14 (by decide) ?_
    cases ho
    exact rtZ C0.1 hW (Or.inl (rfl : (0 : Int32) = 0)) dX2_isZeroRow_15
  · intro u8 hy H locs ls hW hl
    subst hy
    replace ho := sum_r ho
    refine lv_iconst (v := (1 : Int32)) hx hb dX2_isZeroRow_22 (by decide) ?_
    cases ho
    exact rtZ C0.1 hW (Or.inr (rfl : (1 : Int32) = 1)) dX2_isZeroRow_23
noncomputable def x2_isZero (t : St) : Option (Int32) :=
  (x2_isZeroRow_200 t).bind (fun q1 => some q1)
set_option maxHeartbeats 4000000 in
set_option maxRecDepth 100000 in
theorem c_x2_isZero (l : Launch) {D : va_G} {cI cJ cZ cR : ClassId} {am gm : Nat → Nat} {st : Nat} (sz : Nat) (t : St) {r : Int32} (ho : x2_isZero t = some r) : Met l yX2_isZero (.code yX2_isZero cX2_isZero 1 (some .boolean) :: wsAll) (rmN 1 21) (va_Pc [.ref (am 2002)] (prX D (tyX cI cJ cZ cR) (wX cI cJ cZ cR am gm t) sz st)) (qZ r D (tyX cI cJ cZ cR) (wX cI cJ cZ cR am gm t) (va_A (wX cI cJ cZ cR am gm t) sz)) 0 0 (va_A (wX cI cJ cZ cR am gm t) sz) := by
  refine Met.ofW (cc := cX2_isZero) (maxL := 1) (ret := (some .boolean)) (by decide) rfl ?_
  intro p e s m args below meth c s₁ B hml hv
  obtain ⟨rfl, ⟨hsz, hP, hK, hD0⟩, hsx⟩ := hv
  have hx := B.exec
  have hb := B.bytes
  have hts := atoms_spec (ws := (.code yX2_isZero cX2_isZero 1 (some .boolean) :: wsAll)) B.pre
  have hta := fun w h => hts w (List.mem_cons_of_mem _ h)
  have hown : s.vm.findClass RX2 = some m.cls := findClass_of_methodNamed B.named
  have hlocks := B.notSynchronized
  subst hsz
  have hD := hD0.self (sz := s.heap.size)
  generalize hAe : va_A (wX cI cJ cZ cR am gm t) s.heap.size = A at hD ⊢
  have hA : ∀ q : Nat, s.heap.size ≤ q → A q := fun q h => by rw [← hAe]; exact Or.inr h
  have C0 : cxX p s m ([.ref (am 2002)].toArray) meth c cX2_isZero RX2 1 (some .boolean) D (tyX cI cJ cZ cR) st A := ⟨⟨hx, hb, B.returns, hml, hown, hta, hlocks, hK, hA⟩, by rw [← hAe]; exact hsx⟩
  have hW : wl D A s (wX cI cJ cZ cR am gm t) s.heap [] := ⟨hP, hD, va_S.rf⟩
  have hl := lv_entry [.ref (am 2002)] (n := 1) (Nat.le_of_ble_eq_true rfl)
  rw [lg_entry_eq]
  generalize (lg_sl [.ref (am 2002)] ++ List.replicate (1 - (lg_sl [.ref (am 2002)]).length) Slot.unset).toArray = ls at hl ⊢
  have hl : lv_has ls 1 [(0, .ref (am 2002))] := hl
  unfold x2_isZero at ho
  refine lv_aload_n hx hb dX2_isZero_0 rfl (lv_at hl 0 rfl) ?_
  refine xGET_200 C0 kw_369 hW dX2_isZero_1 ?_
  obtain ⟨q1, hc2, ho⟩ := bd_some ho
  refine bkZ C0.1 hW (runSX (As := [.ref (am 200)]) (rest := []) C0 hW (c_x2_isZeroRow_200 l _ t (r := q1) hc2) cb_X2_X2_isZeroRow_18 rfl rfl ⟨rfl, rfl⟩ ⟨Nat.le_of_ble_eq_true rfl, Nat.le_of_ble_eq_true rfl⟩ (Nat.le_of_ble_eq_true rfl) hl.1 dX2_isZero_4 ⟨Nat.le_of_ble_eq_true rfl, Nat.le_of_ble_eq_true rfl⟩) (fun z3 H locs hW => ?_)
  cases ho
  exact rtZ C0.1 hW z3 dX2_isZero_7
noncomputable def j7_fill_53178_201_B5 (v1 : Int32) (v3 : Int32) (v2 : Int32) (t : St) : Option ((Int32 × St) ⊕ (St)) :=
  if v3 ≤ v2 then (some (.inr t)) else (gd v2 (gN t 201) (nm (sA t 201 v2 v1) (fun t3 : St => nm (v2 + (1 : Int32)) (fun x4 : Int32 => some (.inl (x4, t3))))))
theorem mm_j7_fill_53178_201_B5 (v1 : Int32) (v3 : Int32) (v2 : Int32) (t : St) : MR (j7_fill_53178_201_B5 v1 v3 v2 t) t (Sum.elim (fun (x : Int32 × St) => x.2) (fun (y : St) => y)) := by
  unfold j7_fill_53178_201_B5
  exact MR_ite (MR_some mle.rfl) (MR_gd (MR_nmS mle_sA (fun t3 ht3 => MR_nm (fun x4 _ => MR_some ht3))))
theorem mm_j7_fill_53178_201_L5 (v1 : Int32) (v3 : Int32) (v2 : Int32) (t : St) : MR (lp (fun x => j7_fill_53178_201_B5 v1 v3 x.1 x.2) (v2, t)) t (fun (y : St) => y) := MR_lp (p := (fun (x : Int32 × St) => x.2)) (q := (fun (y : St) => y)) (fun x => mm_j7_fill_53178_201_B5 v1 v3 x.1 x.2) (v2, t)
noncomputable def j7_fill_53178_201 (t : St) (a1 : Int32) : Option (St) :=
  nm (Int32.ofNat (gN t 201)) (fun x5 : Int32 => (lp (fun x => j7_fill_53178_201_B5 a1 x5 x.1 x.2) ((0 : Int32), t)).bind (fun y6 => some y6))
theorem mm_j7_fill_53178_201 (t : St) (a1 : Int32) : MR (j7_fill_53178_201 t a1) t (fun (a : St) => a) := by
  unfold j7_fill_53178_201
  exact MR_nm (fun x5 _ => MR_bind (mm_j7_fill_53178_201_L5 a1 x5 (0 : Int32) t) (fun y6 hm7 => MR_some hm7))
set_option maxHeartbeats 4000000 in
set_option maxRecDepth 100000 in
theorem j7_fill_53178_201_L5 {p : Program} {l : Launch} {e : Env} {s : State} {m : MethodId} {args : Array Value} {below : List Frame} {meth : Method} {c : Code} {Q : State → Prop} {D : va_G} {cI cJ cZ cR : ClassId} {am gm : Nat → Nat} {st : Nat} {A : Nat → Prop} (C0 : cxX p s m args meth c cJ7_fill_53178 RJ7 4 none D (tyX cI cJ cZ cR) st A) {v1 : Int32} {v3 : Int32} {y : St} (hK0 : ∀ (H : Heap) (locs : List Loc) (ls : Array Slot), wl D A s (wX cI cJ cZ cR am gm y) H locs → lv_has ls 4 [] → W p l e (rmN 0 0) s m args below meth c H locs 0 0 Q (F0 m 20 ls [])) :
    ∀ (n : Nat) (v2 : Int32) (t : St), lpn (fun x => j7_fill_53178_201_B5 v1 v3 x.1 x.2) n (v2, t) = some y → ∀ (H : Heap) (locs : List Loc) (ls : Array Slot), wl D A s (wX cI cJ cZ cR am gm t) H locs → lv_has ls 4 [(0, .ref (am 201)), (1, .int v1), (2, .int v2), (3, .int v3)] → W p l e (rmN 0 0) s m args below meth c H locs 0 0 Q (F0 m 5 ls []) := by
  have hx := C0.1.1
  have hb := C0.1.2.1
  have hta := C0.1.2.2.2.2.2.1
  have hown := C0.1.2.2.2.2.1
  intro n
  induction n with
  | zero => intro _ _ h; cases h
  | succ n ih =>
    intro v2 t hrun H locs ls hW hl
    obtain ⟨o, ho, hrun⟩ := bd_some hrun
    unfold j7_fill_53178_201_B5 at ho
    refine lv_iload_n hx hb dJ7_fill_53178_5 rfl (lv_at hl 2 rfl) ?_
    refine lv_iload_n hx hb dJ7_fill_53178_6 rfl (lv_at hl 3 rfl) ?_
    refine lv_icmp_ge (tgt := 20) hx hb dJ7_fill_53178_7 (by decide) (fun c1 => ?_) (fun c1 => ?_)
    · replace ho := ite_t c1 ho
      cases ho
      cases hrun
      exact hK0 _ _ _ hW (lv_sub hl [] rfl)
    · replace ho := ite_f c1 ho
      refine lv_aload_n hx hb dJ7_fill_53178_10 rfl (lv_at hl 0 rfl) ?_
      refine lv_iload_n hx hb dJ7_fill_53178_11 rfl (lv_at hl 2 rfl) ?_
      refine lv_iload_n hx hb dJ7_fill_53178_12 rfl (lv_at hl 1 rfl) ?_
      obtain ⟨g2, ho⟩ := gd_some ho
      refine xST_201 C0 hW g2 dJ7_fill_53178_13 (fun H locs hW => ?_)
      obtain ⟨t3, ho, hW⟩ := nm_w (P := fun t => wl D A s (wX cI cJ cZ cR am gm t) H locs) ho hW
      obtain ⟨x4, ex4, ho⟩ := nm_x ho
      refine lv_iinc (v := x4) (lv' := [(2, .int x4), (0, .ref (am 201)), (1, .int v1), (3, .int v3)]) hx hb dJ7_fill_53178_14 hl (k := 2) rfl (by rw [ex4]; rfl) (by decide) rfl (fun ls hl => ?_)
      clear ex4
      refine lv_goto (tgt := 5) hx hb dJ7_fill_53178_17 (by decide) ?_
      cases ho
      exact ih _ _ hrun _ _ _ hW (lv_sub hl [1, 2, 0, 3] rfl)
set_option maxHeartbeats 4000000 in
set_option maxRecDepth 100000 in
theorem c_j7_fill_53178_201 (l : Launch) {D : va_G} {cI cJ cZ cR : ClassId} {am gm : Nat → Nat} {st : Nat} (sz : Nat) (t : St) (a1 : Int32) {t' : St} (ho : j7_fill_53178_201 t a1 = some t') : Met l yJ7_fill_53178 (.code yJ7_fill_53178 cJ7_fill_53178 4 none :: wsAll) (rmN 0 0) (va_Pc [.ref (am 201), .int a1] (prX D (tyX cI cJ cZ cR) (wX cI cJ cZ cR am gm t) sz st)) (qV D (tyX cI cJ cZ cR) (wX cI cJ cZ cR am gm t') (va_A (wX cI cJ cZ cR am gm t) sz)) 0 0 (va_A (wX cI cJ cZ cR am gm t) sz) := by
  refine Met.ofW (cc := cJ7_fill_53178) (maxL := 4) (ret := none) (by decide) rfl ?_
  intro p e s m args below meth c s₁ B hml hv
  obtain ⟨rfl, ⟨hsz, hP, hK, hD0⟩, hsx⟩ := hv
  have hx := B.exec
  have hb := B.bytes
  have hts := atoms_spec (ws := (.code yJ7_fill_53178 cJ7_fill_53178 4 none :: wsAll)) B.pre
  have hta := fun w h => hts w (List.mem_cons_of_mem _ h)
  have hown : s.vm.findClass RJ7 = some m.cls := findClass_of_methodNamed B.named
  have hlocks := B.notSynchronized
  subst hsz
  have hD := hD0.self (sz := s.heap.size)
  generalize hAe : va_A (wX cI cJ cZ cR am gm t) s.heap.size = A at hD ⊢
  have hA : ∀ q : Nat, s.heap.size ≤ q → A q := fun q h => by rw [← hAe]; exact Or.inr h
  have C0 : cxX p s m ([.ref (am 201), .int a1].toArray) meth c cJ7_fill_53178 RJ7 4 none D (tyX cI cJ cZ cR) st A := ⟨⟨hx, hb, B.returns, hml, hown, hta, hlocks, hK, hA⟩, by rw [← hAe]; exact hsx⟩
  have hW : wl D A s (wX cI cJ cZ cR am gm t) s.heap [] := ⟨hP, hD, va_S.rf⟩
  have hl := lv_entry [.ref (am 201), .int a1] (n := 4) (Nat.le_of_ble_eq_true rfl)
  rw [lg_entry_eq]
  generalize (lg_sl [.ref (am 201), .int a1] ++ List.replicate (4 - (lg_sl [.ref (am 201), .int a1]).length) Slot.unset).toArray = ls at hl ⊢
  have hl : lv_has ls 4 [(0, .ref (am 201)), (1, .int a1)] := hl
  unfold j7_fill_53178_201 at ho
  refine lv_iconst (v := (0 : Int32)) hx hb dJ7_fill_53178_0 (by decide) ?_
  refine lv_istore_n (lv' := [(2, .int (0 : Int32)), (0, .ref (am 201)), (1, .int a1)]) hx hb dJ7_fill_53178_1 rfl hl (by decide) rfl (fun ls hl => ?_)
  refine lv_aload_n hx hb dJ7_fill_53178_2 rfl (lv_at hl 1 rfl) ?_
  refine xLEN_201 C0 hW dJ7_fill_53178_3 ?_
  refine lv_nmi ho (fun x5 ho => ?_)
  refine lv_istore_n (lv' := [(3, .int x5), (2, .int (0 : Int32)), (0, .ref (am 201)), (1, .int a1)]) hx hb dJ7_fill_53178_4 rfl hl (by decide) rfl (fun ls hl => ?_)
  obtain ⟨y6, hc8, ho⟩ := bd_some ho
  obtain ⟨ny6, hc8⟩ := lp_to hc8
  refine j7_fill_53178_201_L5 C0 ?_ ny6 _ _ hc8 _ _ _ hW (lv_sub hl [2, 3, 1, 0] rfl)
  intro H locs ls hW hl
  cases ho
  exact rtV C0.1 hW dJ7_fill_53178_20
noncomputable def x2_multiply_201_B6 (v1 : Int32) (v2 : Int32) (v3 : Int32) (v4 : Int64) (v6 : Int32) (t : St) : Option ((Int64 × Int32 × St) ⊕ (St)) :=
  if v2 ≤ v6 then (some (.inr t)) else (gd (v1 + v6) (gN t 201) (nm (v4 + (((gA t 201 ((v1 + v6)).toNatClampNeg)).toInt64 * (v3).toInt64)) (fun x3 : Int64 => gd (v1 + v6) (gN t 201) (nm (sA t 201 (v1 + v6) ((x3 &&& (1073741823 : Int64))).toInt32) (fun t5 : St => nm ((x3 >>> (((30 : Int32)).toInt64 &&& 63))) (fun x6 : Int64 => nm (v6 + (1 : Int32)) (fun x7 : Int32 => some (.inl (x6, x7, t5)))))))))
theorem mm_x2_multiply_201_B6 (v1 : Int32) (v2 : Int32) (v3 : Int32) (v4 : Int64) (v6 : Int32) (t : St) : MR (x2_multiply_201_B6 v1 v2 v3 v4 v6 t) t (Sum.elim (fun (x : Int64 × Int32 × St) => x.2.2) (fun (y : St) => y)) := by
  unfold x2_multiply_201_B6
  exact MR_ite (MR_some mle.rfl) (MR_gd (MR_nm (fun x3 _ => MR_gd (MR_nmS mle_sA (fun t5 ht5 => MR_nm (fun x6 _ => MR_nm (fun x7 _ => MR_some ht5)))))))
theorem mm_x2_multiply_201_L6 (v1 : Int32) (v2 : Int32) (v3 : Int32) (v4 : Int64) (v6 : Int32) (t : St) : MR (lp (fun x => x2_multiply_201_B6 v1 v2 v3 x.1 x.2.1 x.2.2) (v4, v6, t)) t (fun (y : St) => y) := MR_lp (p := (fun (x : Int64 × Int32 × St) => x.2.2)) (q := (fun (y : St) => y)) (fun x => mm_x2_multiply_201_B6 v1 v2 v3 x.1 x.2.1 x.2.2) (v4, v6, t)
noncomputable def x2_multiply_201 (t : St) (a1 : Int32) (a2 : Int32) (a3 : Int32) : Option (St) :=
  (lp (fun x => x2_multiply_201_B6 a1 a2 a3 x.1 x.2.1 x.2.2) ((0 : Int64), (0 : Int32), t)).bind (fun y8 => some y8)
theorem mm_x2_multiply_201 (t : St) (a1 : Int32) (a2 : Int32) (a3 : Int32) : MR (x2_multiply_201 t a1 a2 a3) t (fun (a : St) => a) := by
  unfold x2_multiply_201
  exact MR_bind (mm_x2_multiply_201_L6 a1 a2 a3 (0 : Int64) (0 : Int32) t) (fun y8 hm9 => MR_some hm9)
set_option maxHeartbeats 4000000 in
set_option maxRecDepth 100000 in
theorem x2_multiply_201_L6 {p : Program} {l : Launch} {e : Env} {s : State} {m : MethodId} {args : Array Value} {below : List Frame} {meth : Method} {c : Code} {Q : State → Prop} {D : va_G} {cI cJ cZ cR : ClassId} {am gm : Nat → Nat} {st : Nat} {A : Nat → Prop} (C0 : cxX p s m args meth c cX2_multiply RX2 7 none D (tyX cI cJ cZ cR) st A) {v1 : Int32} {v2 : Int32} {v3 : Int32} {y : St} (hK0 : ∀ (H : Heap) (locs : List Loc) (ls : Array Slot), wl D A s (wX cI cJ cZ cR am gm y) H locs → lv_has ls 7 [] → W p l e (rmN 0 0) s m args below meth c H locs 0 0 Q (F0 m 53 ls [])) :
    ∀ (n : Nat) (v4 : Int64) (v6 : Int32) (t : St), lpn (fun x => x2_multiply_201_B6 v1 v2 v3 x.1 x.2.1 x.2.2) n (v4, v6, t) = some y → ∀ (H : Heap) (locs : List Loc) (ls : Array Slot), wl D A s (wX cI cJ cZ cR am gm t) H locs → lv_has ls 7 [(0, .ref (am 201)), (1, .int v1), (2, .int v2), (3, .int v3), (4, .long v4), (6, .int v6)] → W p l e (rmN 0 0) s m args below meth c H locs 0 0 Q (F0 m 6 ls []) := by
  have hx := C0.1.1
  have hb := C0.1.2.1
  have hta := C0.1.2.2.2.2.2.1
  have hown := C0.1.2.2.2.2.1
  intro n
  induction n with
  | zero => intro _ _ _ h; cases h
  | succ n ih =>
    intro v4 v6 t hrun H locs ls hW hl
    obtain ⟨o, ho, hrun⟩ := bd_some hrun
    unfold x2_multiply_201_B6 at ho
    refine lv_iload hx hb dX2_multiply_6 (lv_at hl 5 rfl) ?_
    refine lv_iload_n hx hb dX2_multiply_8 rfl (lv_at hl 2 rfl) ?_
    refine lv_icmp_ge (tgt := 53) hx hb dX2_multiply_9 (by decide) (fun c1 => ?_) (fun c1 => ?_)
    · replace ho := ite_t c1 ho
      cases ho
      cases hrun
      exact hK0 _ _ _ hW (lv_sub hl [] rfl)
    · replace ho := ite_f c1 ho
      refine lv_lload hx hb dX2_multiply_12 (lv_at hl 4 rfl) ?_
      refine lv_aload_n hx hb dX2_multiply_14 rfl (lv_at hl 0 rfl) ?_
      refine lv_iload_n hx hb dX2_multiply_15 rfl (lv_at hl 1 rfl) ?_
      refine lv_iload hx hb dX2_multiply_16 (lv_at hl 5 rfl) ?_
      refine lv_iadd hx hb dX2_multiply_18 ?_
      obtain ⟨g2, ho⟩ := gd_some ho
      refine xLD_201 C0 hW g2 dX2_multiply_19 ?_
      refine lv_i2l hx hb dX2_multiply_20 rfl ?_
      refine lv_iload_n hx hb dX2_multiply_21 rfl (lv_at hl 3 rfl) ?_
      refine lv_i2l hx hb dX2_multiply_22 rfl ?_
      refine lv_lmul hx hb dX2_multiply_23 ?_
      refine lv_ladd hx hb dX2_multiply_24 ?_
      refine lv_nml ho (fun x3 ho => ?_)
      refine lv_lstore (lv' := [(4, .long x3), (0, .ref (am 201)), (1, .int v1), (2, .int v2), (3, .int v3), (6, .int v6)]) hx hb dX2_multiply_25 hl (by decide) rfl (fun ls hl => ?_)
      refine lv_aload_n hx hb dX2_multiply_27 rfl (lv_at hl 1 rfl) ?_
      refine lv_iload_n hx hb dX2_multiply_28 rfl (lv_at hl 2 rfl) ?_
      refine lv_iload hx hb dX2_multiply_29 (lv_at hl 5 rfl) ?_
      refine lv_iadd hx hb dX2_multiply_31 ?_
      refine lv_lload hx hb dX2_multiply_32 (lv_at hl 0 rfl) ?_
      refine lv_ldc2 hx hb hown (hta _ kw_996) dX2_multiply_34 ?_
      refine lv_land hx hb dX2_multiply_37 ?_
      refine lv_l2i hx hb dX2_multiply_38 rfl ?_
      obtain ⟨g4, ho⟩ := gd_some ho
      refine xST_201 C0 hW g4 dX2_multiply_39 (fun H locs hW => ?_)
      obtain ⟨t5, ho, hW⟩ := nm_w (P := fun t => wl D A s (wX cI cJ cZ cR am gm t) H locs) ho hW
      refine lv_lload hx hb dX2_multiply_40 (lv_at hl 0 rfl) ?_
      refine lv_bipush (v := (30 : Int32)) hx hb dX2_multiply_42 (by decide) ?_
      refine lv_lshr hx hb dX2_multiply_44 rfl ?_
      refine lv_nml ho (fun x6 ho => ?_)
      refine lv_lstore (lv' := [(4, .long x6), (0, .ref (am 201)), (1, .int v1), (2, .int v2), (3, .int v3), (6, .int v6)]) hx hb dX2_multiply_45 hl (by decide) rfl (fun ls hl => ?_)
      obtain ⟨x7, ex7, ho⟩ := nm_x ho
      refine lv_iinc (v := x7) (lv' := [(6, .int x7), (4, .long x6), (0, .ref (am 201)), (1, .int v1), (2, .int v2), (3, .int v3)]) hx hb dX2_multiply_47 hl (k := 5) rfl (by rw [ex7]; rfl) (by decide) rfl (fun ls hl => ?_)
      clear ex7
      refine lv_goto (tgt := 6) hx hb dX2_multiply_50 (by decide) ?_
      cases ho
      exact ih _ _ _ hrun _ _ _ hW (lv_sub hl [2, 3, 4, 5, 1, 0] rfl)
set_option maxHeartbeats 4000000 in
set_option maxRecDepth 100000 in
theorem c_x2_multiply_201 (l : Launch) {D : va_G} {cI cJ cZ cR : ClassId} {am gm : Nat → Nat} {st : Nat} (sz : Nat) (t : St) (a1 : Int32) (a2 : Int32) (a3 : Int32) {t' : St} (ho : x2_multiply_201 t a1 a2 a3 = some t') : Met l yX2_multiply (.code yX2_multiply cX2_multiply 7 none :: wsAll) (rmN 0 0) (va_Pc [.ref (am 201), .int a1, .int a2, .int a3] (prX D (tyX cI cJ cZ cR) (wX cI cJ cZ cR am gm t) sz st)) (qV D (tyX cI cJ cZ cR) (wX cI cJ cZ cR am gm t') (va_A (wX cI cJ cZ cR am gm t) sz)) 0 0 (va_A (wX cI cJ cZ cR am gm t) sz) := by
  refine Met.ofW (cc := cX2_multiply) (maxL := 7) (ret := none) (by decide) rfl ?_
  intro p e s m args below meth c s₁ B hml hv
  obtain ⟨rfl, ⟨hsz, hP, hK, hD0⟩, hsx⟩ := hv
  have hx := B.exec
  have hb := B.bytes
  have hts := atoms_spec (ws := (.code yX2_multiply cX2_multiply 7 none :: wsAll)) B.pre
  have hta := fun w h => hts w (List.mem_cons_of_mem _ h)
  have hown : s.vm.findClass RX2 = some m.cls := findClass_of_methodNamed B.named
  have hlocks := B.notSynchronized
  subst hsz
  have hD := hD0.self (sz := s.heap.size)
  generalize hAe : va_A (wX cI cJ cZ cR am gm t) s.heap.size = A at hD ⊢
  have hA : ∀ q : Nat, s.heap.size ≤ q → A q := fun q h => by rw [← hAe]; exact Or.inr h
  have C0 : cxX p s m ([.ref (am 201), .int a1, .int a2, .int a3].toArray) meth c cX2_multiply RX2 7 none D (tyX cI cJ cZ cR) st A := ⟨⟨hx, hb, B.returns, hml, hown, hta, hlocks, hK, hA⟩, by rw [← hAe]; exact hsx⟩
  have hW : wl D A s (wX cI cJ cZ cR am gm t) s.heap [] := ⟨hP, hD, va_S.rf⟩
  have hl := lv_entry [.ref (am 201), .int a1, .int a2, .int a3] (n := 7) (Nat.le_of_ble_eq_true rfl)
  rw [lg_entry_eq]
  generalize (lg_sl [.ref (am 201), .int a1, .int a2, .int a3] ++ List.replicate (7 - (lg_sl [.ref (am 201), .int a1, .int a2, .int a3]).length) Slot.unset).toArray = ls at hl ⊢
  have hl : lv_has ls 7 [(0, .ref (am 201)), (1, .int a1), (2, .int a2), (3, .int a3)] := hl
  unfold x2_multiply_201 at ho
  refine lv_lconst (v := (0 : Int64)) hx hb dX2_multiply_0 (by decide) ?_
  refine lv_lstore (lv' := [(4, .long (0 : Int64)), (0, .ref (am 201)), (1, .int a1), (2, .int a2), (3, .int a3)]) hx hb dX2_multiply_1 hl (by decide) rfl (fun ls hl => ?_)
  refine lv_iconst (v := (0 : Int32)) hx hb dX2_multiply_3 (by decide) ?_
  refine lv_istore (lv' := [(6, .int (0 : Int32)), (4, .long (0 : Int64)), (0, .ref (am 201)), (1, .int a1), (2, .int a2), (3, .int a3)]) hx hb dX2_multiply_4 hl (by decide) rfl (fun ls hl => ?_)
  obtain ⟨y8, hc10, ho⟩ := bd_some ho
  obtain ⟨ny8, hc10⟩ := lp_to hc10
  refine x2_multiply_201_L6 C0 ?_ ny8 _ _ _ hc10 _ _ _ hW (lv_sub hl [2, 3, 4, 5, 1, 0] rfl)
  intro H locs ls hW hl
  cases ho
  exact rtV C0.1 hW dX2_multiply_53
noncomputable def x2_remainder_200_B12 (t : St) (v1 : Int32) (v2 : Int64) (v4 : Int32) : Option ((Int64 × Int32) ⊕ (Int64)) :=
  if v4 < 0 then (some (.inr v2)) else (gd v4 (gN t 200) (dvl (v1).toInt64 (nm ((((v2 <<< (((30 : Int32)).toInt64 &&& 63))) + ((gA t 200 (v4).toNatClampNeg)).toInt64) - (((v2 <<< (((30 : Int32)).toInt64 &&& 63))) + ((gA t 200 (v4).toNatClampNeg)).toInt64) / (v1).toInt64 * (v1).toInt64) (fun x4 : Int64 => nm (v4 + (-1 : Int32)) (fun x5 : Int32 => some (.inl (x4, x5)))))))
noncomputable def x2_remainder_200 (t : St) (a1 : Int32) : Option (Int32) :=
  if (1 : Int32) ≤ a1 then ((lp (fun x => x2_remainder_200_B12 t a1 x.1 x.2) ((0 : Int64), (5 : Int32))).bind (fun y7 => some (y7).toInt32)) else (some (0 : Int32))
set_option maxHeartbeats 4000000 in
set_option maxRecDepth 100000 in
theorem x2_remainder_200_L12 {p : Program} {l : Launch} {e : Env} {s : State} {m : MethodId} {args : Array Value} {below : List Frame} {meth : Method} {c : Code} {Q : State → Prop} {D : va_G} {cI cJ cZ cR : ClassId} {am gm : Nat → Nat} {st : Nat} {A : Nat → Prop} (C0 : cxX p s m args meth c cX2_remainder RX2 5 (some .int) D (tyX cI cJ cZ cR) st A) {t : St} {v1 : Int32} {y : Int64} (hK0 : ∀ (H : Heap) (locs : List Loc) (ls : Array Slot), wl D A s (wX cI cJ cZ cR am gm t) H locs → lv_has ls 5 [(2, .long y)] → W p l e (rmN 0 0) s m args below meth c H locs 0 0 Q (F0 m 37 ls [])) :
    ∀ (n : Nat) (v2 : Int64) (v4 : Int32), lpn (fun x => x2_remainder_200_B12 t v1 x.1 x.2) n (v2, v4) = some y → ∀ (H : Heap) (locs : List Loc) (ls : Array Slot), wl D A s (wX cI cJ cZ cR am gm t) H locs → lv_has ls 5 [(0, .ref (am 200)), (1, .int v1), (2, .long v2), (4, .int v4)] → W p l e (rmN 0 0) s m args below meth c H locs 0 0 Q (F0 m 12 ls []) := by
  have hx := C0.1.1
  have hb := C0.1.2.1
  have hta := C0.1.2.2.2.2.2.1
  have hown := C0.1.2.2.2.2.1
  intro n
  induction n with
  | zero => intro _ _ h; cases h
  | succ n ih =>
    intro v2 v4 hrun H locs ls hW hl
    obtain ⟨o, ho, hrun⟩ := bd_some hrun
    unfold x2_remainder_200_B12 at ho
    refine lv_iload hx hb dX2_remainder_12 (lv_at hl 3 rfl) ?_
    refine lv_if_lt (tgt := 37) hx hb dX2_remainder_14 (by decide) (fun c1 => ?_) (fun c1 => ?_)
    · replace ho := ite_t c1 ho
      cases ho
      cases hrun
      exact hK0 _ _ _ hW (lv_sub hl [2] rfl)
    · replace ho := ite_f c1 ho
      refine lv_lload_n hx hb dX2_remainder_17 rfl (lv_at hl 2 rfl) ?_
      refine lv_bipush (v := (30 : Int32)) hx hb dX2_remainder_18 (by decide) ?_
      refine lv_lshl hx hb dX2_remainder_20 rfl ?_
      refine lv_aload_n hx hb dX2_remainder_21 rfl (lv_at hl 0 rfl) ?_
      refine lv_iload hx hb dX2_remainder_22 (lv_at hl 3 rfl) ?_
      obtain ⟨g2, ho⟩ := gd_some ho
      refine xLD_200 C0 hW g2 dX2_remainder_24 ?_
      refine lv_i2l hx hb dX2_remainder_25 rfl ?_
      refine lv_ladd hx hb dX2_remainder_26 ?_
      refine lv_iload_n hx hb dX2_remainder_27 rfl (lv_at hl 1 rfl) ?_
      refine lv_i2l hx hb dX2_remainder_28 rfl ?_
      obtain ⟨g3, ho⟩ := dvl_some ho
      refine lv_lrem hx hb dX2_remainder_29 g3 ?_
      refine lv_nml ho (fun x4 ho => ?_)
      refine lv_lstore_n (lv' := [(2, .long x4), (0, .ref (am 200)), (1, .int v1), (4, .int v4)]) hx hb dX2_remainder_30 rfl hl (by decide) rfl (fun ls hl => ?_)
      obtain ⟨x5, ex5, ho⟩ := nm_x ho
      refine lv_iinc (v := x5) (lv' := [(4, .int x5), (2, .long x4), (0, .ref (am 200)), (1, .int v1)]) hx hb dX2_remainder_31 hl (k := 3) rfl (by rw [ex5]; rfl) (by decide) rfl (fun ls hl => ?_)
      clear ex5
      refine lv_goto (tgt := 12) hx hb dX2_remainder_34 (by decide) ?_
      cases ho
      exact ih _ _ hrun _ _ _ hW (lv_sub hl [2, 3, 1, 0] rfl)
set_option maxHeartbeats 4000000 in
set_option maxRecDepth 100000 in
theorem c_x2_remainder_200 (l : Launch) {D : va_G} {cI cJ cZ cR : ClassId} {am gm : Nat → Nat} {st : Nat} (sz : Nat) (t : St) (a1 : Int32) {r : Int32} (ho : x2_remainder_200 t a1 = some r) : Met l yX2_remainder (.code yX2_remainder cX2_remainder 5 (some .int) :: wsAll) (rmN 0 0) (va_Pc [.ref (am 200), .int a1] (prX D (tyX cI cJ cZ cR) (wX cI cJ cZ cR am gm t) sz st)) (qI r D (tyX cI cJ cZ cR) (wX cI cJ cZ cR am gm t) (va_A (wX cI cJ cZ cR am gm t) sz)) 0 0 (va_A (wX cI cJ cZ cR am gm t) sz) := by
  refine Met.ofW (cc := cX2_remainder) (maxL := 5) (ret := (some .int)) (by decide) rfl ?_
  intro p e s m args below meth c s₁ B hml hv
  obtain ⟨rfl, ⟨hsz, hP, hK, hD0⟩, hsx⟩ := hv
  have hx := B.exec
  have hb := B.bytes
  have hts := atoms_spec (ws := (.code yX2_remainder cX2_remainder 5 (some .int) :: wsAll)) B.pre
  have hta := fun w h => hts w (List.mem_cons_of_mem _ h)
  have hown : s.vm.findClass RX2 = some m.cls := findClass_of_methodNamed B.named
  have hlocks := B.notSynchronized
  subst hsz
  have hD := hD0.self (sz := s.heap.size)
  generalize hAe : va_A (wX cI cJ cZ cR am gm t) s.heap.size = A at hD ⊢
  have hA : ∀ q : Nat, s.heap.size ≤ q → A q := fun q h => by rw [← hAe]; exact Or.inr h
  have C0 : cxX p s m ([.ref (am 200), .int a1].toArray) meth c cX2_remainder RX2 5 (some .int) D (tyX cI cJ cZ cR) st A := ⟨⟨hx, hb, B.returns, hml, hown, hta, hlocks, hK, hA⟩, by rw [← hAe]; exact hsx⟩
  have hW : wl D A s (wX cI cJ cZ cR am gm t) s.heap [] := ⟨hP, hD, va_S.rf⟩
  have hl := lv_entry [.ref (am 200), .int a1] (n := 5) (Nat.le_of_ble_eq_true rfl)
  rw [lg_entry_eq]
  generalize (lg_sl [.ref (am 200), .int a1] ++ List.replicate (5 - (lg_sl [.ref (am 200), .int a1]).length) Slot.unset).toArray = ls at hl ⊢
  have hl : lv_has ls 5 [(0, .ref (am 200)), (1, .int a1)] := hl
  unfold x2_remainder_200 at ho
  refine lv_iload_n hx hb dX2_remainder_0 rfl (lv_at hl 1 rfl) ?_
  refine lv_iconst (v := (1 : Int32)) hx hb dX2_remainder_1 (by decide) ?_
  refine lv_icmp_ge (tgt := 7) hx hb dX2_remainder_2 (by decide) (fun c6 => ?_) (fun c6 => ?_)
  · replace ho := ite_t c6 ho
    refine lv_lconst (v := (0 : Int64)) hx hb dX2_remainder_7 (by decide) ?_
    refine lv_lstore_n (lv' := [(2, .long (0 : Int64)), (0, .ref (am 200)), (1, .int a1)]) hx hb dX2_remainder_8 rfl hl (by decide) rfl (fun ls hl => ?_)
    refine lv_iconst (v := (5 : Int32)) hx hb dX2_remainder_9 (by decide) ?_
    refine lv_istore (lv' := [(4, .int (5 : Int32)), (2, .long (0 : Int64)), (0, .ref (am 200)), (1, .int a1)]) hx hb dX2_remainder_10 hl (by decide) rfl (fun ls hl => ?_)
    obtain ⟨y7, hc9, ho⟩ := bd_some ho
    obtain ⟨ny7, hc9⟩ := lp_to hc9
    refine x2_remainder_200_L12 C0 ?_ ny7 _ _ hc9 _ _ _ hW (lv_sub hl [2, 3, 1, 0] rfl)
    intro H locs ls hW hl
    refine lv_lload_n hx hb dX2_remainder_37 rfl (lv_at hl 0 rfl) ?_
    refine lv_l2i hx hb dX2_remainder_38 rfl ?_
    cases ho
    exact rtI C0.1 hW dX2_remainder_39
  · replace ho := ite_f c6 ho
    refine lv_iconst (v := (0 : Int32)) hx hb dX2_remainder_5 (by decide) ?_
    cases ho
    exact rtI C0.1 hW dX2_remainder_6
noncomputable def x2_divide_200_B11 (v1 : Int32) (v2 : Int64) (v4 : Int32) (t : St) : Option ((Int64 × Int32 × St) ⊕ (St)) :=
  if v4 < 0 then (some (.inr t)) else (gd v4 (gN t 200) (nm (((v2 <<< (((30 : Int32)).toInt64 &&& 63))) + ((gA t 200 (v4).toNatClampNeg)).toInt64) (fun x3 : Int64 => dvl (v1).toInt64 (gd v4 (gN t 200) (nm (sA t 200 v4 ((x3 / (v1).toInt64)).toInt32) (fun t6 : St => dvl (v1).toInt64 (nm (x3 - x3 / (v1).toInt64 * (v1).toInt64) (fun x8 : Int64 => nm (v4 + (-1 : Int32)) (fun x9 : Int32 => some (.inl (x8, x9, t6)))))))))))
theorem mm_x2_divide_200_B11 (v1 : Int32) (v2 : Int64) (v4 : Int32) (t : St) : MR (x2_divide_200_B11 v1 v2 v4 t) t (Sum.elim (fun (x : Int64 × Int32 × St) => x.2.2) (fun (y : St) => y)) := by
  unfold x2_divide_200_B11
  exact MR_ite (MR_some mle.rfl) (MR_gd (MR_nm (fun x3 _ => MR_dvl (MR_gd (MR_nmS mle_sA (fun t6 ht6 => MR_dvl (MR_nm (fun x8 _ => MR_nm (fun x9 _ => MR_some ht6)))))))))
theorem mm_x2_divide_200_L11 (v1 : Int32) (v2 : Int64) (v4 : Int32) (t : St) : MR (lp (fun x => x2_divide_200_B11 v1 x.1 x.2.1 x.2.2) (v2, v4, t)) t (fun (y : St) => y) := MR_lp (p := (fun (x : Int64 × Int32 × St) => x.2.2)) (q := (fun (y : St) => y)) (fun x => mm_x2_divide_200_B11 v1 x.1 x.2.1 x.2.2) (v2, v4, t)
noncomputable def x2_divide_200 (t : St) (a1 : Int32) : Option (St) :=
  if (1 : Int32) ≤ a1 then ((lp (fun x => x2_divide_200_B11 a1 x.1 x.2.1 x.2.2) ((0 : Int64), (5 : Int32), t)).bind (fun y11 => some y11)) else (some t)
theorem mm_x2_divide_200 (t : St) (a1 : Int32) : MR (x2_divide_200 t a1) t (fun (a : St) => a) := by
  unfold x2_divide_200
  exact MR_ite (MR_bind (mm_x2_divide_200_L11 a1 (0 : Int64) (5 : Int32) t) (fun y11 hm12 => MR_some hm12)) (MR_some mle.rfl)
set_option maxHeartbeats 4000000 in
set_option maxRecDepth 100000 in
theorem x2_divide_200_L11 {p : Program} {l : Launch} {e : Env} {s : State} {m : MethodId} {args : Array Value} {below : List Frame} {meth : Method} {c : Code} {Q : State → Prop} {D : va_G} {cI cJ cZ cR : ClassId} {am gm : Nat → Nat} {st : Nat} {A : Nat → Prop} (C0 : cxX p s m args meth c cX2_divide RX2 5 none D (tyX cI cJ cZ cR) st A) {v1 : Int32} {y : St} (hK0 : ∀ (H : Heap) (locs : List Loc) (ls : Array Slot), wl D A s (wX cI cJ cZ cR am gm y) H locs → lv_has ls 5 [] → W p l e (rmN 0 0) s m args below meth c H locs 0 0 Q (F0 m 47 ls [])) :
    ∀ (n : Nat) (v2 : Int64) (v4 : Int32) (t : St), lpn (fun x => x2_divide_200_B11 v1 x.1 x.2.1 x.2.2) n (v2, v4, t) = some y → ∀ (H : Heap) (locs : List Loc) (ls : Array Slot), wl D A s (wX cI cJ cZ cR am gm t) H locs → lv_has ls 5 [(0, .ref (am 200)), (1, .int v1), (2, .long v2), (4, .int v4)] → W p l e (rmN 0 0) s m args below meth c H locs 0 0 Q (F0 m 11 ls []) := by
  have hx := C0.1.1
  have hb := C0.1.2.1
  have hta := C0.1.2.2.2.2.2.1
  have hown := C0.1.2.2.2.2.1
  intro n
  induction n with
  | zero => intro _ _ _ h; cases h
  | succ n ih =>
    intro v2 v4 t hrun H locs ls hW hl
    obtain ⟨o, ho, hrun⟩ := bd_some hrun
    unfold x2_divide_200_B11 at ho
    refine lv_iload hx hb dX2_divide_11 (lv_at hl 3 rfl) ?_
    refine lv_if_lt (tgt := 47) hx hb dX2_divide_13 (by decide) (fun c1 => ?_) (fun c1 => ?_)
    · replace ho := ite_t c1 ho
      cases ho
      cases hrun
      exact hK0 _ _ _ hW (lv_sub hl [] rfl)
    · replace ho := ite_f c1 ho
      refine lv_lload_n hx hb dX2_divide_16 rfl (lv_at hl 2 rfl) ?_
      refine lv_bipush (v := (30 : Int32)) hx hb dX2_divide_17 (by decide) ?_
      refine lv_lshl hx hb dX2_divide_19 rfl ?_
      refine lv_aload_n hx hb dX2_divide_20 rfl (lv_at hl 0 rfl) ?_
      refine lv_iload hx hb dX2_divide_21 (lv_at hl 3 rfl) ?_
      obtain ⟨g2, ho⟩ := gd_some ho
      refine xLD_200 C0 hW g2 dX2_divide_23 ?_
      refine lv_i2l hx hb dX2_divide_24 rfl ?_
      refine lv_ladd hx hb dX2_divide_25 ?_
      refine lv_nml ho (fun x3 ho => ?_)
      refine lv_lstore_n (lv' := [(2, .long x3), (0, .ref (am 200)), (1, .int v1), (4, .int v4)]) hx hb dX2_divide_26 rfl hl (by decide) rfl (fun ls hl => ?_)
      refine lv_aload_n hx hb dX2_divide_27 rfl (lv_at hl 1 rfl) ?_
      refine lv_iload hx hb dX2_divide_28 (lv_at hl 3 rfl) ?_
      refine lv_lload_n hx hb dX2_divide_30 rfl (lv_at hl 0 rfl) ?_
      refine lv_iload_n hx hb dX2_divide_31 rfl (lv_at hl 2 rfl) ?_
      refine lv_i2l hx hb dX2_divide_32 rfl ?_
      obtain ⟨g4, ho⟩ := dvl_some ho
      refine lv_ldiv hx hb dX2_divide_33 g4 ?_
      refine lv_l2i hx hb dX2_divide_34 rfl ?_
      obtain ⟨g5, ho⟩ := gd_some ho
      refine xST_200 C0 hW g5 dX2_divide_35 (fun H locs hW => ?_)
      obtain ⟨t6, ho, hW⟩ := nm_w (P := fun t => wl D A s (wX cI cJ cZ cR am gm t) H locs) ho hW
      refine lv_lload_n hx hb dX2_divide_36 rfl (lv_at hl 0 rfl) ?_
      refine lv_iload_n hx hb dX2_divide_37 rfl (lv_at hl 2 rfl) ?_
      refine lv_i2l hx hb dX2_divide_38 rfl ?_
      obtain ⟨g7, ho⟩ := dvl_some ho
      refine lv_lrem hx hb dX2_divide_39 g7 ?_
      refine lv_nml ho (fun x8 ho => ?_)
      refine lv_lstore_n (lv' := [(2, .long x8), (0, .ref (am 200)), (1, .int v1), (4, .int v4)]) hx hb dX2_divide_40 rfl hl (by decide) rfl (fun ls hl => ?_)
      obtain ⟨x9, ex9, ho⟩ := nm_x ho
      refine lv_iinc (v := x9) (lv' := [(4, .int x9), (2, .long x8), (0, .ref (am 200)), (1, .int v1)]) hx hb dX2_divide_41 hl (k := 3) rfl (by rw [ex9]; rfl) (by decide) rfl (fun ls hl => ?_)
      clear ex9
      refine lv_goto (tgt := 11) hx hb dX2_divide_44 (by decide) ?_
      cases ho
      exact ih _ _ _ hrun _ _ _ hW (lv_sub hl [2, 3, 1, 0] rfl)
set_option maxHeartbeats 4000000 in
set_option maxRecDepth 100000 in
theorem c_x2_divide_200 (l : Launch) {D : va_G} {cI cJ cZ cR : ClassId} {am gm : Nat → Nat} {st : Nat} (sz : Nat) (t : St) (a1 : Int32) {t' : St} (ho : x2_divide_200 t a1 = some t') : Met l yX2_divide (.code yX2_divide cX2_divide 5 none :: wsAll) (rmN 0 0) (va_Pc [.ref (am 200), .int a1] (prX D (tyX cI cJ cZ cR) (wX cI cJ cZ cR am gm t) sz st)) (qV D (tyX cI cJ cZ cR) (wX cI cJ cZ cR am gm t') (va_A (wX cI cJ cZ cR am gm t) sz)) 0 0 (va_A (wX cI cJ cZ cR am gm t) sz) := by
  refine Met.ofW (cc := cX2_divide) (maxL := 5) (ret := none) (by decide) rfl ?_
  intro p e s m args below meth c s₁ B hml hv
  obtain ⟨rfl, ⟨hsz, hP, hK, hD0⟩, hsx⟩ := hv
  have hx := B.exec
  have hb := B.bytes
  have hts := atoms_spec (ws := (.code yX2_divide cX2_divide 5 none :: wsAll)) B.pre
  have hta := fun w h => hts w (List.mem_cons_of_mem _ h)
  have hown : s.vm.findClass RX2 = some m.cls := findClass_of_methodNamed B.named
  have hlocks := B.notSynchronized
  subst hsz
  have hD := hD0.self (sz := s.heap.size)
  generalize hAe : va_A (wX cI cJ cZ cR am gm t) s.heap.size = A at hD ⊢
  have hA : ∀ q : Nat, s.heap.size ≤ q → A q := fun q h => by rw [← hAe]; exact Or.inr h
  have C0 : cxX p s m ([.ref (am 200), .int a1].toArray) meth c cX2_divide RX2 5 none D (tyX cI cJ cZ cR) st A := ⟨⟨hx, hb, B.returns, hml, hown, hta, hlocks, hK, hA⟩, by rw [← hAe]; exact hsx⟩
  have hW : wl D A s (wX cI cJ cZ cR am gm t) s.heap [] := ⟨hP, hD, va_S.rf⟩
  have hl := lv_entry [.ref (am 200), .int a1] (n := 5) (Nat.le_of_ble_eq_true rfl)
  rw [lg_entry_eq]
  generalize (lg_sl [.ref (am 200), .int a1] ++ List.replicate (5 - (lg_sl [.ref (am 200), .int a1]).length) Slot.unset).toArray = ls at hl ⊢
  have hl : lv_has ls 5 [(0, .ref (am 200)), (1, .int a1)] := hl
  unfold x2_divide_200 at ho
  refine lv_iload_n hx hb dX2_divide_0 rfl (lv_at hl 1 rfl) ?_
  refine lv_iconst (v := (1 : Int32)) hx hb dX2_divide_1 (by decide) ?_
  refine lv_icmp_ge (tgt := 6) hx hb dX2_divide_2 (by decide) (fun c10 => ?_) (fun c10 => ?_)
  · replace ho := ite_t c10 ho
    refine lv_lconst (v := (0 : Int64)) hx hb dX2_divide_6 (by decide) ?_
    refine lv_lstore_n (lv' := [(2, .long (0 : Int64)), (0, .ref (am 200)), (1, .int a1)]) hx hb dX2_divide_7 rfl hl (by decide) rfl (fun ls hl => ?_)
    refine lv_iconst (v := (5 : Int32)) hx hb dX2_divide_8 (by decide) ?_
    refine lv_istore (lv' := [(4, .int (5 : Int32)), (2, .long (0 : Int64)), (0, .ref (am 200)), (1, .int a1)]) hx hb dX2_divide_9 hl (by decide) rfl (fun ls hl => ?_)
    obtain ⟨y11, hc13, ho⟩ := bd_some ho
    obtain ⟨ny11, hc13⟩ := lp_to hc13
    refine x2_divide_200_L11 C0 ?_ ny11 _ _ _ hc13 _ _ _ hW (lv_sub hl [2, 3, 1, 0] rfl)
    intro H locs ls hW hl
    cases ho
    exact rtV C0.1 hW dX2_divide_47
  · replace ho := ite_f c10 ho
    cases ho
    exact rtV C0.1 hW dX2_divide_5
noncomputable def x2_putThousandths_12_B123 (v5 : Int32) (v6 : Int32) (v7 : Int32) (t : St) : Option ((Int32 × St) ⊕ (St)) :=
  if v5 ≤ v7 then (some (.inr t)) else ((x2_multiply_201 t (0 : Int32) (6 : Int32) (2 : Int32)).bind (fun q2 => nm (v7 + (1 : Int32)) (fun x4 : Int32 => some (.inl (x4, q2)))))
theorem mm_x2_putThousandths_12_B123 (v5 : Int32) (v6 : Int32) (v7 : Int32) (t : St) : MR (x2_putThousandths_12_B123 v5 v6 v7 t) t (Sum.elim (fun (x : Int32 × St) => x.2) (fun (y : St) => y)) := by
  unfold x2_putThousandths_12_B123
  exact MR_ite (MR_some mle.rfl) (MR_bind (mm_x2_multiply_201 t (0 : Int32) (6 : Int32) (2 : Int32)) (fun q2 hq2 => MR_nm (fun x4 _ => MR_some hq2)))
theorem mm_x2_putThousandths_12_L123 (v5 : Int32) (v6 : Int32) (v7 : Int32) (t : St) : MR (lp (fun x => x2_putThousandths_12_B123 v5 v6 x.1 x.2) (v7, t)) t (fun (y : St) => y) := MR_lp (p := (fun (x : Int32 × St) => x.2)) (q := (fun (y : St) => y)) (fun x => mm_x2_putThousandths_12_B123 v5 v6 x.1 x.2) (v7, t)
noncomputable def x2_putThousandths_12_B150 (v6 : Int32) (v7 : Int32) (t : St) : Option ((Int32 × St) ⊕ (St)) :=
  if v6 ≤ v7 then (some (.inr t)) else ((x2_multiply_201 t (0 : Int32) (6 : Int32) (5 : Int32)).bind (fun q6 => nm (v7 + (1 : Int32)) (fun x8 : Int32 => some (.inl (x8, q6)))))
theorem mm_x2_putThousandths_12_B150 (v6 : Int32) (v7 : Int32) (t : St) : MR (x2_putThousandths_12_B150 v6 v7 t) t (Sum.elim (fun (x : Int32 × St) => x.2) (fun (y : St) => y)) := by
  unfold x2_putThousandths_12_B150
  exact MR_ite (MR_some mle.rfl) (MR_bind (mm_x2_multiply_201 t (0 : Int32) (6 : Int32) (5 : Int32)) (fun q6 hq6 => MR_nm (fun x8 _ => MR_some hq6)))
theorem mm_x2_putThousandths_12_L150 (v6 : Int32) (v7 : Int32) (t : St) : MR (lp (fun x => x2_putThousandths_12_B150 v6 x.1 x.2) (v7, t)) t (fun (y : St) => y) := MR_lp (p := (fun (x : Int32 × St) => x.2)) (q := (fun (y : St) => y)) (fun x => mm_x2_putThousandths_12_B150 v6 x.1 x.2) (v7, t)
noncomputable def x2_putThousandths_12_B45 (v6 : Int32) (v5 : Int32) (t : St) : Option ((Int32 × St) ⊕ (Int32 × St)) :=
  if v5 ≤ 0 then (some (.inr (v5, t))) else ((x2_remainder_200 t (2 : Int32)).bind (fun q10 => if q10 = 0 then ((x2_divide_200 t (2 : Int32)).bind (fun q13 => nm (v5 + (-1 : Int32)) (fun x15 : Int32 => some (.inl (x15, q13))))) else (some (.inr (v5, t)))))
theorem mm_x2_putThousandths_12_B45 (v6 : Int32) (v5 : Int32) (t : St) : MR (x2_putThousandths_12_B45 v6 v5 t) t (Sum.elim (fun (x : Int32 × St) => x.2) (fun (y : Int32 × St) => y.2)) := by
  unfold x2_putThousandths_12_B45
  exact MR_ite (MR_some mle.rfl) (MR_bindn (fun q10 => MR_ite (MR_bind (mm_x2_divide_200 t (2 : Int32)) (fun q13 hq13 => MR_nm (fun x15 _ => MR_some hq13))) (MR_some mle.rfl)))
theorem mm_x2_putThousandths_12_L45 (v6 : Int32) (v5 : Int32) (t : St) : MR (lp (fun x => x2_putThousandths_12_B45 v6 x.1 x.2) (v5, t)) t (fun (y : Int32 × St) => y.2) := MR_lp (p := (fun (x : Int32 × St) => x.2)) (q := (fun (y : Int32 × St) => y.2)) (fun x => mm_x2_putThousandths_12_B45 v6 x.1 x.2) (v5, t)
noncomputable def x2_putThousandths_12_B75 (v5 : Int32) (v6 : Int32) (t : St) : Option ((Int32 × St) ⊕ (Int32 × St)) :=
  if v6 ≤ 0 then (some (.inr (v6, t))) else ((x2_remainder_200 t (5 : Int32)).bind (fun q17 => if q17 = 0 then ((x2_divide_200 t (5 : Int32)).bind (fun q20 => nm (v6 + (-1 : Int32)) (fun x22 : Int32 => some (.inl (x22, q20))))) else (some (.inr (v6, t)))))
theorem mm_x2_putThousandths_12_B75 (v5 : Int32) (v6 : Int32) (t : St) : MR (x2_putThousandths_12_B75 v5 v6 t) t (Sum.elim (fun (x : Int32 × St) => x.2) (fun (y : Int32 × St) => y.2)) := by
  unfold x2_putThousandths_12_B75
  exact MR_ite (MR_some mle.rfl) (MR_bindn (fun q17 => MR_ite (MR_bind (mm_x2_divide_200 t (5 : Int32)) (fun q20 hq20 => MR_nm (fun x22 _ => MR_some hq20))) (MR_some mle.rfl)))
theorem mm_x2_putThousandths_12_L75 (v5 : Int32) (v6 : Int32) (t : St) : MR (lp (fun x => x2_putThousandths_12_B75 v5 x.1 x.2) (v6, t)) t (fun (y : Int32 × St) => y.2) := MR_lp (p := (fun (x : Int32 × St) => x.2)) (q := (fun (y : Int32 × St) => y.2)) (fun x => mm_x2_putThousandths_12_B75 v5 x.1 x.2) (v6, t)
noncomputable def x2_putThousandths_12_J39 (t : St) (w0 : Int32) : Option (St) :=
  (lp (fun x => x2_putThousandths_12_B45 w0 x.1 x.2) (w0, t)).bind (fun y23 => (lp (fun x => x2_putThousandths_12_B75 y23.1 x.1 x.2) (w0, y23.2)).bind (fun y26 => (j7_fill_53178_201 y26.2 (0 : Int32)).bind (fun q29 => gd (0 : Int32) (gN q29 201) (nm (sA q29 201 (0 : Int32) (1 : Int32)) (fun t32 : St => (lp (fun x => x2_putThousandths_12_B123 y23.1 y26.1 x.1 x.2) ((0 : Int32), t32)).bind (fun y33 => (lp (fun x => x2_putThousandths_12_B150 y26.1 x.1 x.2) ((0 : Int32), y33)).bind (fun y36 => some y36)))))))
theorem mm_x2_putThousandths_12_J39 (t : St) (w0 : Int32) : MR (x2_putThousandths_12_J39 t w0) t (fun (a : St) => a) := by
  unfold x2_putThousandths_12_J39
  exact MR_bind (mm_x2_putThousandths_12_L45 w0 w0 t) (fun y23 hm24 => MR_bind (mm_x2_putThousandths_12_L75 y23.1 w0 y23.2) (fun y26 hm27 => MR_bind (mm_j7_fill_53178_201 y26.2 (0 : Int32)) (fun q29 hq29 => MR_gd (MR_nmS mle_sA (fun t32 ht32 => MR_bind (mm_x2_putThousandths_12_L123 y23.1 y26.1 (0 : Int32) t32) (fun y33 hm34 => MR_bind (mm_x2_putThousandths_12_L150 y26.1 (0 : Int32) y33) (fun y36 hm37 => MR_some (mle.trans (mle.trans (mle.trans (mle.trans (mle.trans hm24 hm27) hq29) ht32) hm34) hm37))))))))
noncomputable def x2_putThousandths_12 (t : St) (a2 : Int32) (a3 : Int32) (a4 : Int32) : Option (St) :=
  (j7_fill_53178_200 t (0 : Int32)).bind (fun q39 => cpk a2 (0 : Int32) (if (6 : Int32) < a3 then (6 : Int32) else a3) (gN q39 12) (gN q39 200) (nm (sAr q39 200 (va_cpy (gA q39 12) (gA q39 200) (a2).toNatClampNeg ((0 : Int32)).toNatClampNeg ((if (6 : Int32) < a3 then (6 : Int32) else a3)).toNatClampNeg)) (fun t42 : St => (x2_isZero t42).bind (fun q43 => if q43 = 0 then (x2_putThousandths_12_J39 t42 ((3 : Int32) * a4)) else (x2_putThousandths_12_J39 t42 (0 : Int32))))))
theorem mm_x2_putThousandths_12 (t : St) (a2 : Int32) (a3 : Int32) (a4 : Int32) : MR (x2_putThousandths_12 t a2 a3 a4) t (fun (a : St) => a) := by
  unfold x2_putThousandths_12
  exact MR_bind (mm_j7_fill_53178_200 t (0 : Int32)) (fun q39 hq39 => MR_cpk (MR_nmS mle_sAr (fun t42 ht42 => MR_bindn (fun q43 => MR_ite (MR_wk (mle.trans hq39 ht42) (mm_x2_putThousandths_12_J39 t42 ((3 : Int32) * a4))) (MR_wk (mle.trans hq39 ht42) (mm_x2_putThousandths_12_J39 t42 (0 : Int32)))))))
set_option maxHeartbeats 4000000 in
set_option maxRecDepth 100000 in
theorem x2_putThousandths_12_L123 {p : Program} {l : Launch} {e : Env} {s : State} {m : MethodId} {args : Array Value} {below : List Frame} {meth : Method} {c : Code} {Q : State → Prop} {D : va_G} {cI cJ cZ cR : ClassId} {am gm : Nat → Nat} {st : Nat} {A : Nat → Prop} (C0 : cxX p s m args meth c cX2_putThousandths RX2 8 none D (tyX cI cJ cZ cR) st A) {v5 : Int32} {v6 : Int32} {y : St} (hK0 : ∀ (H : Heap) (locs : List Loc) (ls : Array Slot), wl D A s (wX cI cJ cZ cR am gm y) H locs → lv_has ls 8 [(0, .ref (am 2002)), (6, .int v6)] → W p l e (rmN 2 60) s m args below meth c H locs 0 0 Q (F0 m 147 ls [])) :
    ∀ (n : Nat) (v7 : Int32) (t : St), lpn (fun x => x2_putThousandths_12_B123 v5 v6 x.1 x.2) n (v7, t) = some y → ∀ (H : Heap) (locs : List Loc) (ls : Array Slot), wl D A s (wX cI cJ cZ cR am gm t) H locs → lv_has ls 8 [(0, .ref (am 2002)), (5, .int v5), (6, .int v6), (7, .int v7)] → W p l e (rmN 2 60) s m args below meth c H locs 0 0 Q (F0 m 123 ls []) := by
  have hx := C0.1.1
  have hb := C0.1.2.1
  have hta := C0.1.2.2.2.2.2.1
  have hown := C0.1.2.2.2.2.1
  intro n
  induction n with
  | zero => intro _ _ h; cases h
  | succ n ih =>
    intro v7 t hrun H locs ls hW hl
    obtain ⟨o, ho, hrun⟩ := bd_some hrun
    unfold x2_putThousandths_12_B123 at ho
    refine lv_iload hx hb dX2_putThousandths_123 (lv_at hl 3 rfl) ?_
    refine lv_iload hx hb dX2_putThousandths_125 (lv_at hl 1 rfl) ?_
    refine lv_icmp_ge (tgt := 147) hx hb dX2_putThousandths_127 (by decide) (fun c1 => ?_) (fun c1 => ?_)
    · replace ho := ite_t c1 ho
      cases ho
      cases hrun
      exact hK0 _ _ _ hW (lv_sub hl [0, 2] rfl)
    · replace ho := ite_f c1 ho
      refine lv_aload_n hx hb dX2_putThousandths_130 rfl (lv_at hl 0 rfl) ?_
      refine xGET_201 C0 kw_370 hW dX2_putThousandths_131 ?_
      refine lv_iconst (v := (0 : Int32)) hx hb dX2_putThousandths_134 (by decide) ?_
      refine lv_bipush (v := (6 : Int32)) hx hb dX2_putThousandths_135 (by decide) ?_
      refine lv_iconst (v := (2 : Int32)) hx hb dX2_putThousandths_137 (by decide) ?_
      obtain ⟨q2, hc3, ho⟩ := bd_some ho
      refine bkV C0.1 hW (runSX (As := [.ref (am 201), .int (0 : Int32), .int (6 : Int32), .int (2 : Int32)]) (rest := []) C0 hW (c_x2_multiply_201 l _ t (0 : Int32) (6 : Int32) (2 : Int32) (t' := q2) hc3) cb_X2_X2_multiply_51 rfl rfl ⟨rfl, rfl⟩ ⟨Nat.le_of_ble_eq_true rfl, Nat.le_of_ble_eq_true rfl⟩ (Nat.le_of_ble_eq_true rfl) hl.1 dX2_putThousandths_138 ⟨Nat.le_of_ble_eq_true rfl, Nat.le_of_ble_eq_true rfl⟩) (fun H locs hW => ?_)
      obtain ⟨x4, ex4, ho⟩ := nm_x ho
      refine lv_iinc (v := x4) (lv' := [(7, .int x4), (0, .ref (am 2002)), (5, .int v5), (6, .int v6)]) hx hb dX2_putThousandths_141 hl (k := 3) rfl (by rw [ex4]; rfl) (by decide) rfl (fun ls hl => ?_)
      clear ex4
      refine lv_goto (tgt := 123) hx hb dX2_putThousandths_144 (by decide) ?_
      cases ho
      exact ih _ _ hrun _ _ _ hW (lv_sub hl [1, 2, 3, 0] rfl)
set_option maxHeartbeats 4000000 in
set_option maxRecDepth 100000 in
theorem x2_putThousandths_12_L150 {p : Program} {l : Launch} {e : Env} {s : State} {m : MethodId} {args : Array Value} {below : List Frame} {meth : Method} {c : Code} {Q : State → Prop} {D : va_G} {cI cJ cZ cR : ClassId} {am gm : Nat → Nat} {st : Nat} {A : Nat → Prop} (C0 : cxX p s m args meth c cX2_putThousandths RX2 8 none D (tyX cI cJ cZ cR) st A) {v6 : Int32} {y : St} (hK0 : ∀ (H : Heap) (locs : List Loc) (ls : Array Slot), wl D A s (wX cI cJ cZ cR am gm y) H locs → lv_has ls 8 [(0, .ref (am 2002))] → W p l e (rmN 2 60) s m args below meth c H locs 0 0 Q (F0 m 174 ls [])) :
    ∀ (n : Nat) (v7 : Int32) (t : St), lpn (fun x => x2_putThousandths_12_B150 v6 x.1 x.2) n (v7, t) = some y → ∀ (H : Heap) (locs : List Loc) (ls : Array Slot), wl D A s (wX cI cJ cZ cR am gm t) H locs → lv_has ls 8 [(0, .ref (am 2002)), (6, .int v6), (7, .int v7)] → W p l e (rmN 2 60) s m args below meth c H locs 0 0 Q (F0 m 150 ls []) := by
  have hx := C0.1.1
  have hb := C0.1.2.1
  have hta := C0.1.2.2.2.2.2.1
  have hown := C0.1.2.2.2.2.1
  intro n
  induction n with
  | zero => intro _ _ h; cases h
  | succ n ih =>
    intro v7 t hrun H locs ls hW hl
    obtain ⟨o, ho, hrun⟩ := bd_some hrun
    unfold x2_putThousandths_12_B150 at ho
    refine lv_iload hx hb dX2_putThousandths_150 (lv_at hl 2 rfl) ?_
    refine lv_iload hx hb dX2_putThousandths_152 (lv_at hl 1 rfl) ?_
    refine lv_icmp_ge (tgt := 174) hx hb dX2_putThousandths_154 (by decide) (fun c5 => ?_) (fun c5 => ?_)
    · replace ho := ite_t c5 ho
      cases ho
      cases hrun
      exact hK0 _ _ _ hW (lv_sub hl [0] rfl)
    · replace ho := ite_f c5 ho
      refine lv_aload_n hx hb dX2_putThousandths_157 rfl (lv_at hl 0 rfl) ?_
      refine xGET_201 C0 kw_370 hW dX2_putThousandths_158 ?_
      refine lv_iconst (v := (0 : Int32)) hx hb dX2_putThousandths_161 (by decide) ?_
      refine lv_bipush (v := (6 : Int32)) hx hb dX2_putThousandths_162 (by decide) ?_
      refine lv_iconst (v := (5 : Int32)) hx hb dX2_putThousandths_164 (by decide) ?_
      obtain ⟨q6, hc7, ho⟩ := bd_some ho
      refine bkV C0.1 hW (runSX (As := [.ref (am 201), .int (0 : Int32), .int (6 : Int32), .int (5 : Int32)]) (rest := []) C0 hW (c_x2_multiply_201 l _ t (0 : Int32) (6 : Int32) (5 : Int32) (t' := q6) hc7) cb_X2_X2_multiply_51 rfl rfl ⟨rfl, rfl⟩ ⟨Nat.le_of_ble_eq_true rfl, Nat.le_of_ble_eq_true rfl⟩ (Nat.le_of_ble_eq_true rfl) hl.1 dX2_putThousandths_165 ⟨Nat.le_of_ble_eq_true rfl, Nat.le_of_ble_eq_true rfl⟩) (fun H locs hW => ?_)
      obtain ⟨x8, ex8, ho⟩ := nm_x ho
      refine lv_iinc (v := x8) (lv' := [(7, .int x8), (0, .ref (am 2002)), (6, .int v6)]) hx hb dX2_putThousandths_168 hl (k := 2) rfl (by rw [ex8]; rfl) (by decide) rfl (fun ls hl => ?_)
      clear ex8
      refine lv_goto (tgt := 150) hx hb dX2_putThousandths_171 (by decide) ?_
      cases ho
      exact ih _ _ hrun _ _ _ hW (lv_sub hl [1, 2, 0] rfl)
set_option maxHeartbeats 4000000 in
set_option maxRecDepth 100000 in
theorem x2_putThousandths_12_L45 {p : Program} {l : Launch} {e : Env} {s : State} {m : MethodId} {args : Array Value} {below : List Frame} {meth : Method} {c : Code} {Q : State → Prop} {D : va_G} {cI cJ cZ cR : ClassId} {am gm : Nat → Nat} {st : Nat} {A : Nat → Prop} (C0 : cxX p s m args meth c cX2_putThousandths RX2 8 none D (tyX cI cJ cZ cR) st A) {v6 : Int32} {y : Int32 × St} (hK0 : ∀ (H : Heap) (locs : List Loc) (ls : Array Slot), wl D A s (wX cI cJ cZ cR am gm y.2) H locs → lv_has ls 8 [(0, .ref (am 2002)), (5, .int y.1), (6, .int v6)] → W p l e (rmN 2 60) s m args below meth c H locs 0 0 Q (F0 m 75 ls [])) :
    ∀ (n : Nat) (v5 : Int32) (t : St), lpn (fun x => x2_putThousandths_12_B45 v6 x.1 x.2) n (v5, t) = some y → ∀ (H : Heap) (locs : List Loc) (ls : Array Slot), wl D A s (wX cI cJ cZ cR am gm t) H locs → lv_has ls 8 [(0, .ref (am 2002)), (5, .int v5), (6, .int v6)] → W p l e (rmN 2 60) s m args below meth c H locs 0 0 Q (F0 m 45 ls []) := by
  have hx := C0.1.1
  have hb := C0.1.2.1
  have hta := C0.1.2.2.2.2.2.1
  have hown := C0.1.2.2.2.2.1
  intro n
  induction n with
  | zero => intro _ _ h; cases h
  | succ n ih =>
    intro v5 t hrun H locs ls hW hl
    obtain ⟨o, ho, hrun⟩ := bd_some hrun
    unfold x2_putThousandths_12_B45 at ho
    refine lv_iload hx hb dX2_putThousandths_45 (lv_at hl 1 rfl) ?_
    refine lv_if_le (tgt := 75) hx hb dX2_putThousandths_47 (by decide) (fun c9 => ?_) (fun c9 => ?_)
    · replace ho := ite_t c9 ho
      cases ho
      cases hrun
      exact hK0 _ _ _ hW (lv_sub hl [0, 1, 2] rfl)
    · replace ho := ite_f c9 ho
      refine lv_aload_n hx hb dX2_putThousandths_50 rfl (lv_at hl 0 rfl) ?_
      refine xGET_200 C0 kw_369 hW dX2_putThousandths_51 ?_
      refine lv_iconst (v := (2 : Int32)) hx hb dX2_putThousandths_54 (by decide) ?_
      obtain ⟨q10, hc11, ho⟩ := bd_some ho
      refine bkI C0.1 hW (runSX (As := [.ref (am 200), .int (2 : Int32)]) (rest := []) C0 hW (c_x2_remainder_200 l _ t (2 : Int32) (r := q10) hc11) cb_X2_X2_remainder_44 rfl rfl ⟨rfl, rfl⟩ ⟨Nat.le_of_ble_eq_true rfl, Nat.le_of_ble_eq_true rfl⟩ (Nat.le_of_ble_eq_true rfl) hl.1 dX2_putThousandths_55 ⟨Nat.le_of_ble_eq_true rfl, Nat.le_of_ble_eq_true rfl⟩) (fun H locs hW => ?_)
      refine lv_if_ne (tgt := 75) hx hb dX2_putThousandths_58 (by decide) (fun c12 => ?_) (fun c12 => ?_)
      · replace ho := ite_f c12 ho
        cases ho
        cases hrun
        exact hK0 _ _ _ hW (lv_sub hl [0, 1, 2] rfl)
      · replace ho := ite_t c12 ho
        refine lv_aload_n hx hb dX2_putThousandths_61 rfl (lv_at hl 0 rfl) ?_
        refine xGET_200 C0 kw_369 hW dX2_putThousandths_62 ?_
        refine lv_iconst (v := (2 : Int32)) hx hb dX2_putThousandths_65 (by decide) ?_
        obtain ⟨q13, hc14, ho⟩ := bd_some ho
        refine bkV C0.1 hW (runSX (As := [.ref (am 200), .int (2 : Int32)]) (rest := []) C0 hW (c_x2_divide_200 l _ t (2 : Int32) (t' := q13) hc14) cb_X2_X2_divide_48 rfl rfl ⟨rfl, rfl⟩ ⟨Nat.le_of_ble_eq_true rfl, Nat.le_of_ble_eq_true rfl⟩ (Nat.le_of_ble_eq_true rfl) hl.1 dX2_putThousandths_66 ⟨Nat.le_of_ble_eq_true rfl, Nat.le_of_ble_eq_true rfl⟩) (fun H locs hW => ?_)
        obtain ⟨x15, ex15, ho⟩ := nm_x ho
        refine lv_iinc (v := x15) (lv' := [(5, .int x15), (0, .ref (am 2002)), (6, .int v6)]) hx hb dX2_putThousandths_69 hl (k := 1) rfl (by rw [ex15]; rfl) (by decide) rfl (fun ls hl => ?_)
        clear ex15
        refine lv_goto (tgt := 45) hx hb dX2_putThousandths_72 (by decide) ?_
        cases ho
        exact ih _ _ hrun _ _ _ hW (lv_sub hl [1, 0, 2] rfl)
set_option maxHeartbeats 4000000 in
set_option maxRecDepth 100000 in
theorem x2_putThousandths_12_L75 {p : Program} {l : Launch} {e : Env} {s : State} {m : MethodId} {args : Array Value} {below : List Frame} {meth : Method} {c : Code} {Q : State → Prop} {D : va_G} {cI cJ cZ cR : ClassId} {am gm : Nat → Nat} {st : Nat} {A : Nat → Prop} (C0 : cxX p s m args meth c cX2_putThousandths RX2 8 none D (tyX cI cJ cZ cR) st A) {v5 : Int32} {y : Int32 × St} (hK0 : ∀ (H : Heap) (locs : List Loc) (ls : Array Slot), wl D A s (wX cI cJ cZ cR am gm y.2) H locs → lv_has ls 8 [(0, .ref (am 2002)), (5, .int v5), (6, .int y.1)] → W p l e (rmN 2 60) s m args below meth c H locs 0 0 Q (F0 m 105 ls [])) :
    ∀ (n : Nat) (v6 : Int32) (t : St), lpn (fun x => x2_putThousandths_12_B75 v5 x.1 x.2) n (v6, t) = some y → ∀ (H : Heap) (locs : List Loc) (ls : Array Slot), wl D A s (wX cI cJ cZ cR am gm t) H locs → lv_has ls 8 [(0, .ref (am 2002)), (5, .int v5), (6, .int v6)] → W p l e (rmN 2 60) s m args below meth c H locs 0 0 Q (F0 m 75 ls []) := by
  have hx := C0.1.1
  have hb := C0.1.2.1
  have hta := C0.1.2.2.2.2.2.1
  have hown := C0.1.2.2.2.2.1
  intro n
  induction n with
  | zero => intro _ _ h; cases h
  | succ n ih =>
    intro v6 t hrun H locs ls hW hl
    obtain ⟨o, ho, hrun⟩ := bd_some hrun
    unfold x2_putThousandths_12_B75 at ho
    refine lv_iload hx hb dX2_putThousandths_75 (lv_at hl 2 rfl) ?_
    refine lv_if_le (tgt := 105) hx hb dX2_putThousandths_77 (by decide) (fun c16 => ?_) (fun c16 => ?_)
    · replace ho := ite_t c16 ho
      cases ho
      cases hrun
      exact hK0 _ _ _ hW (lv_sub hl [0, 1, 2] rfl)
    · replace ho := ite_f c16 ho
      refine lv_aload_n hx hb dX2_putThousandths_80 rfl (lv_at hl 0 rfl) ?_
      refine xGET_200 C0 kw_369 hW dX2_putThousandths_81 ?_
      refine lv_iconst (v := (5 : Int32)) hx hb dX2_putThousandths_84 (by decide) ?_
      obtain ⟨q17, hc18, ho⟩ := bd_some ho
      refine bkI C0.1 hW (runSX (As := [.ref (am 200), .int (5 : Int32)]) (rest := []) C0 hW (c_x2_remainder_200 l _ t (5 : Int32) (r := q17) hc18) cb_X2_X2_remainder_44 rfl rfl ⟨rfl, rfl⟩ ⟨Nat.le_of_ble_eq_true rfl, Nat.le_of_ble_eq_true rfl⟩ (Nat.le_of_ble_eq_true rfl) hl.1 dX2_putThousandths_85 ⟨Nat.le_of_ble_eq_true rfl, Nat.le_of_ble_eq_true rfl⟩) (fun H locs hW => ?_)
      refine lv_if_ne (tgt := 105) hx hb dX2_putThousandths_88 (by decide) (fun c19 => ?_) (fun c19 => ?_)
      · replace ho := ite_f c19 ho
        cases ho
        cases hrun
        exact hK0 _ _ _ hW (lv_sub hl [0, 1, 2] rfl)
      · replace ho := ite_t c19 ho
        refine lv_aload_n hx hb dX2_putThousandths_91 rfl (lv_at hl 0 rfl) ?_
        refine xGET_200 C0 kw_369 hW dX2_putThousandths_92 ?_
        refine lv_iconst (v := (5 : Int32)) hx hb dX2_putThousandths_95 (by decide) ?_
        obtain ⟨q20, hc21, ho⟩ := bd_some ho
        refine bkV C0.1 hW (runSX (As := [.ref (am 200), .int (5 : Int32)]) (rest := []) C0 hW (c_x2_divide_200 l _ t (5 : Int32) (t' := q20) hc21) cb_X2_X2_divide_48 rfl rfl ⟨rfl, rfl⟩ ⟨Nat.le_of_ble_eq_true rfl, Nat.le_of_ble_eq_true rfl⟩ (Nat.le_of_ble_eq_true rfl) hl.1 dX2_putThousandths_96 ⟨Nat.le_of_ble_eq_true rfl, Nat.le_of_ble_eq_true rfl⟩) (fun H locs hW => ?_)
        obtain ⟨x22, ex22, ho⟩ := nm_x ho
        refine lv_iinc (v := x22) (lv' := [(6, .int x22), (0, .ref (am 2002)), (5, .int v5)]) hx hb dX2_putThousandths_99 hl (k := 2) rfl (by rw [ex22]; rfl) (by decide) rfl (fun ls hl => ?_)
        clear ex22
        refine lv_goto (tgt := 75) hx hb dX2_putThousandths_102 (by decide) ?_
        cases ho
        exact ih _ _ hrun _ _ _ hW (lv_sub hl [1, 2, 0] rfl)
set_option maxHeartbeats 4000000 in
set_option maxRecDepth 100000 in
theorem c_x2_putThousandths_12 (l : Launch) {D : va_G} {cI cJ cZ cR : ClassId} {am gm : Nat → Nat} {st : Nat} (sz : Nat) (t : St) (a2 : Int32) (a3 : Int32) (a4 : Int32) {t' : St} (ho : x2_putThousandths_12 t a2 a3 a4 = some t') : Met l yX2_putThousandths (.code yX2_putThousandths cX2_putThousandths 8 none :: wsAll) (rmN 2 60) (va_Pc [.ref (am 2002), .ref (gm 12), .int a2, .int a3, .int a4] (prX D (tyX cI cJ cZ cR) (wX cI cJ cZ cR am gm t) sz st)) (qV D (tyX cI cJ cZ cR) (wX cI cJ cZ cR am gm t') (va_A (wX cI cJ cZ cR am gm t) sz)) 0 0 (va_A (wX cI cJ cZ cR am gm t) sz) := by
  refine Met.ofW (cc := cX2_putThousandths) (maxL := 8) (ret := none) (by decide) rfl ?_
  intro p e s m args below meth c s₁ B hml hv
  obtain ⟨rfl, ⟨hsz, hP, hK, hD0⟩, hsx⟩ := hv
  have hx := B.exec
  have hb := B.bytes
  have hts := atoms_spec (ws := (.code yX2_putThousandths cX2_putThousandths 8 none :: wsAll)) B.pre
  have hta := fun w h => hts w (List.mem_cons_of_mem _ h)
  have hown : s.vm.findClass RX2 = some m.cls := findClass_of_methodNamed B.named
  have hlocks := B.notSynchronized
  subst hsz
  have hD := hD0.self (sz := s.heap.size)
  generalize hAe : va_A (wX cI cJ cZ cR am gm t) s.heap.size = A at hD ⊢
  have hA : ∀ q : Nat, s.heap.size ≤ q → A q := fun q h => by rw [← hAe]; exact Or.inr h
  have C0 : cxX p s m ([.ref (am 2002), .ref (gm 12), .int a2, .int a3, .int a4].toArray) meth c cX2_putThousandths RX2 8 none D (tyX cI cJ cZ cR) st A := ⟨⟨hx, hb, B.returns, hml, hown, hta, hlocks, hK, hA⟩, by rw [← hAe]; exact hsx⟩
  have hW : wl D A s (wX cI cJ cZ cR am gm t) s.heap [] := ⟨hP, hD, va_S.rf⟩
  have hl := lv_entry [.ref (am 2002), .ref (gm 12), .int a2, .int a3, .int a4] (n := 8) (Nat.le_of_ble_eq_true rfl)
  rw [lg_entry_eq]
  generalize (lg_sl [.ref (am 2002), .ref (gm 12), .int a2, .int a3, .int a4] ++ List.replicate (8 - (lg_sl [.ref (am 2002), .ref (gm 12), .int a2, .int a3, .int a4]).length) Slot.unset).toArray = ls at hl ⊢
  have hl : lv_has ls 8 [(0, .ref (am 2002)), (1, .ref (gm 12)), (2, .int a2), (3, .int a3), (4, .int a4)] := hl
  clear hAe hD hP hD0 hts
  have J39 : ∀ (t : St) (w0 : Int32) (_ : x2_putThousandths_12_J39 t w0 = some t') (H : Heap) (locs : List Loc) (ls : Array Slot), wl D A s (wX cI cJ cZ cR am gm t) H locs → lv_has ls 8 [(0, .ref (am 2002))] → W p l e (rmN 2 60) s m ([.ref (am 2002), .ref (gm 12), .int a2, .int a3, .int a4].toArray) below meth c H locs 0 0 (MQ below (qV D (tyX cI cJ cZ cR) (wX cI cJ cZ cR am gm t') A) ([.ref (am 2002), .ref (gm 12), .int a2, .int a3, .int a4].toArray) s 0 0 A) (F0 m 39 ls [.int w0]) := by
    intro t w0 ho H locs ls hW hl
    unfold x2_putThousandths_12_J39 at ho
    refine lv_istore (lv' := [(5, .int w0), (0, .ref (am 2002))]) hx hb dX2_putThousandths_39 hl (by decide) rfl (fun ls hl => ?_)
    refine lv_iload hx hb dX2_putThousandths_41 (lv_at hl 0 rfl) ?_
    refine lv_istore (lv' := [(6, .int w0), (5, .int w0), (0, .ref (am 2002))]) hx hb dX2_putThousandths_43 hl (by decide) rfl (fun ls hl => ?_)
    obtain ⟨y23, hc25, ho⟩ := bd_some ho
    obtain ⟨ny23, hc25⟩ := lp_to hc25
    refine x2_putThousandths_12_L45 C0 ?_ ny23 _ _ hc25 _ _ _ hW (lv_sub hl [2, 1, 0] rfl)
    intro H locs ls hW hl
    obtain ⟨y26, hc28, ho⟩ := bd_some ho
    obtain ⟨ny26, hc28⟩ := lp_to hc28
    refine x2_putThousandths_12_L75 C0 ?_ ny26 _ _ hc28 _ _ _ hW (lv_sub hl [0, 1, 2] rfl)
    intro H locs ls hW hl
    refine lv_aload_n hx hb dX2_putThousandths_105 rfl (lv_at hl 0 rfl) ?_
    refine xGET_201 C0 kw_370 hW dX2_putThousandths_106 ?_
    refine lv_iconst (v := (0 : Int32)) hx hb dX2_putThousandths_109 (by decide) ?_
    obtain ⟨q29, hc30, ho⟩ := bd_some ho
    refine bkV C0.1 hW (runSX (As := [.ref (am 201), .int (0 : Int32)]) (rest := []) C0 hW (c_j7_fill_53178_201 l _ y26.2 (0 : Int32) (t' := q29) hc30) cb_X2_J7_fill_53178_22 rfl rfl ⟨rfl, rfl⟩ ⟨Nat.le_of_ble_eq_true rfl, Nat.le_of_ble_eq_true rfl⟩ (Nat.le_of_ble_eq_true rfl) hl.1 dX2_putThousandths_110 ⟨Nat.le_of_ble_eq_true rfl, Nat.le_of_ble_eq_true rfl⟩) (fun H locs hW => ?_)
    refine lv_aload_n hx hb dX2_putThousandths_113 rfl (lv_at hl 0 rfl) ?_
    refine xGET_201 C0 kw_370 hW dX2_putThousandths_114 ?_
    refine lv_iconst (v := (0 : Int32)) hx hb dX2_putThousandths_117 (by decide) ?_
    refine lv_iconst (v := (1 : Int32)) hx hb dX2_putThousandths_118 (by decide) ?_
    obtain ⟨g31, ho⟩ := gd_some ho
    refine xST_201 C0 hW g31 dX2_putThousandths_119 (fun H locs hW => ?_)
    obtain ⟨t32, ho, hW⟩ := nm_w (P := fun t => wl D A s (wX cI cJ cZ cR am gm t) H locs) ho hW
    refine lv_iconst (v := (0 : Int32)) hx hb dX2_putThousandths_120 (by decide) ?_
    refine lv_istore (lv' := [(7, .int (0 : Int32)), (0, .ref (am 2002)), (5, .int y23.1), (6, .int y26.1)]) hx hb dX2_putThousandths_121 hl (by decide) rfl (fun ls hl => ?_)
    obtain ⟨y33, hc35, ho⟩ := bd_some ho
    obtain ⟨ny33, hc35⟩ := lp_to hc35
    refine x2_putThousandths_12_L123 C0 ?_ ny33 _ _ hc35 _ _ _ hW (lv_sub hl [1, 2, 3, 0] rfl)
    intro H locs ls hW hl
    refine lv_iconst (v := (0 : Int32)) hx hb dX2_putThousandths_147 (by decide) ?_
    refine lv_istore (lv' := [(7, .int (0 : Int32)), (0, .ref (am 2002)), (6, .int y26.1)]) hx hb dX2_putThousandths_148 hl (by decide) rfl (fun ls hl => ?_)
    obtain ⟨y36, hc38, ho⟩ := bd_some ho
    obtain ⟨ny36, hc38⟩ := lp_to hc38
    refine x2_putThousandths_12_L150 C0 ?_ ny36 _ _ hc38 _ _ _ hW (lv_sub hl [1, 2, 0] rfl)
    intro H locs ls hW hl
    cases ho
    exact rtV C0.1 hW dX2_putThousandths_174
  unfold x2_putThousandths_12 at ho
  refine lv_aload_n hx hb dX2_putThousandths_0 rfl (lv_at hl 0 rfl) ?_
  refine xGET_200 C0 kw_369 hW dX2_putThousandths_1 ?_
  refine lv_iconst (v := (0 : Int32)) hx hb dX2_putThousandths_4 (by decide) ?_
  obtain ⟨q39, hc40, ho⟩ := bd_some ho
  refine bkV C0.1 hW (runSX (As := [.ref (am 200), .int (0 : Int32)]) (rest := []) C0 hW (c_j7_fill_53178_200 l _ t (0 : Int32) (t' := q39) hc40) cb_X2_J7_fill_53178_22 rfl rfl ⟨rfl, rfl⟩ ⟨Nat.le_of_ble_eq_true rfl, Nat.le_of_ble_eq_true rfl⟩ (Nat.le_of_ble_eq_true rfl) hl.1 dX2_putThousandths_5 ⟨Nat.le_of_ble_eq_true rfl, Nat.le_of_ble_eq_true rfl⟩) (fun H locs hW => ?_)
  refine lv_aload_n hx hb dX2_putThousandths_8 rfl (lv_at hl 1 rfl) ?_
  refine lv_iload_n hx hb dX2_putThousandths_9 rfl (lv_at hl 2 rfl) ?_
  refine lv_aload_n hx hb dX2_putThousandths_10 rfl (lv_at hl 0 rfl) ?_
  refine xGET_200 C0 kw_369 hW dX2_putThousandths_11 ?_
  refine lv_iconst (v := (0 : Int32)) hx hb dX2_putThousandths_14 (by decide) ?_
  refine lv_iload_n hx hb dX2_putThousandths_15 rfl (lv_at hl 3 rfl) ?_
  refine lv_bipush (v := (6 : Int32)) hx hb dX2_putThousandths_16 (by decide) ?_
  refine va_mmin (rest := [.int (0 : Int32), .ref (am 200), .int a2, .ref (gm 12)]) hx hb (C0.1.2.2.2.1.trans hl.1.symm) hown (hta _ kw_1006) (hta _ kw_748) (hta _ kw_136) (hta _ kw_749) (Nat.le_of_ble_eq_true rfl) (Nat.le_of_ble_eq_true rfl) (Nat.le_of_ble_eq_true rfl) (Nat.le_of_ble_eq_true rfl) dX2_putThousandths_18 ?_
  obtain ⟨g41, ho⟩ := cpk_some ho
  refine xCPY_12_200 (rest := []) C0 kw_1007 kw_752 kw_751 kw_137 hl.1 hW g41 (Nat.le_of_ble_eq_true rfl) (Nat.le_of_ble_eq_true rfl) dX2_putThousandths_21 (fun H locs hW => ?_)
  obtain ⟨t42, ho, hW⟩ := nm_w (P := fun t => wl D A s (wX cI cJ cZ cR am gm t) H locs) ho hW
  refine lv_aload_n hx hb dX2_putThousandths_24 rfl (lv_at hl 0 rfl) ?_
  obtain ⟨q43, hc44, ho⟩ := bd_some ho
  refine bkZ C0.1 hW (runVX (As := []) (rest := []) C0 hW (c_x2_isZero l _ t42 (r := q43) hc44) cb_X2_X2_isZero_40 2 2 rfl rfl rfl rfl rfl ⟨rfl, rfl⟩ ⟨Nat.le_of_ble_eq_true rfl, Nat.le_of_ble_eq_true rfl⟩ (Nat.le_of_ble_eq_true rfl) hl.1 dX2_putThousandths_25 ⟨Nat.le_of_ble_eq_true rfl, Nat.le_of_ble_eq_true rfl⟩) (fun z45 H locs hW => ?_)
  refine lv_if_eq (tgt := 35) hx hb dX2_putThousandths_28 (by decide) (fun c46 => ?_) (fun c46 => ?_)
  · replace ho := ite_t c46 ho
    refine lv_iconst (v := (3 : Int32)) hx hb dX2_putThousandths_35 (by decide) ?_
    refine lv_iload hx hb dX2_putThousandths_36 (lv_at hl 4 rfl) ?_
    refine lv_imul hx hb dX2_putThousandths_38 ?_
    exact J39 _ _ ho _ _ _ hW (lv_sub hl [0] rfl)
  · replace ho := ite_f c46 ho
    refine lv_iconst (v := (0 : Int32)) hx hb dX2_putThousandths_31 (by decide) ?_
    refine lv_goto (tgt := 39) hx hb dX2_putThousandths_32 (by decide) ?_
    exact J39 _ _ ho _ _ _ hW (lv_sub hl [0] rfl)
