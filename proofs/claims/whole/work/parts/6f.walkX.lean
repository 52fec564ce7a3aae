noncomputable def x11_weight_J56 (t : St) : Option (Int32 × St) :=
  (x2_putThousandths_13 t (0 : Int32) (gI t 6) (gI t 803)).bind (fun q1 => (x2_isZero q1).bind (fun q3 => if q3 = 0 then (some ((1 : Int32), q1)) else (some ((0 : Int32), q1))))
theorem mm_x11_weight_J56 (t : St) : MR (x11_weight_J56 t) t (fun (a : Int32 × St) => a.2) := by
  unfold x11_weight_J56
  exact MR_bind (mm_x2_putThousandths_13 t (0 : Int32) (gI t 6) (gI t 803)) (fun q1 hq1 => MR_bindn (fun q3 => MR_ite (MR_some hq1) (MR_some hq1)))
noncomputable def x11_weight_J42 (t : St) (v2 : Int32) (w0 : Int32) : Option (Int32 × St) :=
  if w0 = 0 then (some ((-5 : Int32), t)) else ((x0_workWeight t v2).bind (fun q8 => x11_weight_J56 q8))
theorem mm_x11_weight_J42 (t : St) (v2 : Int32) (w0 : Int32) : MR (x11_weight_J42 t v2 w0) t (fun (a : Int32 × St) => a.2) := by
  unfold x11_weight_J42
  exact MR_ite (MR_some mle.rfl) (MR_bind (mm_x0_workWeight t v2) (fun q8 hq8 => MR_wk hq8 (mm_x11_weight_J56 q8)))
noncomputable def x11_weight (t0 : St) (a1 : Int32) (a2 : Int32) : Option (Int32 × St) :=
  (x11_noNet t0 a1).bind (fun q10 => if q10 = 0 then ((x11_noStep t0 a2).bind (fun q14 => if q14 = 0 then (gd a1 (gN t0 602) (nm (gA t0 602 (a1).toNatClampNeg) (fun x19 : Int32 => if 0 ≤ x19 then ((x0_mayWork t0 x19).bind (fun q21 => x11_weight_J42 q21.2 a2 q21.1)) else (some ((-3 : Int32), t0))))) else (some ((-2 : Int32), t0)))) else (some ((-2 : Int32), t0)))
theorem mm_x11_weight (t0 : St) (a1 : Int32) (a2 : Int32) : MR (x11_weight t0 a1 a2) t0 (fun (a : Int32 × St) => a.2) := by
  unfold x11_weight
  exact MR_bindn (fun q10 => MR_ite (MR_bindn (fun q14 => MR_ite (MR_gd (MR_nm (fun x19 _ => MR_ite (MR_bind (mm_x0_mayWork t0 x19) (fun q21 hq21 => MR_wk hq21 (mm_x11_weight_J42 q21.2 a2 q21.1))) (MR_some mle.rfl)))) (MR_some mle.rfl))) (MR_some mle.rfl))
set_option maxHeartbeats 4000000 in
set_option maxRecDepth 100000 in
theorem c_x11_weight (l : Launch) {D : va_G} {cI cJ cZ cR : ClassId} {am gm : Nat → Nat} {st : Nat} (sz : Nat) (t0 : St) (a1 : Int32) (a2 : Int32) {r : Int32} {t' : St} (ho : x11_weight t0 a1 a2 = some (r, t')) : Met l yX11_weight (.code yX11_weight cX11_weight 4 (some .int) :: wsAll) (rmA 6 142 t0 t') (va_Pc [.ref (am 1011), .int a1, .int a2] (prX D (tyX cI cJ cZ cR) (wX cI cJ cZ cR am gm t0) sz st)) (qIa r D (tyX cI cJ cZ cR) (fun gm => wX cI cJ cZ cR am gm t') (va_A (wX cI cJ cZ cR am gm t0) sz)) (mC t0 t') (mS t0 t') (va_A (wX cI cJ cZ cR am gm t0) sz) := by
  refine Met.ofW (cc := cX11_weight) (maxL := 4) (ret := (some .int)) (by decide) rfl ?_
  intro p e s m args below meth c s₁ B hml hv
  obtain ⟨rfl, ⟨hsz, hP, hK, hD0⟩, hsx⟩ := hv
  have hx := B.exec
  have hb := B.bytes
  have hts := atoms_spec (ws := (.code yX11_weight cX11_weight 4 (some .int) :: wsAll)) B.pre
  have hta := fun w h => hts w (List.mem_cons_of_mem _ h)
  have hown : s.vm.findClass RX11 = some m.cls := findClass_of_methodNamed B.named
  have hlocks := B.notSynchronized
  subst hsz
  have hD := hD0.self (sz := s.heap.size)
  generalize hAe : va_A (wX cI cJ cZ cR am gm t0) s.heap.size = A at hD ⊢
  have hA : ∀ q : Nat, s.heap.size ≤ q → A q := fun q h => by rw [← hAe]; exact Or.inr h
  have C0 : cxX p s m ([.ref (am 1011), .int a1, .int a2].toArray) meth c cX11_weight RX11 4 (some .int) D (tyX cI cJ cZ cR) st A := ⟨⟨hx, hb, B.returns, hml, hown, hta, hlocks, hK, hA⟩, by rw [← hAe]; exact hsx⟩
  have hW : wl D A s (wX cI cJ cZ cR am gm t0) s.heap [] := ⟨hP, hD, va_S.rf⟩
  have hl := lv_entry [.ref (am 1011), .int a1, .int a2] (n := 4) (Nat.le_of_ble_eq_true rfl)
  rw [lg_entry_eq]
  generalize (lg_sl [.ref (am 1011), .int a1, .int a2] ++ List.replicate (4 - (lg_sl [.ref (am 1011), .int a1, .int a2]).length) Slot.unset).toArray = ls at hl ⊢
  have hl : lv_has ls 4 [(0, .ref (am 1011)), (1, .int a1), (2, .int a2)] := hl
  clear hAe hD hP hD0 hts
  have J56 : ∀ (gm : Nat → Nat) (t : St) (_ : x11_weight_J56 t = some (r, t')) (_ : mle t0 t) (H : Heap) (locs : List Loc) (ls : Array Slot), wl D A s (wX cI cJ cZ cR am gm t) H locs → lv_has ls 4 [(0, .ref (am 1011))] → W p l e (rmA 6 142 t0 t') s m ([.ref (am 1011), .int a1, .int a2].toArray) below meth c H locs (mC t0 t) (mS t0 t) (MQ below (qIa r D (tyX cI cJ cZ cR) (fun gm => wX cI cJ cZ cR am gm t') A) ([.ref (am 1011), .int a1, .int a2].toArray) s (mC t0 t') (mS t0 t') A) (F0 m 56 ls []) := by
    intro gm t ho h0 H locs ls hW hl
    have hE : mle t t' := (mm_x11_weight_J56 _ _ ho)
    have hR := hR_of (t0 := t0) hE
    unfold x11_weight_J56 at ho
    refine lv_aload_n hx hb dX11_weight_56 rfl (lv_at hl 0 rfl) ?_
    refine xGET_1105 C0 kw_596 hW dX11_weight_57 ?_
    refine lv_aload_n hx hb dX11_weight_60 rfl (lv_at hl 0 rfl) ?_
    refine xGET_1106 C0 kw_597 hW dX11_weight_61 ?_
    refine xGET_13 C0 kw_400 hW dX11_weight_64 ?_
    refine lv_iconst (v := (0 : Int32)) hx hb dX11_weight_67 (by decide) ?_
    refine lv_aload_n hx hb dX11_weight_68 rfl (lv_at hl 0 rfl) ?_
    refine xGET_1106 C0 kw_597 hW dX11_weight_69 ?_
    refine xGET_6 C0 kw_390 hW dX11_weight_72 ?_
    refine lv_aload_n hx hb dX11_weight_75 rfl (lv_at hl 0 rfl) ?_
    refine xGET_1103 C0 kw_594 hW dX11_weight_76 ?_
    refine xGET_803 C0 kw_277 hW dX11_weight_79 ?_
    obtain ⟨q1, hc2, ho⟩ := bd_some ho
    have hq1 := mm_x2_putThousandths_13 t (0 : Int32) (gI t 6) (gI t 803) _ hc2
    refine bkV C0.1 hW (runVX (As := [.ref (am 13), .int (0 : Int32), .int (gI t 6), .int (gI t 803)]) (rest := []) C0 hW (c_x2_putThousandths_13 l _ t (0 : Int32) (gI t 6) (gI t 803) (t' := q1) hc2) cb_X11_X2_putThousandths_215 2 2 rfl rfl rfl rfl rfl ⟨rfl, rfl⟩ ⟨Nat.le_of_ble_eq_true rfl, Nat.le_of_ble_eq_true rfl⟩ (Nat.le_of_ble_eq_true rfl) hl.1 dX11_weight_82 ⟨hR.1, hR.2⟩) (fun H locs hW => ?_)
    refine lv_aload_n hx hb dX11_weight_85 rfl (lv_at hl 0 rfl) ?_
    refine xGET_1105 C0 kw_596 hW dX11_weight_86 ?_
    obtain ⟨q3, hc4, ho⟩ := bd_some ho
    refine bkZ C0.1 hW (runVX (As := []) (rest := []) C0 hW (c_x2_isZero l _ q1 (r := q3) hc4) cb_X11_X2_isZero_225 2 2 rfl rfl rfl rfl rfl ⟨rfl, rfl⟩ ⟨Nat.le_of_ble_eq_true rfl, Nat.le_of_ble_eq_true rfl⟩ (Nat.le_of_ble_eq_true rfl) hl.1 dX11_weight_89 ⟨hR.1, hR.2⟩) (fun z5 H locs hW => ?_)
    refine lv_if_eq (tgt := 99) hx hb dX11_weight_92 (by decide) (fun c6 => ?_) (fun c6 => ?_)
    · replace ho := ite_t c6 ho
      refine lv_iconst (v := (1 : Int32)) hx hb dX11_weight_99 (by decide) ?_
      refine W_up h0 hq1 ?_
      cases ho
      exact rtIa gm C0.1 hW dX11_weight_100
    · replace ho := ite_f c6 ho
      refine lv_iconst (v := (0 : Int32)) hx hb dX11_weight_95 (by decide) ?_
      refine lv_goto (tgt := 100) hx hb dX11_weight_96 (by decide) ?_
      refine W_up h0 hq1 ?_
      cases ho
      exact rtIa gm C0.1 hW dX11_weight_100
  have J42 : ∀ (gm : Nat → Nat) (t : St) (v2 : Int32) (w0 : Int32) (_ : x11_weight_J42 t v2 w0 = some (r, t')) (_ : mle t0 t) (H : Heap) (locs : List Loc) (ls : Array Slot), wl D A s (wX cI cJ cZ cR am gm t) H locs → lv_has ls 4 [(0, .ref (am 1011)), (2, .int v2)] → W p l e (rmA 6 142 t0 t') s m ([.ref (am 1011), .int a1, .int a2].toArray) below meth c H locs (mC t0 t) (mS t0 t) (MQ below (qIa r D (tyX cI cJ cZ cR) (fun gm => wX cI cJ cZ cR am gm t') A) ([.ref (am 1011), .int a1, .int a2].toArray) s (mC t0 t') (mS t0 t') A) (F0 m 42 ls [.int w0]) := by
    intro gm t v2 w0 ho h0 H locs ls hW hl
    have hE : mle t t' := (mm_x11_weight_J42 _ _ _ _ ho)
    have hR := hR_of (t0 := t0) hE
    unfold x11_weight_J42 at ho
    refine lv_if_ne (tgt := 48) hx hb dX11_weight_42 (by decide) (fun c7 => ?_) (fun c7 => ?_)
    · replace ho := ite_f c7 ho
      refine lv_aload_n hx hb dX11_weight_48 rfl (lv_at hl 0 rfl) ?_
      refine xGET_1106 C0 kw_597 hW dX11_weight_49 ?_
      refine lv_iload_n hx hb dX11_weight_52 rfl (lv_at hl 1 rfl) ?_
      obtain ⟨q8, hc9, ho⟩ := bd_some ho
      have hq8 := mm_x0_workWeight t v2 _ hc9
      have hEq8 := (mm_x11_weight_J56 _ _ ho)
      refine bkVa C0.1 hW h0 hq8 (runVX (As := [.int v2]) (rest := []) C0 hW (c_x0_workWeight l _ t v2 (t' := q8) hc9) cb_X11_X0_workWeight_219 0 0 rfl rfl rfl rfl rfl ⟨rfl, rfl⟩ ⟨Nat.le_of_ble_eq_true rfl, Nat.le_of_ble_eq_true rfl⟩ (Nat.le_of_ble_eq_true rfl) hl.1 dX11_weight_53 (hf_of h0 hq8 hEq8)) (fun gm H locs hW => ?_)
      have h0 := mle.trans h0 hq8
      exact J56 gm _ ho h0 _ _ _ hW (lv_sub hl [0] rfl)
    · replace ho := ite_t c7 ho
      refine lv_bipush (v := (-5 : Int32)) hx hb dX11_weight_45 (by decide) ?_
      cases ho
      exact rtIa gm C0.1 hW dX11_weight_47
  have hE : mle t0 t' := mm_x11_weight _ _ _ _ ho
  have hR := hR_of (t0 := t0) hE
  have h0 : mle t0 t0 := mle.rfl
  refine W_0 (t0 := t0) ?_
  unfold x11_weight at ho
  refine lv_iload_n hx hb dX11_weight_0 rfl (lv_at hl 1 rfl) ?_
  obtain ⟨q10, hc11, ho⟩ := bd_some ho
  refine bkZ C0.1 hW (runSX (As := [.int a1]) (rest := []) C0 hW (c_x11_noNet l _ t0 a1 (r := q10) hc11) cb_X11_X11_noNet_124 rfl rfl ⟨rfl, rfl⟩ ⟨Nat.le_of_ble_eq_true rfl, Nat.le_of_ble_eq_true rfl⟩ (Nat.le_of_ble_eq_true rfl) hl.1 dX11_weight_1 ⟨hR.1, hR.2⟩) (fun z12 H locs hW => ?_)
  refine lv_if_ne (tgt := 14) hx hb dX11_weight_4 (by decide) (fun c13 => ?_) (fun c13 => ?_)
  · replace ho := ite_f c13 ho
    refine lv_bipush (v := (-2 : Int32)) hx hb dX11_weight_14 (by decide) ?_
    cases ho
    exact rtIa gm C0.1 hW dX11_weight_16
  · replace ho := ite_t c13 ho
    refine lv_iload_n hx hb dX11_weight_7 rfl (lv_at hl 2 rfl) ?_
    obtain ⟨q14, hc15, ho⟩ := bd_some ho
    refine bkZ C0.1 hW (runSX (As := [.int a2]) (rest := []) C0 hW (c_x11_noStep l _ t0 a2 (r := q14) hc15) cb_X11_X11_noStep_98 rfl rfl ⟨rfl, rfl⟩ ⟨Nat.le_of_ble_eq_true rfl, Nat.le_of_ble_eq_true rfl⟩ (Nat.le_of_ble_eq_true rfl) hl.1 dX11_weight_8 ⟨hR.1, hR.2⟩) (fun z16 H locs hW => ?_)
    refine lv_if_eq (tgt := 17) hx hb dX11_weight_11 (by decide) (fun c17 => ?_) (fun c17 => ?_)
    · replace ho := ite_t c17 ho
      refine lv_aload_n hx hb dX11_weight_17 rfl (lv_at hl 0 rfl) ?_
      refine xGET_1101 C0 kw_592 hW dX11_weight_18 ?_
      refine xGET_602 C0 kw_184 hW dX11_weight_21 ?_
      refine lv_iload_n hx hb dX11_weight_24 rfl (lv_at hl 1 rfl) ?_
      obtain ⟨g18, ho⟩ := gd_some ho
      refine xLD_602 C0 hW g18 dX11_weight_25 ?_
      refine lv_nmi ho (fun x19 ho => ?_)
      refine lv_istore_n (lv' := [(3, .int x19), (0, .ref (am 1011)), (1, .int a1), (2, .int a2)]) hx hb dX11_weight_26 rfl hl (by decide) rfl (fun ls hl => ?_)
      refine lv_iload_n hx hb dX11_weight_27 rfl (lv_at hl 0 rfl) ?_
      refine lv_if_ge (tgt := 34) hx hb dX11_weight_28 (by decide) (fun c20 => ?_) (fun c20 => ?_)
      · replace ho := ite_t c20 ho
        refine lv_aload_n hx hb dX11_weight_34 rfl (lv_at hl 1 rfl) ?_
        refine xGET_1106 C0 kw_597 hW dX11_weight_35 ?_
        refine lv_iload_n hx hb dX11_weight_38 rfl (lv_at hl 0 rfl) ?_
        obtain ⟨q21, hc22, ho⟩ := bd_some ho
        have hq21 := mm_x0_mayWork t0 x19 _ hc22
        have hEq21 := (mm_x11_weight_J42 _ _ _ _ ho)
        refine bkZa C0.1 hW h0 hq21 (runVX (As := [.int x19]) (rest := []) C0 hW (c_x0_mayWork l _ t0 x19 (r := q21.1) (t' := q21.2) hc22) cb_X11_X0_mayWork_197 0 0 rfl rfl rfl rfl rfl ⟨rfl, rfl⟩ ⟨Nat.le_of_ble_eq_true rfl, Nat.le_of_ble_eq_true rfl⟩ (Nat.le_of_ble_eq_true rfl) hl.1 dX11_weight_39 (hf_of h0 hq21 hEq21)) (fun z23 gm H locs hW => ?_)
        have h0 := mle.trans h0 hq21
        exact J42 gm _ _ _ ho h0 _ _ _ hW (lv_sub hl [1, 3] rfl)
      · replace ho := ite_f c20 ho
        refine lv_bipush (v := (-3 : Int32)) hx hb dX11_weight_31 (by decide) ?_
        cases ho
        exact rtIa gm C0.1 hW dX11_weight_33
    · replace ho := ite_f c17 ho
      refine lv_bipush (v := (-2 : Int32)) hx hb dX11_weight_14 (by decide) ?_
      cases ho
      exact rtIa gm C0.1 hW dX11_weight_16
noncomputable def x0_workSets_B34 (v1 : Int32) (v2 : Int32) (t : St) : Option ((Int32 × St) ⊕ (St)) :=
  if v1 ≤ v2 then (some (.inr t)) else ((x8_bit t v2).bind (fun q2 => if q2 = (1 : Int32) then ((x2_putPower_12 t (v2 * (gI t 6)) (gI t 6) (gI t 803)).bind (fun q8 => nm (v2 + (1 : Int32)) (fun x10 : Int32 => some (.inl (x10, q8))))) else ((x2_wipe_12 t (v2 * (gI t 6)) (gI t 6)).bind (fun q5 => nm (v2 + (1 : Int32)) (fun x7 : Int32 => some (.inl (x7, q5)))))))
theorem mm_x0_workSets_B34 (v1 : Int32) (v2 : Int32) (t : St) : MR (x0_workSets_B34 v1 v2 t) t (Sum.elim (fun (x : Int32 × St) => x.2) (fun (y : St) => y)) := by
  unfold x0_workSets_B34
  exact MR_ite (MR_some mle.rfl) (MR_bindn (fun q2 => MR_ite (MR_bind (mm_x2_putPower_12 t (v2 * (gI t 6)) (gI t 6) (gI t 803)) (fun q8 hq8 => MR_nm (fun x10 _ => MR_some hq8))) (MR_bind (mm_x2_wipe_12 t (v2 * (gI t 6)) (gI t 6)) (fun q5 hq5 => MR_nm (fun x7 _ => MR_some hq5)))))
theorem mm_x0_workSets_L34 (v1 : Int32) (v2 : Int32) (t : St) : MR (lp (fun x => x0_workSets_B34 v1 x.1 x.2) (v2, t)) t (fun (y : St) => y) := MR_lp (p := (fun (x : Int32 × St) => x.2)) (q := (fun (y : St) => y)) (fun x => mm_x0_workSets_B34 v1 x.1 x.2) (v2, t)
noncomputable def x0_workSets_B116 (v1 : Int32) (v2 : Int32) (v3 : Int32) (t : St) : Option ((Int32 × St) ⊕ (St)) :=
  if v1 ≤ v3 then (some (.inr t)) else (if ((v3 >>> (v2 &&& 31)) &&& (1 : Int32)) = 0 then (nm (v3 + (1 : Int32)) (fun x18 : Int32 => some (.inl (x18, t)))) else (nm (v3 * (gI t 6)) (fun x13 : Int32 => gd v2 (gN t 14) ((x2_blend_12 t x13 x13 ((v3 ^^^ ((1 : Int32) <<< (v2 &&& 31))) * (gI t 6)) (gA t 14 (v2).toNatClampNeg) (gI t 6)).bind (fun q15 => nm (v3 + (1 : Int32)) (fun x17 : Int32 => some (.inl (x17, q15))))))))
theorem mm_x0_workSets_B116 (v1 : Int32) (v2 : Int32) (v3 : Int32) (t : St) : MR (x0_workSets_B116 v1 v2 v3 t) t (Sum.elim (fun (x : Int32 × St) => x.2) (fun (y : St) => y)) := by
  unfold x0_workSets_B116
  exact MR_ite (MR_some mle.rfl) (MR_ite (MR_nm (fun x18 _ => MR_some mle.rfl)) (MR_nm (fun x13 _ => MR_gd (MR_bind (mm_x2_blend_12 t x13 x13 ((v3 ^^^ ((1 : Int32) <<< (v2 &&& 31))) * (gI t 6)) (gA t 14 (v2).toNatClampNeg) (gI t 6)) (fun q15 hq15 => MR_nm (fun x17 _ => MR_some hq15))))))
theorem mm_x0_workSets_L116 (v1 : Int32) (v2 : Int32) (v3 : Int32) (t : St) : MR (lp (fun x => x0_workSets_B116 v1 v2 x.1 x.2) (v3, t)) t (fun (y : St) => y) := MR_lp (p := (fun (x : Int32 × St) => x.2)) (q := (fun (y : St) => y)) (fun x => mm_x0_workSets_B116 v1 v2 x.1 x.2) (v3, t)
noncomputable def x0_workSets_B103 (v1 : Int32) (v2 : Int32) (t : St) : Option ((Int32 × St) ⊕ (St)) :=
  if (gI t 803) ≤ v2 then (some (.inr t)) else ((lp (fun x => x0_workSets_B116 v1 v2 x.1 x.2) ((0 : Int32), t)).bind (fun y20 => nm (v2 + (1 : Int32)) (fun x23 : Int32 => some (.inl (x23, y20)))))
theorem mm_x0_workSets_B103 (v1 : Int32) (v2 : Int32) (t : St) : MR (x0_workSets_B103 v1 v2 t) t (Sum.elim (fun (x : Int32 × St) => x.2) (fun (y : St) => y)) := by
  unfold x0_workSets_B103
  exact MR_ite (MR_some mle.rfl) (MR_bind (mm_x0_workSets_L116 v1 v2 (0 : Int32) t) (fun y20 hm21 => MR_nm (fun x23 _ => MR_some hm21)))
theorem mm_x0_workSets_L103 (v1 : Int32) (v2 : Int32) (t : St) : MR (lp (fun x => x0_workSets_B103 v1 x.1 x.2) (v2, t)) t (fun (y : St) => y) := MR_lp (p := (fun (x : Int32 × St) => x.2)) (q := (fun (y : St) => y)) (fun x => mm_x0_workSets_B103 v1 x.1 x.2) (v2, t)
noncomputable def x0_workSets_J27 (t : St) (v1 : Int32) : Option (St) :=
  (x0_takeOdds t (0 : Int32)).bind (fun q24 => (lp (fun x => x0_workSets_B34 v1 x.1 x.2) ((0 : Int32), q24)).bind (fun y26 => (lp (fun x => x0_workSets_B103 v1 x.1 x.2) ((0 : Int32), y26)).bind (fun y29 => some y29)))
theorem mm_x0_workSets_J27 (t : St) (v1 : Int32) : MR (x0_workSets_J27 t v1) t (fun (a : St) => a) := by
  unfold x0_workSets_J27
  exact MR_bind (mm_x0_takeOdds t (0 : Int32)) (fun q24 hq24 => MR_bind (mm_x0_workSets_L34 v1 (0 : Int32) q24) (fun y26 hm27 => MR_bind (mm_x0_workSets_L103 v1 (0 : Int32) y26) (fun y29 hm30 => MR_some (mle.trans (mle.trans hq24 hm27) hm30))))
noncomputable def x0_workSets (t0 : St) : Option (St) :=
  nm ((1 : Int32) <<< ((gI t0 803) &&& 31)) (fun x32 : Int32 => grw t0 12 (x32 * (gI t0 6)) (fun t33 : St => x0_workSets_J27 t33 x32))
theorem mm_x0_workSets (t0 : St) : MR (x0_workSets t0) t0 (fun (a : St) => a) := by
  unfold x0_workSets
  exact MR_nm (fun x32 _ => MR_grw (fun t33 ht33 => MR_wk ht33 (mm_x0_workSets_J27 t33 x32)))
set_option maxHeartbeats 4000000 in
set_option maxRecDepth 100000 in
theorem x0_workSets_L34 {p : Program} {l : Launch} {e : Env} {s : State} {m : MethodId} {args : Array Value} {below : List Frame} {meth : Method} {c : Code} {Q : State → Prop} {D : va_G} {cI cJ cZ cR : ClassId} {am gm : Nat → Nat} {st : Nat} {A : Nat → Prop} (C0 : cxX p s m args meth c cX0_workSets RX0 5 none D (tyX cI cJ cZ cR) st A) {t0 t' : St} {cells slots : Nat} (hR : cells ≤ mC t0 t' ∧ slots ≤ mS t0 t') {v1 : Int32} {y : St} (hK0 : ∀ (H : Heap) (locs : List Loc) (ls : Array Slot), wl D A s (wX cI cJ cZ cR am gm y) H locs → lv_has ls 5 [(0, .ref (am 1000)), (1, .int v1)] → W p l e (rmA 2 50 t0 t') s m args below meth c H locs cells slots Q (F0 m 101 ls [])) :
    ∀ (n : Nat) (v2 : Int32) (t : St), lpn (fun x => x0_workSets_B34 v1 x.1 x.2) n (v2, t) = some y → ∀ (H : Heap) (locs : List Loc) (ls : Array Slot), wl D A s (wX cI cJ cZ cR am gm t) H locs → lv_has ls 5 [(0, .ref (am 1000)), (1, .int v1), (2, .int v2)] → W p l e (rmA 2 50 t0 t') s m args below meth c H locs cells slots Q (F0 m 34 ls []) := by
  have hx := C0.1.1
  have hb := C0.1.2.1
  have hta := C0.1.2.2.2.2.2.1
  have hown := C0.1.2.2.2.2.1
  intro n
  induction n with
  | zero => intro _ _ h; cases h
  | succ n ih =>
    intro v2 t hrun H locs ls hW hl
    obtain ⟨o, ho, hrun⟩ := bd_some hrun
    unfold x0_workSets_B34 at ho
    refine lv_iload_n hx hb dX0_workSets_34 rfl (lv_at hl 2 rfl) ?_
    refine lv_iload_n hx hb dX0_workSets_35 rfl (lv_at hl 1 rfl) ?_
    refine lv_icmp_ge (tgt := 101) hx hb dX0_workSets_36 (by decide) (fun c1 => ?_) (fun c1 => ?_)
    · replace ho := ite_t c1 ho
      cases ho
      cases hrun
      exact hK0 _ _ _ hW (lv_sub hl [0, 1] rfl)
    · replace ho := ite_f c1 ho
      refine lv_aload_n hx hb dX0_workSets_39 rfl (lv_at hl 0 rfl) ?_
      refine xGET_1 C0 kw_383 hW dX0_workSets_40 ?_
      refine lv_iload_n hx hb dX0_workSets_43 rfl (lv_at hl 2 rfl) ?_
      obtain ⟨q2, hc3, ho⟩ := bd_some ho
      refine bkI C0.1 hW (runVX (As := [.int v2]) (rest := []) C0 hW (c_x8_bit l _ t v2 (r := q2) hc3) cb_X0_X8_bit_74 8 8 rfl rfl rfl rfl rfl ⟨rfl, rfl⟩ ⟨Nat.le_of_ble_eq_true rfl, Nat.le_of_ble_eq_true rfl⟩ (Nat.le_of_ble_eq_true rfl) hl.1 dX0_workSets_44 ⟨hR.1, hR.2⟩) (fun H locs hW => ?_)
      refine lv_iconst (v := (1 : Int32)) hx hb dX0_workSets_47 (by decide) ?_
      refine lv_icmp_ne (tgt := 78) hx hb dX0_workSets_48 (by decide) (fun c4 => ?_) (fun c4 => ?_)
      · replace ho := ite_f c4 ho
        refine lv_aload_n hx hb dX0_workSets_78 rfl (lv_at hl 0 rfl) ?_
        refine xGET_12 C0 kw_396 hW dX0_workSets_79 ?_
        refine lv_iload_n hx hb dX0_workSets_82 rfl (lv_at hl 2 rfl) ?_
        refine lv_aload_n hx hb dX0_workSets_83 rfl (lv_at hl 0 rfl) ?_
        refine xGET_6 C0 kw_388 hW dX0_workSets_84 ?_
        refine lv_imul hx hb dX0_workSets_87 ?_
        refine lv_aload_n hx hb dX0_workSets_88 rfl (lv_at hl 0 rfl) ?_
        refine xGET_6 C0 kw_388 hW dX0_workSets_89 ?_
        obtain ⟨q5, hc6, ho⟩ := bd_some ho
        have hq5 := mm_x2_wipe_12 t (v2 * (gI t 6)) (gI t 6) _ hc6
        refine bkV C0.1 hW (runSX (As := [.ref (gm 12), .int (v2 * (gI t 6)), .int (gI t 6)]) (rest := []) C0 hW (c_x2_wipe_12 l _ t (v2 * (gI t 6)) (gI t 6) (t' := q5) hc6) cb_X0_X2_wipe_92 rfl rfl ⟨rfl, rfl⟩ ⟨Nat.le_of_ble_eq_true rfl, Nat.le_of_ble_eq_true rfl⟩ (Nat.le_of_ble_eq_true rfl) hl.1 dX0_workSets_92 ⟨hR.1, hR.2⟩) (fun H locs hW => ?_)
        obtain ⟨x7, ex7, ho⟩ := nm_x ho
        refine lv_iinc (v := x7) (lv' := [(2, .int x7), (0, .ref (am 1000)), (1, .int v1)]) hx hb dX0_workSets_95 hl (k := 2) rfl (by rw [ex7]; rfl) (by decide) rfl (fun ls hl => ?_)
        clear ex7
        refine lv_goto (tgt := 34) hx hb dX0_workSets_98 (by decide) ?_
        cases ho
        exact ih _ _ hrun _ _ _ hW (lv_sub hl [1, 2, 0] rfl)
      · replace ho := ite_t c4 ho
        refine lv_aload_n hx hb dX0_workSets_51 rfl (lv_at hl 0 rfl) ?_
        refine xGET_12 C0 kw_396 hW dX0_workSets_52 ?_
        refine lv_iload_n hx hb dX0_workSets_55 rfl (lv_at hl 2 rfl) ?_
        refine lv_aload_n hx hb dX0_workSets_56 rfl (lv_at hl 0 rfl) ?_
        refine xGET_6 C0 kw_388 hW dX0_workSets_57 ?_
        refine lv_imul hx hb dX0_workSets_60 ?_
        refine lv_aload_n hx hb dX0_workSets_61 rfl (lv_at hl 0 rfl) ?_
        refine xGET_6 C0 kw_388 hW dX0_workSets_62 ?_
        refine lv_aload_n hx hb dX0_workSets_65 rfl (lv_at hl 0 rfl) ?_
        refine xGET_1 C0 kw_383 hW dX0_workSets_66 ?_
        refine xGET_803 C0 kw_275 hW dX0_workSets_69 ?_
        obtain ⟨q8, hc9, ho⟩ := bd_some ho
        have hq8 := mm_x2_putPower_12 t (v2 * (gI t 6)) (gI t 6) (gI t 803) _ hc9
        refine bkV C0.1 hW (runSX (As := [.ref (gm 12), .int (v2 * (gI t 6)), .int (gI t 6), .int (gI t 803)]) (rest := []) C0 hW (c_x2_putPower_12 l _ t (v2 * (gI t 6)) (gI t 6) (gI t 803) (t' := q8) hc9) cb_X0_X2_putPower_112 rfl rfl ⟨rfl, rfl⟩ ⟨Nat.le_of_ble_eq_true rfl, Nat.le_of_ble_eq_true rfl⟩ (Nat.le_of_ble_eq_true rfl) hl.1 dX0_workSets_72 ⟨hR.1, hR.2⟩) (fun H locs hW => ?_)
        refine lv_goto (tgt := 95) hx hb dX0_workSets_75 (by decide) ?_
        obtain ⟨x10, ex10, ho⟩ := nm_x ho
        refine lv_iinc (v := x10) (lv' := [(2, .int x10), (0, .ref (am 1000)), (1, .int v1)]) hx hb dX0_workSets_95 hl (k := 2) rfl (by rw [ex10]; rfl) (by decide) rfl (fun ls hl => ?_)
        clear ex10
        refine lv_goto (tgt := 34) hx hb dX0_workSets_98 (by decide) ?_
        cases ho
        exact ih _ _ hrun _ _ _ hW (lv_sub hl [1, 2, 0] rfl)
set_option maxHeartbeats 4000000 in
set_option maxRecDepth 100000 in
theorem x0_workSets_L116 {p : Program} {l : Launch} {e : Env} {s : State} {m : MethodId} {args : Array Value} {below : List Frame} {meth : Method} {c : Code} {Q : State → Prop} {D : va_G} {cI cJ cZ cR : ClassId} {am gm : Nat → Nat} {st : Nat} {A : Nat → Prop} (C0 : cxX p s m args meth c cX0_workSets RX0 5 none D (tyX cI cJ cZ cR) st A) {t0 t' : St} {cells slots : Nat} (hR : cells ≤ mC t0 t' ∧ slots ≤ mS t0 t') {v1 : Int32} {v2 : Int32} {y : St} (hK0 : ∀ (H : Heap) (locs : List Loc) (ls : Array Slot), wl D A s (wX cI cJ cZ cR am gm y) H locs → lv_has ls 5 [(0, .ref (am 1000)), (1, .int v1), (2, .int v2)] → W p l e (rmA 2 50 t0 t') s m args below meth c H locs cells slots Q (F0 m 177 ls [])) :
    ∀ (n : Nat) (v3 : Int32) (t : St), lpn (fun x => x0_workSets_B116 v1 v2 x.1 x.2) n (v3, t) = some y → ∀ (H : Heap) (locs : List Loc) (ls : Array Slot), wl D A s (wX cI cJ cZ cR am gm t) H locs → lv_has ls 5 [(0, .ref (am 1000)), (1, .int v1), (2, .int v2), (3, .int v3)] → W p l e (rmA 2 50 t0 t') s m args below meth c H locs cells slots Q (F0 m 116 ls []) := by
  have hx := C0.1.1
  have hb := C0.1.2.1
  have hta := C0.1.2.2.2.2.2.1
  have hown := C0.1.2.2.2.2.1
  intro n
  induction n with
  | zero => intro _ _ h; cases h
  | succ n ih =>
    intro v3 t hrun H locs ls hW hl
    obtain ⟨o, ho, hrun⟩ := bd_some hrun
    unfold x0_workSets_B116 at ho
    refine lv_iload_n hx hb dX0_workSets_116 rfl (lv_at hl 3 rfl) ?_
    refine lv_iload_n hx hb dX0_workSets_117 rfl (lv_at hl 1 rfl) ?_
    refine lv_icmp_ge (tgt := 177) hx hb dX0_workSets_118 (by decide) (fun c11 => ?_) (fun c11 => ?_)
    · replace ho := ite_t c11 ho
      cases ho
      cases hrun
      exact hK0 _ _ _ hW (lv_sub hl [0, 1, 2] rfl)
    · replace ho := ite_f c11 ho
      refine lv_iload_n hx hb dX0_workSets_121 rfl (lv_at hl 3 rfl) ?_
      refine lv_iload_n hx hb dX0_workSets_122 rfl (lv_at hl 2 rfl) ?_
      refine lv_ishr hx hb dX0_workSets_123 ?_
      refine lv_iconst (v := (1 : Int32)) hx hb dX0_workSets_124 (by decide) ?_
      refine lv_iand hx hb dX0_workSets_125 ?_
      refine lv_if_ne (tgt := 132) hx hb dX0_workSets_126 (by decide) (fun c12 => ?_) (fun c12 => ?_)
      · replace ho := ite_f c12 ho
        refine lv_iload_n hx hb dX0_workSets_132 rfl (lv_at hl 3 rfl) ?_
        refine lv_aload_n hx hb dX0_workSets_133 rfl (lv_at hl 0 rfl) ?_
        refine xGET_6 C0 kw_388 hW dX0_workSets_134 ?_
        refine lv_imul hx hb dX0_workSets_137 ?_
        refine lv_nmi ho (fun x13 ho => ?_)
        refine lv_istore (lv' := [(4, .int x13), (0, .ref (am 1000)), (1, .int v1), (2, .int v2), (3, .int v3)]) hx hb dX0_workSets_138 hl (by decide) rfl (fun ls hl => ?_)
        refine lv_aload_n hx hb dX0_workSets_140 rfl (lv_at hl 1 rfl) ?_
        refine xGET_12 C0 kw_396 hW dX0_workSets_141 ?_
        refine lv_iload hx hb dX0_workSets_144 (lv_at hl 0 rfl) ?_
        refine lv_iload hx hb dX0_workSets_146 (lv_at hl 0 rfl) ?_
        refine lv_iload_n hx hb dX0_workSets_148 rfl (lv_at hl 4 rfl) ?_
        refine lv_iconst (v := (1 : Int32)) hx hb dX0_workSets_149 (by decide) ?_
        refine lv_iload_n hx hb dX0_workSets_150 rfl (lv_at hl 3 rfl) ?_
        refine lv_ishl hx hb dX0_workSets_151 ?_
        refine lv_ixor hx hb dX0_workSets_152 ?_
        refine lv_aload_n hx hb dX0_workSets_153 rfl (lv_at hl 1 rfl) ?_
        refine xGET_6 C0 kw_388 hW dX0_workSets_154 ?_
        refine lv_imul hx hb dX0_workSets_157 ?_
        refine lv_aload_n hx hb dX0_workSets_158 rfl (lv_at hl 1 rfl) ?_
        refine xGET_14 C0 kw_401 hW dX0_workSets_159 ?_
        refine lv_iload_n hx hb dX0_workSets_162 rfl (lv_at hl 3 rfl) ?_
        obtain ⟨g14, ho⟩ := gd_some ho
        refine xLD_14 C0 hW g14 dX0_workSets_163 ?_
        refine lv_aload_n hx hb dX0_workSets_164 rfl (lv_at hl 1 rfl) ?_
        refine xGET_6 C0 kw_388 hW dX0_workSets_165 ?_
        obtain ⟨q15, hc16, ho⟩ := bd_some ho
        have hq15 := mm_x2_blend_12 t x13 x13 ((v3 ^^^ ((1 : Int32) <<< (v2 &&& 31))) * (gI t 6)) (gA t 14 (v2).toNatClampNeg) (gI t 6) _ hc16
        refine bkV C0.1 hW (runSX (As := [.ref (gm 12), .int x13, .int x13, .int ((v3 ^^^ ((1 : Int32) <<< (v2 &&& 31))) * (gI t 6)), .int (gA t 14 (v2).toNatClampNeg), .int (gI t 6)]) (rest := []) C0 hW (c_x2_blend_12 l _ t x13 x13 ((v3 ^^^ ((1 : Int32) <<< (v2 &&& 31))) * (gI t 6)) (gA t 14 (v2).toNatClampNeg) (gI t 6) (t' := q15) hc16) cb_X0_X2_blend_116 rfl rfl ⟨rfl, rfl⟩ ⟨Nat.le_of_ble_eq_true rfl, Nat.le_of_ble_eq_true rfl⟩ (Nat.le_of_ble_eq_true rfl) hl.1 dX0_workSets_168 ⟨hR.1, hR.2⟩) (fun H locs hW => ?_)
        obtain ⟨x17, ex17, ho⟩ := nm_x ho
        refine lv_iinc (v := x17) (lv' := [(3, .int x17), (4, .int x13), (0, .ref (am 1000)), (1, .int v1), (2, .int v2)]) hx hb dX0_workSets_171 hl (k := 4) rfl (by rw [ex17]; rfl) (by decide) rfl (fun ls hl => ?_)
        clear ex17
        refine lv_goto (tgt := 116) hx hb dX0_workSets_174 (by decide) ?_
        cases ho
        exact ih _ _ hrun _ _ _ hW (lv_sub hl [2, 3, 4, 0] rfl)
      · replace ho := ite_t c12 ho
        refine lv_goto (tgt := 171) hx hb dX0_workSets_129 (by decide) ?_
        obtain ⟨x18, ex18, ho⟩ := nm_x ho
        refine lv_iinc (v := x18) (lv' := [(3, .int x18), (0, .ref (am 1000)), (1, .int v1), (2, .int v2)]) hx hb dX0_workSets_171 hl (k := 3) rfl (by rw [ex18]; rfl) (by decide) rfl (fun ls hl => ?_)
        clear ex18
        refine lv_goto (tgt := 116) hx hb dX0_workSets_174 (by decide) ?_
        cases ho
        exact ih _ _ hrun _ _ _ hW (lv_sub hl [1, 2, 3, 0] rfl)
set_option maxHeartbeats 4000000 in
set_option maxRecDepth 100000 in
theorem x0_workSets_L103 {p : Program} {l : Launch} {e : Env} {s : State} {m : MethodId} {args : Array Value} {below : List Frame} {meth : Method} {c : Code} {Q : State → Prop} {D : va_G} {cI cJ cZ cR : ClassId} {am gm : Nat → Nat} {st : Nat} {A : Nat → Prop} (C0 : cxX p s m args meth c cX0_workSets RX0 5 none D (tyX cI cJ cZ cR) st A) {t0 t' : St} {cells slots : Nat} (hR : cells ≤ mC t0 t' ∧ slots ≤ mS t0 t') {v1 : Int32} {y : St} (hK0 : ∀ (H : Heap) (locs : List Loc) (ls : Array Slot), wl D A s (wX cI cJ cZ cR am gm y) H locs → lv_has ls 5 [(0, .ref (am 1000))] → W p l e (rmA 2 50 t0 t') s m args below meth c H locs cells slots Q (F0 m 183 ls [])) :
    ∀ (n : Nat) (v2 : Int32) (t : St), lpn (fun x => x0_workSets_B103 v1 x.1 x.2) n (v2, t) = some y → ∀ (H : Heap) (locs : List Loc) (ls : Array Slot), wl D A s (wX cI cJ cZ cR am gm t) H locs → lv_has ls 5 [(0, .ref (am 1000)), (1, .int v1), (2, .int v2)] → W p l e (rmA 2 50 t0 t') s m args below meth c H locs cells slots Q (F0 m 103 ls []) := by
  have hx := C0.1.1
  have hb := C0.1.2.1
  have hta := C0.1.2.2.2.2.2.1
  have hown := C0.1.2.2.2.2.1
  intro n
  induction n with
  | zero => intro _ _ h; cases h
  | succ n ih =>
    intro v2 t hrun H locs ls hW hl
    obtain ⟨o, ho, hrun⟩ := bd_some hrun
    unfold x0_workSets_B103 at ho
    refine lv_iload_n hx hb dX0_workSets_103 rfl (lv_at hl 2 rfl) ?_
    refine lv_aload_n hx hb dX0_workSets_104 rfl (lv_at hl 0 rfl) ?_
    refine xGET_1 C0 kw_383 hW dX0_workSets_105 ?_
    refine xGET_803 C0 kw_275 hW dX0_workSets_108 ?_
    refine lv_icmp_ge (tgt := 183) hx hb dX0_workSets_111 (by decide) (fun c19 => ?_) (fun c19 => ?_)
    · replace ho := ite_t c19 ho
      cases ho
      cases hrun
      exact hK0 _ _ _ hW (lv_sub hl [0] rfl)
    · replace ho := ite_f c19 ho
      refine lv_iconst (v := (0 : Int32)) hx hb dX0_workSets_114 (by decide) ?_
      refine lv_istore_n (lv' := [(3, .int (0 : Int32)), (0, .ref (am 1000)), (1, .int v1), (2, .int v2)]) hx hb dX0_workSets_115 rfl hl (by decide) rfl (fun ls hl => ?_)
      obtain ⟨y20, hc22, ho⟩ := bd_some ho
      have hm21 := mm_x0_workSets_L116 v1 v2 (0 : Int32) t _ hc22
      obtain ⟨ny20, hc22⟩ := lp_to hc22
      refine x0_workSets_L116 C0 hR ?_ ny20 _ _ hc22 _ _ _ hW (lv_sub hl [1, 2, 3, 0] rfl)
      intro H locs ls hW hl
      obtain ⟨x23, ex23, ho⟩ := nm_x ho
      refine lv_iinc (v := x23) (lv' := [(2, .int x23), (0, .ref (am 1000)), (1, .int v1)]) hx hb dX0_workSets_177 hl (k := 2) rfl (by rw [ex23]; rfl) (by decide) rfl (fun ls hl => ?_)
      clear ex23
      refine lv_goto (tgt := 103) hx hb dX0_workSets_180 (by decide) ?_
      cases ho
      exact ih _ _ hrun _ _ _ hW (lv_sub hl [1, 2, 0] rfl)
set_option maxHeartbeats 4000000 in
set_option maxRecDepth 100000 in
theorem c_x0_workSets (l : Launch) {D : va_G} {cI cJ cZ cR : ClassId} {am gm : Nat → Nat} {st : Nat} (sz : Nat) (t0 : St) {t' : St} (ho : x0_workSets t0 = some t') : Met l yX0_workSets (.code yX0_workSets cX0_workSets 5 none :: wsAll) (rmA 2 50 t0 t') (va_Pc [.ref (am 1000)] (prX D (tyX cI cJ cZ cR) (wX cI cJ cZ cR am gm t0) sz st)) (qVa D (tyX cI cJ cZ cR) (fun gm => wX cI cJ cZ cR am gm t') (va_A (wX cI cJ cZ cR am gm t0) sz)) (mC t0 t') (mS t0 t') (va_A (wX cI cJ cZ cR am gm t0) sz) := by
  refine Met.ofW (cc := cX0_workSets) (maxL := 5) (ret := none) (by decide) rfl ?_
  intro p e s m args below meth c s₁ B hml hv
  obtain ⟨rfl, ⟨hsz, hP, hK, hD0⟩, hsx⟩ := hv
  have hx := B.exec
  have hb := B.bytes
  have hts := atoms_spec (ws := (.code yX0_workSets cX0_workSets 5 none :: wsAll)) B.pre
  have hta := fun w h => hts w (List.mem_cons_of_mem _ h)
  have hown : s.vm.findClass RX0 = some m.cls := findClass_of_methodNamed B.named
  have hlocks := B.notSynchronized
  subst hsz
  have hD := hD0.self (sz := s.heap.size)
  generalize hAe : va_A (wX cI cJ cZ cR am gm t0) s.heap.size = A at hD ⊢
  have hA : ∀ q : Nat, s.heap.size ≤ q → A q := fun q h => by rw [← hAe]; exact Or.inr h
  have C0 : cxX p s m ([.ref (am 1000)].toArray) meth c cX0_workSets RX0 5 none D (tyX cI cJ cZ cR) st A := ⟨⟨hx, hb, B.returns, hml, hown, hta, hlocks, hK, hA⟩, by rw [← hAe]; exact hsx⟩
  have hW : wl D A s (wX cI cJ cZ cR am gm t0) s.heap [] := ⟨hP, hD, va_S.rf⟩
  have hl := lv_entry [.ref (am 1000)] (n := 5) (Nat.le_of_ble_eq_true rfl)
  rw [lg_entry_eq]
  generalize (lg_sl [.ref (am 1000)] ++ List.replicate (5 - (lg_sl [.ref (am 1000)]).length) Slot.unset).toArray = ls at hl ⊢
  have hl : lv_has ls 5 [(0, .ref (am 1000))] := hl
  clear hAe hD hP hD0 hts
  have J27 : ∀ (gm : Nat → Nat) (t : St) (v1 : Int32) (_ : x0_workSets_J27 t v1 = some t') (_ : mle t0 t) (H : Heap) (locs : List Loc) (ls : Array Slot), wl D A s (wX cI cJ cZ cR am gm t) H locs → lv_has ls 5 [(0, .ref (am 1000)), (1, .int v1)] → W p l e (rmA 2 50 t0 t') s m ([.ref (am 1000)].toArray) below meth c H locs (mC t0 t) (mS t0 t) (MQ below (qVa D (tyX cI cJ cZ cR) (fun gm => wX cI cJ cZ cR am gm t') A) ([.ref (am 1000)].toArray) s (mC t0 t') (mS t0 t') A) (F0 m 27 ls []) := by
    intro gm t v1 ho h0 H locs ls hW hl
    have hE : mle t t' := (mm_x0_workSets_J27 _ _ _ ho)
    have hR := hR_of (t0 := t0) hE
    unfold x0_workSets_J27 at ho
    refine lv_aload_n hx hb dX0_workSets_27 rfl (lv_at hl 0 rfl) ?_
    refine lv_iconst (v := (0 : Int32)) hx hb dX0_workSets_28 (by decide) ?_
    obtain ⟨q24, hc25, ho⟩ := bd_some ho
    have hq24 := mm_x0_takeOdds t (0 : Int32) _ hc25
    refine bkV C0.1 hW (runVX (As := [.int (0 : Int32)]) (rest := []) C0 hW (c_x0_takeOdds l _ t (0 : Int32) (t' := q24) hc25) cb_X0_X0_takeOdds_129 0 0 rfl rfl rfl rfl rfl ⟨rfl, rfl⟩ ⟨Nat.le_of_ble_eq_true rfl, Nat.le_of_ble_eq_true rfl⟩ (Nat.le_of_ble_eq_true rfl) hl.1 dX0_workSets_29 ⟨hR.1, hR.2⟩) (fun H locs hW => ?_)
    refine lv_iconst (v := (0 : Int32)) hx hb dX0_workSets_32 (by decide) ?_
    refine lv_istore_n (lv' := [(2, .int (0 : Int32)), (0, .ref (am 1000)), (1, .int v1)]) hx hb dX0_workSets_33 rfl hl (by decide) rfl (fun ls hl => ?_)
    obtain ⟨y26, hc28, ho⟩ := bd_some ho
    have hm27 := mm_x0_workSets_L34 v1 (0 : Int32) q24 _ hc28
    obtain ⟨ny26, hc28⟩ := lp_to hc28
    refine x0_workSets_L34 C0 hR ?_ ny26 _ _ hc28 _ _ _ hW (lv_sub hl [1, 2, 0] rfl)
    intro H locs ls hW hl
    refine lv_iconst (v := (0 : Int32)) hx hb dX0_workSets_101 (by decide) ?_
    refine lv_istore_n (lv' := [(2, .int (0 : Int32)), (0, .ref (am 1000)), (1, .int v1)]) hx hb dX0_workSets_102 rfl hl (by decide) rfl (fun ls hl => ?_)
    obtain ⟨y29, hc31, ho⟩ := bd_some ho
    have hm30 := mm_x0_workSets_L103 v1 (0 : Int32) y26 _ hc31
    obtain ⟨ny29, hc31⟩ := lp_to hc31
    refine x0_workSets_L103 C0 hR ?_ ny29 _ _ hc31 _ _ _ hW (lv_sub hl [1, 2, 0] rfl)
    intro H locs ls hW hl
    refine W_up h0 (mle.trans (mle.trans hq24 hm27) hm30) ?_
    cases ho
    exact rtVa gm C0.1 hW dX0_workSets_183
  have hE : mle t0 t' := mm_x0_workSets _ _ ho
  have hR := hR_of (t0 := t0) hE
  have h0 : mle t0 t0 := mle.rfl
  refine W_0 (t0 := t0) ?_
  unfold x0_workSets at ho
  refine lv_iconst (v := (1 : Int32)) hx hb dX0_workSets_0 (by decide) ?_
  refine lv_aload_n hx hb dX0_workSets_1 rfl (lv_at hl 0 rfl) ?_
  refine xGET_1 C0 kw_383 hW dX0_workSets_2 ?_
  refine xGET_803 C0 kw_275 hW dX0_workSets_5 ?_
  refine lv_ishl hx hb dX0_workSets_8 ?_
  refine lv_nmi ho (fun x32 ho => ?_)
  refine lv_istore_n (lv' := [(1, .int x32), (0, .ref (am 1000))]) hx hb dX0_workSets_9 rfl hl (by decide) rfl (fun ls hl => ?_)
  refine lv_aload_n hx hb dX0_workSets_10 rfl (lv_at hl 1 rfl) ?_
  refine lv_aload_n hx hb dX0_workSets_11 rfl (lv_at hl 1 rfl) ?_
  refine xGET_12 C0 kw_396 hW dX0_workSets_12 ?_
  refine lv_iload_n hx hb dX0_workSets_15 rfl (lv_at hl 0 rfl) ?_
  refine lv_aload_n hx hb dX0_workSets_16 rfl (lv_at hl 1 rfl) ?_
  refine xGET_6 C0 kw_388 hW dX0_workSets_17 ?_
  refine lv_imul hx hb dX0_workSets_20 ?_
  obtain ⟨t33, g34, ho⟩ := grw_some ho
  have ht33 := g34.mle
  have hEt33 := (mm_x0_workSets_J27 _ _ _ ho)
  refine xGROW_12 (rest := []) C0 cb_X0_X2_grown_88 kw_396 hl.1 hW g34 h0 hEt33 (Nat.le_of_ble_eq_true rfl) (Nat.le_of_ble_eq_true rfl) (Nat.le_of_ble_eq_true rfl) dX0_workSets_21 dX0_workSets_24 (fun gm H locs hW => ?_)
  have h0 := mle.trans h0 ht33
  exact J27 gm _ _ ho h0 _ _ _ hW (lv_sub hl [1, 0] rfl)
noncomputable def x2_compareRows_12_B5 (t : St) (v1 : Int32) (v2 : Int32) (v4 : Int32) : Option ((Int32) ⊕ ((Int32) ⊕ (Unit))) :=
  if v4 < 0 then (some (.inr (.inr ()))) else (gd (v1 + v4) (gN t 12) (gd (v2 + v4) (gN t 12) (if (gA t 12 ((v1 + v4)).toNatClampNeg) = (gA t 12 ((v2 + v4)).toNatClampNeg) then (nm (v4 + (-1 : Int32)) (fun x5 : Int32 => some (.inl x5))) else (some (.inr (.inl v4))))))
noncomputable def x2_compareRows_12 (t : St) (a1 : Int32) (a2 : Int32) (a3 : Int32) : Option (Int32) :=
  nm (a3 - (1 : Int32)) (fun x6 : Int32 => (lp (fun x => x2_compareRows_12_B5 t a1 a2 x) x6).bind (fun y7 => (Sum.elim (fun u10 => gd (a1 + u10) (gN t 12) (gd (a2 + u10) (gN t 12) (if (gA t 12 ((a2 + u10)).toNatClampNeg) ≤ (gA t 12 ((a1 + u10)).toNatClampNeg) then (some (1 : Int32)) else (some (-1 : Int32))))) (fun u10 => some (0 : Int32))) y7))
set_option maxHeartbeats 4000000 in
set_option maxRecDepth 100000 in
theorem x2_compareRows_12_L5 {p : Program} {l : Launch} {e : Env} {s : State} {m : MethodId} {args : Array Value} {below : List Frame} {meth : Method} {c : Code} {Q : State → Prop} {D : va_G} {cI cJ cZ cR : ClassId} {am gm : Nat → Nat} {st : Nat} {A : Nat → Prop} (C0 : cxX p s m args meth c cX2_compareRows RX2 5 (some .int) D (tyX cI cJ cZ cR) st A) {t : St} {v1 : Int32} {v2 : Int32} {y : (Int32) ⊕ (Unit)} (hK0 : ∀ u, y = (.inl u) → ∀ (H : Heap) (locs : List Loc) (ls : Array Slot), wl D A s (wX cI cJ cZ cR am gm t) H locs → lv_has ls 5 [(0, .ref (gm 12)), (1, .int v1), (2, .int v2), (4, .int u)] → W p l e (rmN 0 0) s m args below meth c H locs 0 0 Q (F0 m 25 ls [])) (hK1 : ∀ u, y = (.inr u) → ∀ (H : Heap) (locs : List Loc) (ls : Array Slot), wl D A s (wX cI cJ cZ cR am gm t) H locs → lv_has ls 5 [] → W p l e (rmN 0 0) s m args below meth c H locs 0 0 Q (F0 m 52 ls [])) :
    ∀ (n : Nat) (v4 : Int32), lpn (fun x => x2_compareRows_12_B5 t v1 v2 x) n v4 = some y → ∀ (H : Heap) (locs : List Loc) (ls : Array Slot), wl D A s (wX cI cJ cZ cR am gm t) H locs → lv_has ls 5 [(0, .ref (gm 12)), (1, .int v1), (2, .int v2), (4, .int v4)] → W p l e (rmN 0 0) s m args below meth c H locs 0 0 Q (F0 m 5 ls []) := by
  have hx := C0.1.1
  have hb := C0.1.2.1
  have hta := C0.1.2.2.2.2.2.1
  have hown := C0.1.2.2.2.2.1
  intro n
  induction n with
  | zero => intro _ h; cases h
  | succ n ih =>
    intro v4 hrun H locs ls hW hl
    obtain ⟨o, ho, hrun⟩ := bd_some hrun
    unfold x2_compareRows_12_B5 at ho
    refine lv_iload hx hb dX2_compareRows_5 (lv_at hl 3 rfl) ?_
    refine lv_if_lt (tgt := 52) hx hb dX2_compareRows_7 (by decide) (fun c1 => ?_) (fun c1 => ?_)
    · replace ho := ite_t c1 ho
      cases ho
      cases hrun
      exact hK1 _ rfl _ _ _ hW (lv_sub hl [] rfl)
    · replace ho := ite_f c1 ho
      refine lv_aload_n hx hb dX2_compareRows_10 rfl (lv_at hl 0 rfl) ?_
      refine lv_iload_n hx hb dX2_compareRows_11 rfl (lv_at hl 1 rfl) ?_
      refine lv_iload hx hb dX2_compareRows_12 (lv_at hl 3 rfl) ?_
      refine lv_iadd hx hb dX2_compareRows_14 ?_
      obtain ⟨g2, ho⟩ := gd_some ho
      refine xLD_12 C0 hW g2 dX2_compareRows_15 ?_
      refine lv_aload_n hx hb dX2_compareRows_16 rfl (lv_at hl 0 rfl) ?_
      refine lv_iload_n hx hb dX2_compareRows_17 rfl (lv_at hl 2 rfl) ?_
      refine lv_iload hx hb dX2_compareRows_18 (lv_at hl 3 rfl) ?_
      refine lv_iadd hx hb dX2_compareRows_20 ?_
      obtain ⟨g3, ho⟩ := gd_some ho
      refine xLD_12 C0 hW g3 dX2_compareRows_21 ?_
      refine lv_icmp_eq (tgt := 46) hx hb dX2_compareRows_22 (by decide) (fun c4 => ?_) (fun c4 => ?_)
      · replace ho := ite_t c4 ho
        obtain ⟨x5, ex5, ho⟩ := nm_x ho
        refine lv_iinc (v := x5) (lv' := [(4, .int x5), (0, .ref (gm 12)), (1, .int v1), (2, .int v2)]) hx hb dX2_compareRows_46 hl (k := 3) rfl (by rw [ex5]; rfl) (by decide) rfl (fun ls hl => ?_)
        clear ex5
        refine lv_goto (tgt := 5) hx hb dX2_compareRows_49 (by decide) ?_
        cases ho
        exact ih _ hrun _ _ _ hW (lv_sub hl [1, 2, 3, 0] rfl)
      · replace ho := ite_f c4 ho
        cases ho
        cases hrun
        exact hK0 _ rfl _ _ _ hW (lv_sub hl [0, 1, 2, 3] rfl)
set_option maxHeartbeats 4000000 in
set_option maxRecDepth 100000 in
theorem c_x2_compareRows_12 (l : Launch) {D : va_G} {cI cJ cZ cR : ClassId} {am gm : Nat → Nat} {st : Nat} (sz : Nat) (t : St) (a1 : Int32) (a2 : Int32) (a3 : Int32) {r : Int32} (ho : x2_compareRows_12 t a1 a2 a3 = some r) : Met l yX2_compareRows (.code yX2_compareRows cX2_compareRows 5 (some .int) :: wsAll) (rmN 0 0) (va_Pc [.ref (gm 12), .int a1, .int a2, .int a3] (prX D (tyX cI cJ cZ cR) (wX cI cJ cZ cR am gm t) sz st)) (qI r D (tyX cI cJ cZ cR) (wX cI cJ cZ cR am gm t) (va_A (wX cI cJ cZ cR am gm t) sz)) 0 0 (va_A (wX cI cJ cZ cR am gm t) sz) := by
  refine Met.ofW (cc := cX2_compareRows) (maxL := 5) (ret := (some .int)) (by decide) rfl ?_
  intro p e s m args below meth c s₁ B hml hv
  obtain ⟨rfl, ⟨hsz, hP, hK, hD0⟩, hsx⟩ := hv
  have hx := B.exec
  have hb := B.bytes
  have hts := atoms_spec (ws := (.code yX2_compareRows cX2_compareRows 5 (some .int) :: wsAll)) B.pre
  have hta := fun w h => hts w (List.mem_cons_of_mem _ h)
  have hown : s.vm.findClass RX2 = some m.cls := findClass_of_methodNamed B.named
  have hlocks := B.notSynchronized
  subst hsz
  have hD := hD0.self (sz := s.heap.size)
  generalize hAe : va_A (wX cI cJ cZ cR am gm t) s.heap.size = A at hD ⊢
  have hA : ∀ q : Nat, s.heap.size ≤ q → A q := fun q h => by rw [← hAe]; exact Or.inr h
  have C0 : cxX p s m ([.ref (gm 12), .int a1, .int a2, .int a3].toArray) meth c cX2_compareRows RX2 5 (some .int) D (tyX cI cJ cZ cR) st A := ⟨⟨hx, hb, B.returns, hml, hown, hta, hlocks, hK, hA⟩, by rw [← hAe]; exact hsx⟩
  have hW : wl D A s (wX cI cJ cZ cR am gm t) s.heap [] := ⟨hP, hD, va_S.rf⟩
  have hl := lv_entry [.ref (gm 12), .int a1, .int a2, .int a3] (n := 5) (Nat.le_of_ble_eq_true rfl)
  rw [lg_entry_eq]
  generalize (lg_sl [.ref (gm 12), .int a1, .int a2, .int a3] ++ List.replicate (5 - (lg_sl [.ref (gm 12), .int a1, .int a2, .int a3]).length) Slot.unset).toArray = ls at hl ⊢
  have hl : lv_has ls 5 [(0, .ref (gm 12)), (1, .int a1), (2, .int a2), (3, .int a3)] := hl
  unfold x2_compareRows_12 at ho
  refine lv_iload_n hx hb dX2_compareRows_0 rfl (lv_at hl 3 rfl) ?_
  refine lv_iconst (v := (1 : Int32)) hx hb dX2_compareRows_1 (by decide) ?_
  refine lv_isub hx hb dX2_compareRows_2 ?_
  refine lv_nmi ho (fun x6 ho => ?_)
  refine lv_istore (lv' := [(4, .int x6), (0, .ref (gm 12)), (1, .int a1), (2, .int a2), (3, .int a3)]) hx hb dX2_compareRows_3 hl (by decide) rfl (fun ls hl => ?_)
  obtain ⟨y7, hc9, ho⟩ := bd_some ho
  obtain ⟨ny7, hc9⟩ := lp_to hc9
  refine x2_compareRows_12_L5 C0 ?_ ?_ ny7 _ hc9 _ _ _ hW (lv_sub hl [1, 2, 3, 0] rfl)
  · intro u10 hy H locs ls hW hl
    subst hy
    replace ho := sum_l ho
    refine lv_aload_n hx hb dX2_compareRows_25 rfl (lv_at hl 0 rfl) ?_
    refine lv_iload_n hx hb dX2_compareRows_26 rfl (lv_at hl 1 rfl) ?_
    refine lv_iload hx hb dX2_compareRows_27 (lv_at hl 3 rfl) ?_
    refine lv_iadd hx hb dX2_compareRows_29 ?_
    obtain ⟨g11, ho⟩ := gd_some ho
    refine xLD_12 C0 hW g11 dX2_compareRows_30 ?_
    refine lv_aload_n hx hb dX2_compareRows_31 rfl (lv_at hl 0 rfl) ?_
    refine lv_iload_n hx hb dX2_compareRows_32 rfl (lv_at hl 2 rfl) ?_
    refine lv_iload hx hb dX2_compareRows_33 (lv_at hl 3 rfl) ?_
    refine lv_iadd hx hb dX2_compareRows_35 ?_
    obtain ⟨g12, ho⟩ := gd_some ho
    refine xLD_12 C0 hW g12 dX2_compareRows_36 ?_
    refine lv_icmp_ge (tgt := 44) hx hb dX2_compareRows_37 (by decide) (fun c13 => ?_) (fun c13 => ?_)
    · replace ho := ite_t c13 ho
      refine lv_iconst (v := (1 : Int32)) hx hb dX2_compareRows_44 (by decide) ?_
      cases ho
      exact rtI C0.1 hW dX2_compareRows_45
    · replace ho := ite_f c13 ho
      refine lv_iconst (v := (-1 : Int32)) hx hb dX2_compareRows_40 (by decide) ?_
      refine lv_goto (tgt := 45) hx hb dX2_compareRows_41 (by decide) ?_
      cases ho
      exact rtI C0.1 hW dX2_compareRows_45
  · intro u10 hy H locs ls hW hl
    subst hy
    replace ho := sum_r ho
    refine lv_iconst (v := (0 : Int32)) hx hb dX2_compareRows_52 (by decide) ?_
    cases ho
    exact rtI C0.1 hW dX2_compareRows_53
noncomputable def x0_bestSet_J95 (t : St) (v1 : Int32) (v4 : Int32) (v5 : Int32) : Option ((Int32 × Int32 × Int32) ⊕ (Int32)) :=
  nm (v4 + (1 : Int32)) (fun x1 : Int32 => some (.inl (v4, v5, x1)))
noncomputable def x0_bestSet_B11 (t : St) (v1 : Int32) (v2 : Int32) (v3 : Int32) (v4 : Int32) : Option ((Int32 × Int32 × Int32) ⊕ (Int32)) :=
  if ((1 : Int32) <<< ((gI t 803) &&& 31)) ≤ v4 then (some (.inr v2)) else ((x8_widened t v4).bind (fun q3 => (x5_sumOf t q3 (0 : Int32)).bind (fun q5 => if q5 ≤ v1 then ((x2_compareRows_12 t (v4 * (gI t 6)) (v2 * (gI t 6)) (gI t 6)).bind (fun q8 => if 0 < q8 then (x0_bestSet_J95 t v1 v4 q5) else (if q8 = 0 then (if v3 ≤ q5 then (nm (v4 + (1 : Int32)) (fun x14 : Int32 => some (.inl (v2, v3, x14)))) else (x0_bestSet_J95 t v1 v4 q5)) else (nm (v4 + (1 : Int32)) (fun x12 : Int32 => some (.inl (v2, v3, x12))))))) else (nm (v4 + (1 : Int32)) (fun x15 : Int32 => some (.inl (v2, v3, x15)))))))
noncomputable def x0_bestSet_J4 (t : St) (v1 : Int32) : Option (Int32 × St) :=
  (lp (fun x => x0_bestSet_B11 t v1 x.1 x.2.1 x.2.2) ((0 : Int32), (0 : Int32), (1 : Int32))).bind (fun y16 => some (y16, t))
theorem mm_x0_bestSet_J4 (t : St) (v1 : Int32) : MR (x0_bestSet_J4 t v1) t (fun (a : Int32 × St) => a.2) := by
  unfold x0_bestSet_J4
  exact MR_bindn (fun y16 => MR_some mle.rfl)
noncomputable def x0_bestSet (t0 : St) (a1 : Int32) : Option (Int32 × St) :=
  (x0_workSets t0).bind (fun q19 => x0_bestSet_J4 q19 a1)
theorem mm_x0_bestSet (t0 : St) (a1 : Int32) : MR (x0_bestSet t0 a1) t0 (fun (a : Int32 × St) => a.2) := by
  unfold x0_bestSet
  exact MR_bind (mm_x0_workSets t0) (fun q19 hq19 => MR_wk hq19 (mm_x0_bestSet_J4 q19 a1))
set_option maxHeartbeats 4000000 in
set_option maxRecDepth 100000 in
theorem x0_bestSet_L11 {p : Program} {l : Launch} {e : Env} {s : State} {m : MethodId} {args : Array Value} {below : List Frame} {meth : Method} {c : Code} {Q : State → Prop} {D : va_G} {cI cJ cZ cR : ClassId} {am gm : Nat → Nat} {st : Nat} {A : Nat → Prop} (C0 : cxX p s m args meth c cX0_bestSet RX0 7 (some .int) D (tyX cI cJ cZ cR) st A) {t0 t' : St} {cells slots : Nat} (hR : cells ≤ mC t0 t' ∧ slots ≤ mS t0 t') {t : St} {v1 : Int32} {y : Int32} (hK0 : ∀ (H : Heap) (locs : List Loc) (ls : Array Slot), wl D A s (wX cI cJ cZ cR am gm t) H locs → lv_has ls 7 [(0, .ref (am 1000)), (2, .int y)] → W p l e (rmA 3 74 t0 t') s m args below meth c H locs cells slots Q (F0 m 107 ls [])) :
    ∀ (n : Nat) (v2 : Int32) (v3 : Int32) (v4 : Int32), lpn (fun x => x0_bestSet_B11 t v1 x.1 x.2.1 x.2.2) n (v2, v3, v4) = some y → ∀ (H : Heap) (locs : List Loc) (ls : Array Slot), wl D A s (wX cI cJ cZ cR am gm t) H locs → lv_has ls 7 [(0, .ref (am 1000)), (1, .int v1), (2, .int v2), (3, .int v3), (4, .int v4)] → W p l e (rmA 3 74 t0 t') s m args below meth c H locs cells slots Q (F0 m 11 ls []) := by
  have hx := C0.1.1
  have hb := C0.1.2.1
  have hta := C0.1.2.2.2.2.2.1
  have hown := C0.1.2.2.2.2.1
  intro n
  induction n with
  | zero => intro _ _ _ h; cases h
  | succ n ih =>
    intro v2 v3 v4 hrun H locs ls hW hl
    obtain ⟨o, ho, hrun⟩ := bd_some hrun
    have J95 : ∀ (v4 : Int32) (v5 : Int32) (_ : x0_bestSet_J95 t v1 v4 v5 = some o) (H : Heap) (locs : List Loc) (ls : Array Slot), wl D A s (wX cI cJ cZ cR am gm t) H locs → lv_has ls 7 [(0, .ref (am 1000)), (1, .int v1), (4, .int v4), (5, .int v5)] → W p l e (rmA 3 74 t0 t') s m args below meth c H locs cells slots Q (F0 m 95 ls []) := by
      intro v4 v5 ho H locs ls hW hl
      unfold x0_bestSet_J95 at ho
      refine lv_iload hx hb dX0_bestSet_95 (lv_at hl 2 rfl) ?_
      refine lv_istore_n (lv' := [(2, .int v4), (0, .ref (am 1000)), (1, .int v1), (4, .int v4), (5, .int v5)]) hx hb dX0_bestSet_97 rfl hl (by decide) rfl (fun ls hl => ?_)
      refine lv_iload hx hb dX0_bestSet_98 (lv_at hl 4 rfl) ?_
      refine lv_istore_n (lv' := [(3, .int v5), (2, .int v4), (0, .ref (am 1000)), (1, .int v1), (4, .int v4), (5, .int v5)]) hx hb dX0_bestSet_100 rfl hl (by decide) rfl (fun ls hl => ?_)
      obtain ⟨x1, ex1, ho⟩ := nm_x ho
      refine lv_iinc (v := x1) (lv' := [(4, .int x1), (3, .int v5), (2, .int v4), (0, .ref (am 1000)), (1, .int v1), (5, .int v5)]) hx hb dX0_bestSet_101 hl (k := 4) rfl (by rw [ex1]; rfl) (by decide) rfl (fun ls hl => ?_)
      clear ex1
      refine lv_goto (tgt := 11) hx hb dX0_bestSet_104 (by decide) ?_
      cases ho
      exact ih _ _ _ hrun _ _ _ hW (lv_sub hl [3, 4, 2, 1, 0] rfl)
    unfold x0_bestSet_B11 at ho
    refine lv_iload hx hb dX0_bestSet_11 (lv_at hl 4 rfl) ?_
    refine lv_iconst (v := (1 : Int32)) hx hb dX0_bestSet_13 (by decide) ?_
    refine lv_aload_n hx hb dX0_bestSet_14 rfl (lv_at hl 0 rfl) ?_
    refine xGET_1 C0 kw_383 hW dX0_bestSet_15 ?_
    refine xGET_803 C0 kw_275 hW dX0_bestSet_18 ?_
    refine lv_ishl hx hb dX0_bestSet_21 ?_
    refine lv_icmp_ge (tgt := 107) hx hb dX0_bestSet_22 (by decide) (fun c2 => ?_) (fun c2 => ?_)
    · replace ho := ite_t c2 ho
      cases ho
      cases hrun
      exact hK0 _ _ _ hW (lv_sub hl [0, 2] rfl)
    · replace ho := ite_f c2 ho
      refine lv_aload_n hx hb dX0_bestSet_25 rfl (lv_at hl 0 rfl) ?_
      refine xGET_0 C0 kw_382 hW dX0_bestSet_26 ?_
      refine lv_aload_n hx hb dX0_bestSet_29 rfl (lv_at hl 0 rfl) ?_
      refine xGET_1 C0 kw_383 hW dX0_bestSet_30 ?_
      refine lv_iload hx hb dX0_bestSet_33 (lv_at hl 4 rfl) ?_
      obtain ⟨q3, hc4, ho⟩ := bd_some ho
      refine bkI C0.1 hW (runVX (As := [.int v4]) (rest := [.ref (am 1005)]) C0 hW (c_x8_widened l _ t v4 (r := q3) hc4) cb_X0_X8_widened_151 8 8 rfl rfl rfl rfl rfl ⟨rfl, rfl⟩ ⟨Nat.le_of_ble_eq_true rfl, Nat.le_of_ble_eq_true rfl⟩ (Nat.le_of_ble_eq_true rfl) hl.1 dX0_bestSet_35 ⟨hR.1, hR.2⟩) (fun H locs hW => ?_)
      refine lv_iconst (v := (0 : Int32)) hx hb dX0_bestSet_38 (by decide) ?_
      obtain ⟨q5, hc6, ho⟩ := bd_some ho
      refine bkI C0.1 hW (runVX (As := [.int q3, .int (0 : Int32)]) (rest := []) C0 hW (c_x5_sumOf l _ t q3 (0 : Int32) (r := q5) hc6) cb_X0_X5_sumOf_154 5 5 rfl rfl rfl rfl rfl ⟨rfl, rfl⟩ ⟨Nat.le_of_ble_eq_true rfl, Nat.le_of_ble_eq_true rfl⟩ (Nat.le_of_ble_eq_true rfl) hl.1 dX0_bestSet_39 ⟨hR.1, hR.2⟩) (fun H locs hW => ?_)
      refine lv_istore (lv' := [(5, .int q5), (0, .ref (am 1000)), (1, .int v1), (2, .int v2), (3, .int v3), (4, .int v4)]) hx hb dX0_bestSet_42 hl (by decide) rfl (fun ls hl => ?_)
      refine lv_iload hx hb dX0_bestSet_44 (lv_at hl 0 rfl) ?_
      refine lv_iload_n hx hb dX0_bestSet_46 rfl (lv_at hl 2 rfl) ?_
      refine lv_icmp_le (tgt := 53) hx hb dX0_bestSet_47 (by decide) (fun c7 => ?_) (fun c7 => ?_)
      · replace ho := ite_t c7 ho
        refine lv_aload_n hx hb dX0_bestSet_53 rfl (lv_at hl 1 rfl) ?_
        refine xGET_12 C0 kw_396 hW dX0_bestSet_54 ?_
        refine lv_iload hx hb dX0_bestSet_57 (lv_at hl 5 rfl) ?_
        refine lv_aload_n hx hb dX0_bestSet_59 rfl (lv_at hl 1 rfl) ?_
        refine xGET_6 C0 kw_388 hW dX0_bestSet_60 ?_
        refine lv_imul hx hb dX0_bestSet_63 ?_
        refine lv_iload_n hx hb dX0_bestSet_64 rfl (lv_at hl 3 rfl) ?_
        refine lv_aload_n hx hb dX0_bestSet_65 rfl (lv_at hl 1 rfl) ?_
        refine xGET_6 C0 kw_388 hW dX0_bestSet_66 ?_
        refine lv_imul hx hb dX0_bestSet_69 ?_
        refine lv_aload_n hx hb dX0_bestSet_70 rfl (lv_at hl 1 rfl) ?_
        refine xGET_6 C0 kw_388 hW dX0_bestSet_71 ?_
        obtain ⟨q8, hc9, ho⟩ := bd_some ho
        refine bkI C0.1 hW (runSX (As := [.ref (gm 12), .int (v4 * (gI t 6)), .int (v2 * (gI t 6)), .int (gI t 6)]) (rest := []) C0 hW (c_x2_compareRows_12 l _ t (v4 * (gI t 6)) (v2 * (gI t 6)) (gI t 6) (r := q8) hc9) cb_X0_X2_compareRows_157 rfl rfl ⟨rfl, rfl⟩ ⟨Nat.le_of_ble_eq_true rfl, Nat.le_of_ble_eq_true rfl⟩ (Nat.le_of_ble_eq_true rfl) hl.1 dX0_bestSet_74 ⟨hR.1, hR.2⟩) (fun H locs hW => ?_)
        refine lv_istore (lv' := [(6, .int q8), (5, .int q5), (0, .ref (am 1000)), (1, .int v1), (2, .int v2), (3, .int v3), (4, .int v4)]) hx hb dX0_bestSet_77 hl (by decide) rfl (fun ls hl => ?_)
        refine lv_iload hx hb dX0_bestSet_79 (lv_at hl 0 rfl) ?_
        refine lv_if_gt (tgt := 95) hx hb dX0_bestSet_81 (by decide) (fun c10 => ?_) (fun c10 => ?_)
        · replace ho := ite_t c10 ho
          exact J95 _ _ ho _ _ _ hW (lv_sub hl [2, 3, 6, 1] rfl)
        · replace ho := ite_f c10 ho
          refine lv_iload hx hb dX0_bestSet_84 (lv_at hl 0 rfl) ?_
          refine lv_if_ne (tgt := 101) hx hb dX0_bestSet_86 (by decide) (fun c11 => ?_) (fun c11 => ?_)
          · replace ho := ite_f c11 ho
            obtain ⟨x12, ex12, ho⟩ := nm_x ho
            refine lv_iinc (v := x12) (lv' := [(4, .int x12), (6, .int q8), (5, .int q5), (0, .ref (am 1000)), (1, .int v1), (2, .int v2), (3, .int v3)]) hx hb dX0_bestSet_101 hl (k := 6) rfl (by rw [ex12]; rfl) (by decide) rfl (fun ls hl => ?_)
            clear ex12
            refine lv_goto (tgt := 11) hx hb dX0_bestSet_104 (by decide) ?_
            cases ho
            exact ih _ _ _ hrun _ _ _ hW (lv_sub hl [3, 4, 5, 6, 0] rfl)
          · replace ho := ite_t c11 ho
            refine lv_iload hx hb dX0_bestSet_89 (lv_at hl 1 rfl) ?_
            refine lv_iload_n hx hb dX0_bestSet_91 rfl (lv_at hl 5 rfl) ?_
            refine lv_icmp_ge (tgt := 101) hx hb dX0_bestSet_92 (by decide) (fun c13 => ?_) (fun c13 => ?_)
            · replace ho := ite_t c13 ho
              obtain ⟨x14, ex14, ho⟩ := nm_x ho
              refine lv_iinc (v := x14) (lv' := [(4, .int x14), (6, .int q8), (5, .int q5), (0, .ref (am 1000)), (1, .int v1), (2, .int v2), (3, .int v3)]) hx hb dX0_bestSet_101 hl (k := 6) rfl (by rw [ex14]; rfl) (by decide) rfl (fun ls hl => ?_)
              clear ex14
              refine lv_goto (tgt := 11) hx hb dX0_bestSet_104 (by decide) ?_
              cases ho
              exact ih _ _ _ hrun _ _ _ hW (lv_sub hl [3, 4, 5, 6, 0] rfl)
            · replace ho := ite_f c13 ho
              exact J95 _ _ ho _ _ _ hW (lv_sub hl [2, 3, 6, 1] rfl)
      · replace ho := ite_f c7 ho
        refine lv_goto (tgt := 101) hx hb dX0_bestSet_50 (by decide) ?_
        obtain ⟨x15, ex15, ho⟩ := nm_x ho
        refine lv_iinc (v := x15) (lv' := [(4, .int x15), (5, .int q5), (0, .ref (am 1000)), (1, .int v1), (2, .int v2), (3, .int v3)]) hx hb dX0_bestSet_101 hl (k := 5) rfl (by rw [ex15]; rfl) (by decide) rfl (fun ls hl => ?_)
        clear ex15
        refine lv_goto (tgt := 11) hx hb dX0_bestSet_104 (by decide) ?_
        cases ho
        exact ih _ _ _ hrun _ _ _ hW (lv_sub hl [2, 3, 4, 5, 0] rfl)
set_option maxHeartbeats 4000000 in
set_option maxRecDepth 100000 in
theorem c_x0_bestSet (l : Launch) {D : va_G} {cI cJ cZ cR : ClassId} {am gm : Nat → Nat} {st : Nat} (sz : Nat) (t0 : St) (a1 : Int32) {r : Int32} {t' : St} (ho : x0_bestSet t0 a1 = some (r, t')) : Met l yX0_bestSet (.code yX0_bestSet cX0_bestSet 7 (some .int) :: wsAll) (rmA 3 74 t0 t') (va_Pc [.ref (am 1000), .int a1] (prX D (tyX cI cJ cZ cR) (wX cI cJ cZ cR am gm t0) sz st)) (qIa r D (tyX cI cJ cZ cR) (fun gm => wX cI cJ cZ cR am gm t') (va_A (wX cI cJ cZ cR am gm t0) sz)) (mC t0 t') (mS t0 t') (va_A (wX cI cJ cZ cR am gm t0) sz) := by
  refine Met.ofW (cc := cX0_bestSet) (maxL := 7) (ret := (some .int)) (by decide) rfl ?_
  intro p e s m args below meth c s₁ B hml hv
  obtain ⟨rfl, ⟨hsz, hP, hK, hD0⟩, hsx⟩ := hv
  have hx := B.exec
  have hb := B.bytes
  have hts := atoms_spec (ws := (.code yX0_bestSet cX0_bestSet 7 (some .int) :: wsAll)) B.pre
  have hta := fun w h => hts w (List.mem_cons_of_mem _ h)
  have hown : s.vm.findClass RX0 = some m.cls := findClass_of_methodNamed B.named
  have hlocks := B.notSynchronized
  subst hsz
  have hD := hD0.self (sz := s.heap.size)
  generalize hAe : va_A (wX cI cJ cZ cR am gm t0) s.heap.size = A at hD ⊢
  have hA : ∀ q : Nat, s.heap.size ≤ q → A q := fun q h => by rw [← hAe]; exact Or.inr h
  have C0 : cxX p s m ([.ref (am 1000), .int a1].toArray) meth c cX0_bestSet RX0 7 (some .int) D (tyX cI cJ cZ cR) st A := ⟨⟨hx, hb, B.returns, hml, hown, hta, hlocks, hK, hA⟩, by rw [← hAe]; exact hsx⟩
  have hW : wl D A s (wX cI cJ cZ cR am gm t0) s.heap [] := ⟨hP, hD, va_S.rf⟩
  have hl := lv_entry [.ref (am 1000), .int a1] (n := 7) (Nat.le_of_ble_eq_true rfl)
  rw [lg_entry_eq]
  generalize (lg_sl [.ref (am 1000), .int a1] ++ List.replicate (7 - (lg_sl [.ref (am 1000), .int a1]).length) Slot.unset).toArray = ls at hl ⊢
  have hl : lv_has ls 7 [(0, .ref (am 1000)), (1, .int a1)] := hl
  clear hAe hD hP hD0 hts
  have J4 : ∀ (gm : Nat → Nat) (t : St) (v1 : Int32) (_ : x0_bestSet_J4 t v1 = some (r, t')) (_ : mle t0 t) (H : Heap) (locs : List Loc) (ls : Array Slot), wl D A s (wX cI cJ cZ cR am gm t) H locs → lv_has ls 7 [(0, .ref (am 1000)), (1, .int v1)] → W p l e (rmA 3 74 t0 t') s m ([.ref (am 1000), .int a1].toArray) below meth c H locs (mC t0 t) (mS t0 t) (MQ below (qIa r D (tyX cI cJ cZ cR) (fun gm => wX cI cJ cZ cR am gm t') A) ([.ref (am 1000), .int a1].toArray) s (mC t0 t') (mS t0 t') A) (F0 m 4 ls []) := by
    intro gm t v1 ho h0 H locs ls hW hl
    have hE : mle t t' := (mm_x0_bestSet_J4 _ _ _ ho)
    have hR := hR_of (t0 := t0) hE
    unfold x0_bestSet_J4 at ho
    refine lv_iconst (v := (0 : Int32)) hx hb dX0_bestSet_4 (by decide) ?_
    refine lv_istore_n (lv' := [(2, .int (0 : Int32)), (0, .ref (am 1000)), (1, .int v1)]) hx hb dX0_bestSet_5 rfl hl (by decide) rfl (fun ls hl => ?_)
    refine lv_iconst (v := (0 : Int32)) hx hb dX0_bestSet_6 (by decide) ?_
    refine lv_istore_n (lv' := [(3, .int (0 : Int32)), (2, .int (0 : Int32)), (0, .ref (am 1000)), (1, .int v1)]) hx hb dX0_bestSet_7 rfl hl (by decide) rfl (fun ls hl => ?_)
    refine lv_iconst (v := (1 : Int32)) hx hb dX0_bestSet_8 (by decide) ?_
    refine lv_istore (lv' := [(4, .int (1 : Int32)), (3, .int (0 : Int32)), (2, .int (0 : Int32)), (0, .ref (am 1000)), (1, .int v1)]) hx hb dX0_bestSet_9 hl (by decide) rfl (fun ls hl => ?_)
    obtain ⟨y16, hc18, ho⟩ := bd_some ho
    obtain ⟨ny16, hc18⟩ := lp_to hc18
    refine x0_bestSet_L11 C0 hR ?_ ny16 _ _ _ hc18 _ _ _ hW (lv_sub hl [3, 4, 2, 1, 0] rfl)
    intro H locs ls hW hl
    refine lv_iload_n hx hb dX0_bestSet_107 rfl (lv_at hl 1 rfl) ?_
    cases ho
    exact rtIa gm C0.1 hW dX0_bestSet_108
  have hE : mle t0 t' := mm_x0_bestSet _ _ _ ho
  have hR := hR_of (t0 := t0) hE
  have h0 : mle t0 t0 := mle.rfl
  refine W_0 (t0 := t0) ?_
  unfold x0_bestSet at ho
  refine lv_aload_n hx hb dX0_bestSet_0 rfl (lv_at hl 0 rfl) ?_
  obtain ⟨q19, hc20, ho⟩ := bd_some ho
  have hq19 := mm_x0_workSets t0 _ hc20
  have hEq19 := (mm_x0_bestSet_J4 _ _ _ ho)
  refine bkVa C0.1 hW h0 hq19 (runVX (As := []) (rest := []) C0 hW (c_x0_workSets l _ t0 (t' := q19) hc20) cb_X0_X0_workSets_148 0 0 rfl rfl rfl rfl rfl ⟨rfl, rfl⟩ ⟨Nat.le_of_ble_eq_true rfl, Nat.le_of_ble_eq_true rfl⟩ (Nat.le_of_ble_eq_true rfl) hl.1 dX0_bestSet_1 (hf_of h0 hq19 hEq19)) (fun gm H locs hW => ?_)
  have h0 := mle.trans h0 hq19
  exact J4 gm _ _ ho h0 _ _ _ hW (lv_sub hl [0, 1] rfl)
noncomputable def x11_best_J77 (t : St) (w0 : Int32) : Option (Int32 × St) :=
  (x2_putThousandths_12 t (w0 * (gI t 6)) (gI t 6) (gI t 803)).bind (fun q1 => (x8_widened q1 w0).bind (fun q3 => some (q3, q1)))
theorem mm_x11_best_J77 (t : St) (w0 : Int32) : MR (x11_best_J77 t w0) t (fun (a : Int32 × St) => a.2) := by
  unfold x11_best_J77
  exact MR_bind (mm_x2_putThousandths_12 t (w0 * (gI t 6)) (gI t 6) (gI t 803)) (fun q1 hq1 => MR_bindn (fun q3 => MR_some hq1))
noncomputable def x11_best_J63 (t : St) (v2 : Int32) (w0 : Int32) : Option (Int32 × St) :=
  if w0 = 0 then (some ((-5 : Int32), t)) else ((x0_bestSet t v2).bind (fun q6 => x11_best_J77 q6.2 q6.1))
theorem mm_x11_best_J63 (t : St) (v2 : Int32) (w0 : Int32) : MR (x11_best_J63 t v2 w0) t (fun (a : Int32 × St) => a.2) := by
  unfold x11_best_J63
  exact MR_ite (MR_some mle.rfl) (MR_bind (mm_x0_bestSet t v2) (fun q6 hq6 => MR_wk hq6 (mm_x11_best_J77 q6.2 q6.1)))
noncomputable def x11_best (t0 : St) (a1 : Int32) (a2 : Int32) : Option (Int32 × St) :=
  (x11_noNet t0 a1).bind (fun q8 => if q8 = 0 then ((x11_outside t0 a2 (0 : Int32) (16000 : Int32)).bind (fun q12 => if q12 = 0 then (gd a1 (gN t0 602) (nm (gA t0 602 (a1).toNatClampNeg) (fun x17 : Int32 => if x17 < 0 then (some ((-3 : Int32), t0)) else (gd x17 (gN t0 607) ((j6_bitCount_0f7a4 t0 (gA t0 607 (x17).toNatClampNeg)).bind (fun q20 => if q20 ≤ (12 : Int32) then ((x0_mayWork t0 x17).bind (fun q23 => x11_best_J63 q23.2 a2 q23.1)) else (some ((-3 : Int32), t0)))))))) else (some ((-2 : Int32), t0)))) else (some ((-2 : Int32), t0)))
theorem mm_x11_best (t0 : St) (a1 : Int32) (a2 : Int32) : MR (x11_best t0 a1 a2) t0 (fun (a : Int32 × St) => a.2) := by
  unfold x11_best
  exact MR_bindn (fun q8 => MR_ite (MR_bindn (fun q12 => MR_ite (MR_gd (MR_nm (fun x17 _ => MR_ite (MR_some mle.rfl) (MR_gd (MR_bindn (fun q20 => MR_ite (MR_bind (mm_x0_mayWork t0 x17) (fun q23 hq23 => MR_wk hq23 (mm_x11_best_J63 q23.2 a2 q23.1))) (MR_some mle.rfl))))))) (MR_some mle.rfl))) (MR_some mle.rfl))
set_option maxHeartbeats 4000000 in
set_option maxRecDepth 100000 in
theorem c_x11_best (l : Launch) {D : va_G} {cI cJ cZ cR : ClassId} {am gm : Nat → Nat} {st : Nat} (sz : Nat) (t0 : St) (a1 : Int32) (a2 : Int32) {r : Int32} {t' : St} (ho : x11_best t0 a1 a2 = some (r, t')) : Met l yX11_best (.code yX11_best cX11_best 5 (some .int) :: wsAll) (rmA 6 142 t0 t') (va_Pc [.ref (am 1011), .int a1, .int a2] (prX D (tyX cI cJ cZ cR) (wX cI cJ cZ cR am gm t0) sz st)) (qIa r D (tyX cI cJ cZ cR) (fun gm => wX cI cJ cZ cR am gm t') (va_A (wX cI cJ cZ cR am gm t0) sz)) (mC t0 t') (mS t0 t') (va_A (wX cI cJ cZ cR am gm t0) sz) := by
  refine Met.ofW (cc := cX11_best) (maxL := 5) (ret := (some .int)) (by decide) rfl ?_
  intro p e s m args below meth c s₁ B hml hv
  obtain ⟨rfl, ⟨hsz, hP, hK, hD0⟩, hsx⟩ := hv
  have hx := B.exec
  have hb := B.bytes
  have hts := atoms_spec (ws := (.code yX11_best cX11_best 5 (some .int) :: wsAll)) B.pre
  have hta := fun w h => hts w (List.mem_cons_of_mem _ h)
  have hown : s.vm.findClass RX11 = some m.cls := findClass_of_methodNamed B.named
  have hlocks := B.notSynchronized
  subst hsz
  have hD := hD0.self (sz := s.heap.size)
  generalize hAe : va_A (wX cI cJ cZ cR am gm t0) s.heap.size = A at hD ⊢
  have hA : ∀ q : Nat, s.heap.size ≤ q → A q := fun q h => by rw [← hAe]; exact Or.inr h
  have C0 : cxX p s m ([.ref (am 1011), .int a1, .int a2].toArray) meth c cX11_best RX11 5 (some .int) D (tyX cI cJ cZ cR) st A := ⟨⟨hx, hb, B.returns, hml, hown, hta, hlocks, hK, hA⟩, by rw [← hAe]; exact hsx⟩
  have hW : wl D A s (wX cI cJ cZ cR am gm t0) s.heap [] := ⟨hP, hD, va_S.rf⟩
  have hl := lv_entry [.ref (am 1011), .int a1, .int a2] (n := 5) (Nat.le_of_ble_eq_true rfl)
  rw [lg_entry_eq]
  generalize (lg_sl [.ref (am 1011), .int a1, .int a2] ++ List.replicate (5 - (lg_sl [.ref (am 1011), .int a1, .int a2]).length) Slot.unset).toArray = ls at hl ⊢
  have hl : lv_has ls 5 [(0, .ref (am 1011)), (1, .int a1), (2, .int a2)] := hl
  clear hAe hD hP hD0 hts
  have J77 : ∀ (gm : Nat → Nat) (t : St) (w0 : Int32) (_ : x11_best_J77 t w0 = some (r, t')) (_ : mle t0 t) (H : Heap) (locs : List Loc) (ls : Array Slot), wl D A s (wX cI cJ cZ cR am gm t) H locs → lv_has ls 5 [(0, .ref (am 1011))] → W p l e (rmA 6 142 t0 t') s m ([.ref (am 1011), .int a1, .int a2].toArray) below meth c H locs (mC t0 t) (mS t0 t) (MQ below (qIa r D (tyX cI cJ cZ cR) (fun gm => wX cI cJ cZ cR am gm t') A) ([.ref (am 1011), .int a1, .int a2].toArray) s (mC t0 t') (mS t0 t') A) (F0 m 77 ls [.int w0]) := by
    intro gm t w0 ho h0 H locs ls hW hl
    have hE : mle t t' := (mm_x11_best_J77 _ _ _ ho)
    have hR := hR_of (t0 := t0) hE
    unfold x11_best_J77 at ho
    refine lv_istore (lv' := [(4, .int w0), (0, .ref (am 1011))]) hx hb dX11_best_77 hl (by decide) rfl (fun ls hl => ?_)
    refine lv_aload_n hx hb dX11_best_79 rfl (lv_at hl 1 rfl) ?_
    refine xGET_1105 C0 kw_596 hW dX11_best_80 ?_
    refine lv_aload_n hx hb dX11_best_83 rfl (lv_at hl 1 rfl) ?_
    refine xGET_1106 C0 kw_597 hW dX11_best_84 ?_
    refine xGET_12 C0 kw_398 hW dX11_best_87 ?_
    refine lv_iload hx hb dX11_best_90 (lv_at hl 0 rfl) ?_
    refine lv_aload_n hx hb dX11_best_92 rfl (lv_at hl 1 rfl) ?_
    refine xGET_1106 C0 kw_597 hW dX11_best_93 ?_
    refine xGET_6 C0 kw_390 hW dX11_best_96 ?_
    refine lv_imul hx hb dX11_best_99 ?_
    refine lv_aload_n hx hb dX11_best_100 rfl (lv_at hl 1 rfl) ?_
    refine xGET_1106 C0 kw_597 hW dX11_best_101 ?_
    refine xGET_6 C0 kw_390 hW dX11_best_104 ?_
    refine lv_aload_n hx hb dX11_best_107 rfl (lv_at hl 1 rfl) ?_
    refine xGET_1103 C0 kw_594 hW dX11_best_108 ?_
    refine xGET_803 C0 kw_277 hW dX11_best_111 ?_
    obtain ⟨q1, hc2, ho⟩ := bd_some ho
    have hq1 := mm_x2_putThousandths_12 t (w0 * (gI t 6)) (gI t 6) (gI t 803) _ hc2
    refine bkV C0.1 hW (runVX (As := [.ref (gm 12), .int (w0 * (gI t 6)), .int (gI t 6), .int (gI t 803)]) (rest := []) C0 hW (c_x2_putThousandths_12 l _ t (w0 * (gI t 6)) (gI t 6) (gI t 803) (t' := q1) hc2) cb_X11_X2_putThousandths_215 2 2 rfl rfl rfl rfl rfl ⟨rfl, rfl⟩ ⟨Nat.le_of_ble_eq_true rfl, Nat.le_of_ble_eq_true rfl⟩ (Nat.le_of_ble_eq_true rfl) hl.1 dX11_best_114 ⟨hR.1, hR.2⟩) (fun H locs hW => ?_)
    refine lv_aload_n hx hb dX11_best_117 rfl (lv_at hl 1 rfl) ?_
    refine xGET_1103 C0 kw_594 hW dX11_best_118 ?_
    refine lv_iload hx hb dX11_best_121 (lv_at hl 0 rfl) ?_
    obtain ⟨q3, hc4, ho⟩ := bd_some ho
    refine bkI C0.1 hW (runVX (As := [.int w0]) (rest := []) C0 hW (c_x8_widened l _ q1 w0 (r := q3) hc4) cb_X11_X8_widened_237 8 8 rfl rfl rfl rfl rfl ⟨rfl, rfl⟩ ⟨Nat.le_of_ble_eq_true rfl, Nat.le_of_ble_eq_true rfl⟩ (Nat.le_of_ble_eq_true rfl) hl.1 dX11_best_123 ⟨hR.1, hR.2⟩) (fun H locs hW => ?_)
    refine W_up h0 hq1 ?_
    cases ho
    exact rtIa gm C0.1 hW dX11_best_126
  have J63 : ∀ (gm : Nat → Nat) (t : St) (v2 : Int32) (w0 : Int32) (_ : x11_best_J63 t v2 w0 = some (r, t')) (_ : mle t0 t) (H : Heap) (locs : List Loc) (ls : Array Slot), wl D A s (wX cI cJ cZ cR am gm t) H locs → lv_has ls 5 [(0, .ref (am 1011)), (2, .int v2)] → W p l e (rmA 6 142 t0 t') s m ([.ref (am 1011), .int a1, .int a2].toArray) below meth c H locs (mC t0 t) (mS t0 t) (MQ below (qIa r D (tyX cI cJ cZ cR) (fun gm => wX cI cJ cZ cR am gm t') A) ([.ref (am 1011), .int a1, .int a2].toArray) s (mC t0 t') (mS t0 t') A) (F0 m 63 ls [.int w0]) := by
    intro gm t v2 w0 ho h0 H locs ls hW hl
    have hE : mle t t' := (mm_x11_best_J63 _ _ _ _ ho)
    have hR := hR_of (t0 := t0) hE
    unfold x11_best_J63 at ho
    refine lv_if_ne (tgt := 69) hx hb dX11_best_63 (by decide) (fun c5 => ?_) (fun c5 => ?_)
    · replace ho := ite_f c5 ho
      refine lv_aload_n hx hb dX11_best_69 rfl (lv_at hl 0 rfl) ?_
      refine xGET_1106 C0 kw_597 hW dX11_best_70 ?_
      refine lv_iload_n hx hb dX11_best_73 rfl (lv_at hl 1 rfl) ?_
      obtain ⟨q6, hc7, ho⟩ := bd_some ho
      have hq6 := mm_x0_bestSet t v2 _ hc7
      have hEq6 := (mm_x11_best_J77 _ _ _ ho)
      refine bkIa C0.1 hW h0 hq6 (runVX (As := [.int v2]) (rest := []) C0 hW (c_x0_bestSet l _ t v2 (r := q6.1) (t' := q6.2) hc7) cb_X11_X0_bestSet_234 0 0 rfl rfl rfl rfl rfl ⟨rfl, rfl⟩ ⟨Nat.le_of_ble_eq_true rfl, Nat.le_of_ble_eq_true rfl⟩ (Nat.le_of_ble_eq_true rfl) hl.1 dX11_best_74 (hf_of h0 hq6 hEq6)) (fun gm H locs hW => ?_)
      have h0 := mle.trans h0 hq6
      exact J77 gm _ _ ho h0 _ _ _ hW (lv_sub hl [0] rfl)
    · replace ho := ite_t c5 ho
      refine lv_bipush (v := (-5 : Int32)) hx hb dX11_best_66 (by decide) ?_
      cases ho
      exact rtIa gm C0.1 hW dX11_best_68
  have hE : mle t0 t' := mm_x11_best _ _ _ _ ho
  have hR := hR_of (t0 := t0) hE
  have h0 : mle t0 t0 := mle.rfl
  refine W_0 (t0 := t0) ?_
  unfold x11_best at ho
  refine lv_iload_n hx hb dX11_best_0 rfl (lv_at hl 1 rfl) ?_
  obtain ⟨q8, hc9, ho⟩ := bd_some ho
  refine bkZ C0.1 hW (runSX (As := [.int a1]) (rest := []) C0 hW (c_x11_noNet l _ t0 a1 (r := q8) hc9) cb_X11_X11_noNet_124 rfl rfl ⟨rfl, rfl⟩ ⟨Nat.le_of_ble_eq_true rfl, Nat.le_of_ble_eq_true rfl⟩ (Nat.le_of_ble_eq_true rfl) hl.1 dX11_best_1 ⟨hR.1, hR.2⟩) (fun z10 H locs hW => ?_)
  refine lv_if_ne (tgt := 18) hx hb dX11_best_4 (by decide) (fun c11 => ?_) (fun c11 => ?_)
  · replace ho := ite_f c11 ho
    refine lv_bipush (v := (-2 : Int32)) hx hb dX11_best_18 (by decide) ?_
    cases ho
    exact rtIa gm C0.1 hW dX11_best_20
  · replace ho := ite_t c11 ho
    refine lv_iload_n hx hb dX11_best_7 rfl (lv_at hl 2 rfl) ?_
    refine lv_iconst (v := (0 : Int32)) hx hb dX11_best_8 (by decide) ?_
    refine lv_sipush (v := (16000 : Int32)) hx hb dX11_best_9 (by decide) ?_
    obtain ⟨q12, hc13, ho⟩ := bd_some ho
    refine bkZ C0.1 hW (runSX (As := [.int a2, .int (0 : Int32), .int (16000 : Int32)]) (rest := []) C0 hW (c_x11_outside l _ t0 a2 (0 : Int32) (16000 : Int32) (r := q12) hc13) cb_X11_X11_outside_102 rfl rfl ⟨rfl, rfl⟩ ⟨Nat.le_of_ble_eq_true rfl, Nat.le_of_ble_eq_true rfl⟩ (Nat.le_of_ble_eq_true rfl) hl.1 dX11_best_12 ⟨hR.1, hR.2⟩) (fun z14 H locs hW => ?_)
    refine lv_if_eq (tgt := 21) hx hb dX11_best_15 (by decide) (fun c15 => ?_) (fun c15 => ?_)
    · replace ho := ite_t c15 ho
      refine lv_aload_n hx hb dX11_best_21 rfl (lv_at hl 0 rfl) ?_
      refine xGET_1101 C0 kw_592 hW dX11_best_22 ?_
      refine xGET_602 C0 kw_184 hW dX11_best_25 ?_
      refine lv_iload_n hx hb dX11_best_28 rfl (lv_at hl 1 rfl) ?_
      obtain ⟨g16, ho⟩ := gd_some ho
      refine xLD_602 C0 hW g16 dX11_best_29 ?_
      refine lv_nmi ho (fun x17 ho => ?_)
      refine lv_istore_n (lv' := [(3, .int x17), (0, .ref (am 1011)), (1, .int a1), (2, .int a2)]) hx hb dX11_best_30 rfl hl (by decide) rfl (fun ls hl => ?_)
      refine lv_iload_n hx hb dX11_best_31 rfl (lv_at hl 0 rfl) ?_
      refine lv_if_lt (tgt := 52) hx hb dX11_best_32 (by decide) (fun c18 => ?_) (fun c18 => ?_)
      · replace ho := ite_t c18 ho
        refine lv_bipush (v := (-3 : Int32)) hx hb dX11_best_52 (by decide) ?_
        cases ho
        exact rtIa gm C0.1 hW dX11_best_54
      · replace ho := ite_f c18 ho
        refine lv_aload_n hx hb dX11_best_35 rfl (lv_at hl 1 rfl) ?_
        refine xGET_1101 C0 kw_592 hW dX11_best_36 ?_
        refine xGET_607 C0 kw_201 hW dX11_best_39 ?_
        refine lv_iload_n hx hb dX11_best_42 rfl (lv_at hl 0 rfl) ?_
        obtain ⟨g19, ho⟩ := gd_some ho
        refine xLD_607 C0 hW g19 dX11_best_43 ?_
        obtain ⟨q20, hc21, ho⟩ := bd_some ho
        refine bkI C0.1 hW (runSX (As := [.int (gA t0 607 (x17).toNatClampNeg)]) (rest := []) C0 hW (c_j6_bitCount_0f7a4 l _ t0 (gA t0 607 (x17).toNatClampNeg) (r := q20) hc21) cb_X11_J6_bitCount_0f7a4_229 rfl rfl ⟨rfl, rfl⟩ ⟨Nat.le_of_ble_eq_true rfl, Nat.le_of_ble_eq_true rfl⟩ (Nat.le_of_ble_eq_true rfl) hl.1 dX11_best_44 ⟨hR.1, hR.2⟩) (fun H locs hW => ?_)
        refine lv_bipush (v := (12 : Int32)) hx hb dX11_best_47 (by decide) ?_
        refine lv_icmp_le (tgt := 55) hx hb dX11_best_49 (by decide) (fun c22 => ?_) (fun c22 => ?_)
        · replace ho := ite_t c22 ho
          refine lv_aload_n hx hb dX11_best_55 rfl (lv_at hl 1 rfl) ?_
          refine xGET_1106 C0 kw_597 hW dX11_best_56 ?_
          refine lv_iload_n hx hb dX11_best_59 rfl (lv_at hl 0 rfl) ?_
          obtain ⟨q23, hc24, ho⟩ := bd_some ho
          have hq23 := mm_x0_mayWork t0 x17 _ hc24
          have hEq23 := (mm_x11_best_J63 _ _ _ _ ho)
          refine bkZa C0.1 hW h0 hq23 (runVX (As := [.int x17]) (rest := []) C0 hW (c_x0_mayWork l _ t0 x17 (r := q23.1) (t' := q23.2) hc24) cb_X11_X0_mayWork_197 0 0 rfl rfl rfl rfl rfl ⟨rfl, rfl⟩ ⟨Nat.le_of_ble_eq_true rfl, Nat.le_of_ble_eq_true rfl⟩ (Nat.le_of_ble_eq_true rfl) hl.1 dX11_best_60 (hf_of h0 hq23 hEq23)) (fun z25 gm H locs hW => ?_)
          have h0 := mle.trans h0 hq23
          exact J63 gm _ _ _ ho h0 _ _ _ hW (lv_sub hl [1, 3] rfl)
        · replace ho := ite_f c22 ho
          refine lv_bipush (v := (-3 : Int32)) hx hb dX11_best_52 (by decide) ?_
          cases ho
          exact rtIa gm C0.1 hW dX11_best_54
    · replace ho := ite_f c15 ho
      refine lv_bipush (v := (-2 : Int32)) hx hb dX11_best_18 (by decide) ?_
      cases ho
      exact rtIa gm C0.1 hW dX11_best_20
noncomputable def x2_limbsOf_B19 (t : St) (v3 : Int32) : Option ((Int32) ⊕ (Int32)) :=
  if v3 ≤ 0 then (some (.inr v3)) else (gd (v3 - (1 : Int32)) (gN t 201) (if (gA t 201 ((v3 - (1 : Int32))).toNatClampNeg) = 0 then (nm (v3 + (-1 : Int32)) (fun x4 : Int32 => some (.inl x4))) else (some (.inr v3))))
noncomputable def x2_limbsOf_B100019 (t : St) (v3 : Int32) : Option ((Int32) ⊕ (Int32)) :=
  if v3 ≤ 0 then (some (.inr v3)) else (gd (v3 - (1 : Int32)) (gN t 200) (if (gA t 200 ((v3 - (1 : Int32))).toNatClampNeg) = 0 then (nm (v3 + (-1 : Int32)) (fun x8 : Int32 => some (.inl x8))) else (some (.inr v3))))
noncomputable def x2_limbsOf (t : St) (a1 : Int32) : Option (Int32) :=
  if a1 = 0 then ((lp (fun x => x2_limbsOf_B100019 t x) (6 : Int32)).bind (fun y13 => some y13)) else ((lp (fun x => x2_limbsOf_B19 t x) (6 : Int32)).bind (fun y10 => some y10))
set_option maxHeartbeats 4000000 in
set_option maxRecDepth 100000 in
theorem x2_limbsOf_L19 {p : Program} {l : Launch} {e : Env} {s : State} {m : MethodId} {args : Array Value} {below : List Frame} {meth : Method} {c : Code} {Q : State → Prop} {D : va_G} {cI cJ cZ cR : ClassId} {am gm : Nat → Nat} {st : Nat} {A : Nat → Prop} (C0 : cxX p s m args meth c cX2_limbsOf RX2 4 (some .int) D (tyX cI cJ cZ cR) st A) {t : St} {y : Int32} (hK0 : ∀ (H : Heap) (locs : List Loc) (ls : Array Slot), wl D A s (wX cI cJ cZ cR am gm t) H locs → lv_has ls 4 [(0, .ref (am 1002)), (3, .int y)] → W p l e (rmN 0 0) s m args below meth c H locs 0 0 Q (F0 m 37 ls [])) :
    ∀ (n : Nat) (v3 : Int32), lpn (fun x => x2_limbsOf_B19 t x) n v3 = some y → ∀ (H : Heap) (locs : List Loc) (ls : Array Slot), wl D A s (wX cI cJ cZ cR am gm t) H locs → lv_has ls 4 [(0, .ref (am 1002)), (2, .ref (am 201)), (3, .int v3)] → W p l e (rmN 0 0) s m args below meth c H locs 0 0 Q (F0 m 19 ls []) := by
  have hx := C0.1.1
  have hb := C0.1.2.1
  have hta := C0.1.2.2.2.2.2.1
  have hown := C0.1.2.2.2.2.1
  intro n
  induction n with
  | zero => intro _ h; cases h
  | succ n ih =>
    intro v3 hrun H locs ls hW hl
    obtain ⟨o, ho, hrun⟩ := bd_some hrun
    unfold x2_limbsOf_B19 at ho
    refine lv_iload_n hx hb dX2_limbsOf_19 rfl (lv_at hl 2 rfl) ?_
    refine lv_if_le (tgt := 37) hx hb dX2_limbsOf_20 (by decide) (fun c1 => ?_) (fun c1 => ?_)
    · replace ho := ite_t c1 ho
      cases ho
      cases hrun
      exact hK0 _ _ _ hW (lv_sub hl [0, 2] rfl)
    · replace ho := ite_f c1 ho
      refine lv_aload_n hx hb dX2_limbsOf_23 rfl (lv_at hl 1 rfl) ?_
      refine lv_iload_n hx hb dX2_limbsOf_24 rfl (lv_at hl 2 rfl) ?_
      refine lv_iconst (v := (1 : Int32)) hx hb dX2_limbsOf_25 (by decide) ?_
      refine lv_isub hx hb dX2_limbsOf_26 ?_
      obtain ⟨g2, ho⟩ := gd_some ho
      refine xLD_201 C0 hW g2 dX2_limbsOf_27 ?_
      refine lv_if_ne (tgt := 37) hx hb dX2_limbsOf_28 (by decide) (fun c3 => ?_) (fun c3 => ?_)
      · replace ho := ite_f c3 ho
        cases ho
        cases hrun
        exact hK0 _ _ _ hW (lv_sub hl [0, 2] rfl)
      · replace ho := ite_t c3 ho
        obtain ⟨x4, ex4, ho⟩ := nm_x ho
        refine lv_iinc (v := x4) (lv' := [(3, .int x4), (0, .ref (am 1002)), (2, .ref (am 201))]) hx hb dX2_limbsOf_31 hl (k := 2) rfl (by rw [ex4]; rfl) (by decide) rfl (fun ls hl => ?_)
        clear ex4
        refine lv_goto (tgt := 19) hx hb dX2_limbsOf_34 (by decide) ?_
        cases ho
        exact ih _ hrun _ _ _ hW (lv_sub hl [1, 2, 0] rfl)
set_option maxHeartbeats 4000000 in
set_option maxRecDepth 100000 in
theorem x2_limbsOf_L100019 {p : Program} {l : Launch} {e : Env} {s : State} {m : MethodId} {args : Array Value} {below : List Frame} {meth : Method} {c : Code} {Q : State → Prop} {D : va_G} {cI cJ cZ cR : ClassId} {am gm : Nat → Nat} {st : Nat} {A : Nat → Prop} (C0 : cxX p s m args meth c cX2_limbsOf RX2 4 (some .int) D (tyX cI cJ cZ cR) st A) {t : St} {y : Int32} (hK0 : ∀ (H : Heap) (locs : List Loc) (ls : Array Slot), wl D A s (wX cI cJ cZ cR am gm t) H locs → lv_has ls 4 [(0, .ref (am 1002)), (3, .int y)] → W p l e (rmN 0 0) s m args below meth c H locs 0 0 Q (F0 m 37 ls [])) :
    ∀ (n : Nat) (v3 : Int32), lpn (fun x => x2_limbsOf_B100019 t x) n v3 = some y → ∀ (H : Heap) (locs : List Loc) (ls : Array Slot), wl D A s (wX cI cJ cZ cR am gm t) H locs → lv_has ls 4 [(0, .ref (am 1002)), (2, .ref (am 200)), (3, .int v3)] → W p l e (rmN 0 0) s m args below meth c H locs 0 0 Q (F0 m 19 ls []) := by
  have hx := C0.1.1
  have hb := C0.1.2.1
  have hta := C0.1.2.2.2.2.2.1
  have hown := C0.1.2.2.2.2.1
  intro n
  induction n with
  | zero => intro _ h; cases h
  | succ n ih =>
    intro v3 hrun H locs ls hW hl
    obtain ⟨o, ho, hrun⟩ := bd_some hrun
    unfold x2_limbsOf_B100019 at ho
    refine lv_iload_n hx hb dX2_limbsOf_19 rfl (lv_at hl 2 rfl) ?_
    refine lv_if_le (tgt := 37) hx hb dX2_limbsOf_20 (by decide) (fun c5 => ?_) (fun c5 => ?_)
    · replace ho := ite_t c5 ho
      cases ho
      cases hrun
      exact hK0 _ _ _ hW (lv_sub hl [0, 2] rfl)
    · replace ho := ite_f c5 ho
      refine lv_aload_n hx hb dX2_limbsOf_23 rfl (lv_at hl 1 rfl) ?_
      refine lv_iload_n hx hb dX2_limbsOf_24 rfl (lv_at hl 2 rfl) ?_
      refine lv_iconst (v := (1 : Int32)) hx hb dX2_limbsOf_25 (by decide) ?_
      refine lv_isub hx hb dX2_limbsOf_26 ?_
      obtain ⟨g6, ho⟩ := gd_some ho
      refine xLD_200 C0 hW g6 dX2_limbsOf_27 ?_
      refine lv_if_ne (tgt := 37) hx hb dX2_limbsOf_28 (by decide) (fun c7 => ?_) (fun c7 => ?_)
      · replace ho := ite_f c7 ho
        cases ho
        cases hrun
        exact hK0 _ _ _ hW (lv_sub hl [0, 2] rfl)
      · replace ho := ite_t c7 ho
        obtain ⟨x8, ex8, ho⟩ := nm_x ho
        refine lv_iinc (v := x8) (lv' := [(3, .int x8), (0, .ref (am 1002)), (2, .ref (am 200))]) hx hb dX2_limbsOf_31 hl (k := 2) rfl (by rw [ex8]; rfl) (by decide) rfl (fun ls hl => ?_)
        clear ex8
        refine lv_goto (tgt := 19) hx hb dX2_limbsOf_34 (by decide) ?_
        cases ho
        exact ih _ hrun _ _ _ hW (lv_sub hl [1, 2, 0] rfl)
set_option maxHeartbeats 4000000 in
set_option maxRecDepth 100000 in
theorem c_x2_limbsOf (l : Launch) {D : va_G} {cI cJ cZ cR : ClassId} {am gm : Nat → Nat} {st : Nat} (sz : Nat) (t : St) (a1 : Int32) {r : Int32} (ho : x2_limbsOf t a1 = some r) : Met l yX2_limbsOf (.code yX2_limbsOf cX2_limbsOf 4 (some .int) :: wsAll) (rmN 0 0) (va_Pc [.ref (am 1002), .int a1] (prX D (tyX cI cJ cZ cR) (wX cI cJ cZ cR am gm t) sz st)) (qI r D (tyX cI cJ cZ cR) (wX cI cJ cZ cR am gm t) (va_A (wX cI cJ cZ cR am gm t) sz)) 0 0 (va_A (wX cI cJ cZ cR am gm t) sz) := by
  refine Met.ofW (cc := cX2_limbsOf) (maxL := 4) (ret := (some .int)) (by decide) rfl ?_
  intro p e s m args below meth c s₁ B hml hv
  obtain ⟨rfl, ⟨hsz, hP, hK, hD0⟩, hsx⟩ := hv
  have hx := B.exec
  have hb := B.bytes
  have hts := atoms_spec (ws := (.code yX2_limbsOf cX2_limbsOf 4 (some .int) :: wsAll)) B.pre
  have hta := fun w h => hts w (List.mem_cons_of_mem _ h)
  have hown : s.vm.findClass RX2 = some m.cls := findClass_of_methodNamed B.named
  have hlocks := B.notSynchronized
  subst hsz
  have hD := hD0.self (sz := s.heap.size)
  generalize hAe : va_A (wX cI cJ cZ cR am gm t) s.heap.size = A at hD ⊢
  have hA : ∀ q : Nat, s.heap.size ≤ q → A q := fun q h => by rw [← hAe]; exact Or.inr h
  have C0 : cxX p s m ([.ref (am 1002), .int a1].toArray) meth c cX2_limbsOf RX2 4 (some .int) D (tyX cI cJ cZ cR) st A := ⟨⟨hx, hb, B.returns, hml, hown, hta, hlocks, hK, hA⟩, by rw [← hAe]; exact hsx⟩
  have hW : wl D A s (wX cI cJ cZ cR am gm t) s.heap [] := ⟨hP, hD, va_S.rf⟩
  have hl := lv_entry [.ref (am 1002), .int a1] (n := 4) (Nat.le_of_ble_eq_true rfl)
  rw [lg_entry_eq]
  generalize (lg_sl [.ref (am 1002), .int a1] ++ List.replicate (4 - (lg_sl [.ref (am 1002), .int a1]).length) Slot.unset).toArray = ls at hl ⊢
  have hl : lv_has ls 4 [(0, .ref (am 1002)), (1, .int a1)] := hl
  unfold x2_limbsOf at ho
  refine lv_iload_n hx hb dX2_limbsOf_0 rfl (lv_at hl 1 rfl) ?_
  refine lv_if_ne (tgt := 11) hx hb dX2_limbsOf_1 (by decide) (fun c9 => ?_) (fun c9 => ?_)
  · replace ho := ite_f c9 ho
    refine lv_aload_n hx hb dX2_limbsOf_11 rfl (lv_at hl 0 rfl) ?_
    refine xGET_201 C0 kw_370 hW dX2_limbsOf_12 ?_
    refine lv_astore_n (lv' := [(2, .ref (am 201)), (0, .ref (am 1002)), (1, .int a1)]) hx hb dX2_limbsOf_15 rfl hl (by decide) rfl (fun ls hl => ?_)
    refine lv_bipush (v := (6 : Int32)) hx hb dX2_limbsOf_16 (by decide) ?_
    refine lv_istore_n (lv' := [(3, .int (6 : Int32)), (2, .ref (am 201)), (0, .ref (am 1002)), (1, .int a1)]) hx hb dX2_limbsOf_18 rfl hl (by decide) rfl (fun ls hl => ?_)
    obtain ⟨y10, hc12, ho⟩ := bd_some ho
    obtain ⟨ny10, hc12⟩ := lp_to hc12
    refine x2_limbsOf_L19 C0 ?_ ny10 _ hc12 _ _ _ hW (lv_sub hl [2, 1, 0] rfl)
    intro H locs ls hW hl
    refine lv_iload_n hx hb dX2_limbsOf_37 rfl (lv_at hl 1 rfl) ?_
    cases ho
    exact rtI C0.1 hW dX2_limbsOf_38
  · replace ho := ite_t c9 ho
    refine lv_aload_n hx hb dX2_limbsOf_4 rfl (lv_at hl 0 rfl) ?_
    refine xGET_200 C0 kw_369 hW dX2_limbsOf_5 ?_
    refine lv_goto (tgt := 15) hx hb dX2_limbsOf_8 (by decide) ?_
    refine lv_astore_n (lv' := [(2, .ref (am 200)), (0, .ref (am 1002)), (1, .int a1)]) hx hb dX2_limbsOf_15 rfl hl (by decide) rfl (fun ls hl => ?_)
    refine lv_bipush (v := (6 : Int32)) hx hb dX2_limbsOf_16 (by decide) ?_
    refine lv_istore_n (lv' := [(3, .int (6 : Int32)), (2, .ref (am 200)), (0, .ref (am 1002)), (1, .int a1)]) hx hb dX2_limbsOf_18 rfl hl (by decide) rfl (fun ls hl => ?_)
    obtain ⟨y13, hc15, ho⟩ := bd_some ho
    obtain ⟨ny13, hc15⟩ := lp_to hc15
    refine x2_limbsOf_L100019 C0 ?_ ny13 _ hc15 _ _ _ hW (lv_sub hl [2, 1, 0] rfl)
    intro H locs ls hW hl
    refine lv_iload_n hx hb dX2_limbsOf_37 rfl (lv_at hl 1 rfl) ?_
    cases ho
    exact rtI C0.1 hW dX2_limbsOf_38
noncomputable def x11_limbs (t : St) (a1 : Int32) : Option (Int32) :=
  (x11_outside t a1 (0 : Int32) (1 : Int32)).bind (fun q1 => if q1 = 0 then ((x2_limbsOf t a1).bind (fun q5 => some q5)) else (some (-2 : Int32)))
set_option maxHeartbeats 4000000 in
set_option maxRecDepth 100000 in
theorem c_x11_limbs (l : Launch) {D : va_G} {cI cJ cZ cR : ClassId} {am gm : Nat → Nat} {st : Nat} (sz : Nat) (t : St) (a1 : Int32) {r : Int32} (ho : x11_limbs t a1 = some r) : Met l yX11_limbs (.code yX11_limbs cX11_limbs 2 (some .int) :: wsAll) (rmN 1 23) (va_Pc [.ref (am 1011), .int a1] (prX D (tyX cI cJ cZ cR) (wX cI cJ cZ cR am gm t) sz st)) (qI r D (tyX cI cJ cZ cR) (wX cI cJ cZ cR am gm t) (va_A (wX cI cJ cZ cR am gm t) sz)) 0 0 (va_A (wX cI cJ cZ cR am gm t) sz) := by
  refine Met.ofW (cc := cX11_limbs) (maxL := 2) (ret := (some .int)) (by decide) rfl ?_
  intro p e s m args below meth c s₁ B hml hv
  obtain ⟨rfl, ⟨hsz, hP, hK, hD0⟩, hsx⟩ := hv
  have hx := B.exec
  have hb := B.bytes
  have hts := atoms_spec (ws := (.code yX11_limbs cX11_limbs 2 (some .int) :: wsAll)) B.pre
  have hta := fun w h => hts w (List.mem_cons_of_mem _ h)
  have hown : s.vm.findClass RX11 = some m.cls := findClass_of_methodNamed B.named
  have hlocks := B.notSynchronized
  subst hsz
  have hD := hD0.self (sz := s.heap.size)
  generalize hAe : va_A (wX cI cJ cZ cR am gm t) s.heap.size = A at hD ⊢
  have hA : ∀ q : Nat, s.heap.size ≤ q → A q := fun q h => by rw [← hAe]; exact Or.inr h
  have C0 : cxX p s m ([.ref (am 1011), .int a1].toArray) meth c cX11_limbs RX11 2 (some .int) D (tyX cI cJ cZ cR) st A := ⟨⟨hx, hb, B.returns, hml, hown, hta, hlocks, hK, hA⟩, by rw [← hAe]; exact hsx⟩
  have hW : wl D A s (wX cI cJ cZ cR am gm t) s.heap [] := ⟨hP, hD, va_S.rf⟩
  have hl := lv_entry [.ref (am 1011), .int a1] (n := 2) (Nat.le_of_ble_eq_true rfl)
  rw [lg_entry_eq]
  generalize (lg_sl [.ref (am 1011), .int a1] ++ List.replicate (2 - (lg_sl [.ref (am 1011), .int a1]).length) Slot.unset).toArray = ls at hl ⊢
  have hl : lv_has ls 2 [(0, .ref (am 1011)), (1, .int a1)] := hl
  unfold x11_limbs at ho
  refine lv_iload_n hx hb dX11_limbs_0 rfl (lv_at hl 1 rfl) ?_
  refine lv_iconst (v := (0 : Int32)) hx hb dX11_limbs_1 (by decide) ?_
  refine lv_iconst (v := (1 : Int32)) hx hb dX11_limbs_2 (by decide) ?_
  obtain ⟨q1, hc2, ho⟩ := bd_some ho
  refine bkZ C0.1 hW (runSX (As := [.int a1, .int (0 : Int32), .int (1 : Int32)]) (rest := []) C0 hW (c_x11_outside l _ t a1 (0 : Int32) (1 : Int32) (r := q1) hc2) cb_X11_X11_outside_102 rfl rfl ⟨rfl, rfl⟩ ⟨Nat.le_of_ble_eq_true rfl, Nat.le_of_ble_eq_true rfl⟩ (Nat.le_of_ble_eq_true rfl) hl.1 dX11_limbs_3 ⟨Nat.le_of_ble_eq_true rfl, Nat.le_of_ble_eq_true rfl⟩) (fun z3 H locs hW => ?_)
  refine lv_if_eq (tgt := 12) hx hb dX11_limbs_6 (by decide) (fun c4 => ?_) (fun c4 => ?_)
  · replace ho := ite_t c4 ho
    refine lv_aload_n hx hb dX11_limbs_12 rfl (lv_at hl 0 rfl) ?_
    refine xGET_1105 C0 kw_596 hW dX11_limbs_13 ?_
    refine lv_iload_n hx hb dX11_limbs_16 rfl (lv_at hl 1 rfl) ?_
    obtain ⟨q5, hc6, ho⟩ := bd_some ho
    refine bkI C0.1 hW (runVX (As := [.int a1]) (rest := []) C0 hW (c_x2_limbsOf l _ t a1 (r := q5) hc6) cb_X11_X2_limbsOf_240 2 2 rfl rfl rfl rfl rfl ⟨rfl, rfl⟩ ⟨Nat.le_of_ble_eq_true rfl, Nat.le_of_ble_eq_true rfl⟩ (Nat.le_of_ble_eq_true rfl) hl.1 dX11_limbs_17 ⟨Nat.le_of_ble_eq_true rfl, Nat.le_of_ble_eq_true rfl⟩) (fun H locs hW => ?_)
    cases ho
    exact rtI C0.1 hW dX11_limbs_20
  · replace ho := ite_f c4 ho
    refine lv_bipush (v := (-2 : Int32)) hx hb dX11_limbs_9 (by decide) ?_
    cases ho
    exact rtI C0.1 hW dX11_limbs_11
noncomputable def x2_limbOf (t : St) (a1 : Int32) (a2 : Int32) : Option (Int32) :=
  if a1 = 0 then (gd a2 (gN t 200) (some (gA t 200 (a2).toNatClampNeg))) else (gd a2 (gN t 201) (some (gA t 201 (a2).toNatClampNeg)))
set_option maxHeartbeats 4000000 in
set_option maxRecDepth 100000 in
theorem c_x2_limbOf (l : Launch) {D : va_G} {cI cJ cZ cR : ClassId} {am gm : Nat → Nat} {st : Nat} (sz : Nat) (t : St) (a1 : Int32) (a2 : Int32) {r : Int32} (ho : x2_limbOf t a1 a2 = some r) : Met l yX2_limbOf (.code yX2_limbOf cX2_limbOf 3 (some .int) :: wsAll) (rmN 0 0) (va_Pc [.ref (am 1002), .int a1, .int a2] (prX D (tyX cI cJ cZ cR) (wX cI cJ cZ cR am gm t) sz st)) (qI r D (tyX cI cJ cZ cR) (wX cI cJ cZ cR am gm t) (va_A (wX cI cJ cZ cR am gm t) sz)) 0 0 (va_A (wX cI cJ cZ cR am gm t) sz) := by
  refine Met.ofW (cc := cX2_limbOf) (maxL := 3) (ret := (some .int)) (by decide) rfl ?_
  intro p e s m args below meth c s₁ B hml hv
  obtain ⟨rfl, ⟨hsz, hP, hK, hD0⟩, hsx⟩ := hv
  have hx := B.exec
  have hb := B.bytes
  have hts := atoms_spec (ws := (.code yX2_limbOf cX2_limbOf 3 (some .int) :: wsAll)) B.pre
  have hta := fun w h => hts w (List.mem_cons_of_mem _ h)
  have hown : s.vm.findClass RX2 = some m.cls := findClass_of_methodNamed B.named
  have hlocks := B.notSynchronized
  subst hsz
  have hD := hD0.self (sz := s.heap.size)
  generalize hAe : va_A (wX cI cJ cZ cR am gm t) s.heap.size = A at hD ⊢
  have hA : ∀ q : Nat, s.heap.size ≤ q → A q := fun q h => by rw [← hAe]; exact Or.inr h
  have C0 : cxX p s m ([.ref (am 1002), .int a1, .int a2].toArray) meth c cX2_limbOf RX2 3 (some .int) D (tyX cI cJ cZ cR) st A := ⟨⟨hx, hb, B.returns, hml, hown, hta, hlocks, hK, hA⟩, by rw [← hAe]; exact hsx⟩
  have hW : wl D A s (wX cI cJ cZ cR am gm t) s.heap [] := ⟨hP, hD, va_S.rf⟩
  have hl := lv_entry [.ref (am 1002), .int a1, .int a2] (n := 3) (Nat.le_of_ble_eq_true rfl)
  rw [lg_entry_eq]
  generalize (lg_sl [.ref (am 1002), .int a1, .int a2] ++ List.replicate (3 - (lg_sl [.ref (am 1002), .int a1, .int a2]).length) Slot.unset).toArray = ls at hl ⊢
  have hl : lv_has ls 3 [(0, .ref (am 1002)), (1, .int a1), (2, .int a2)] := hl
  unfold x2_limbOf at ho
  refine lv_iload_n hx hb dX2_limbOf_0 rfl (lv_at hl 1 rfl) ?_
  refine lv_if_ne (tgt := 13) hx hb dX2_limbOf_1 (by decide) (fun c1 => ?_) (fun c1 => ?_)
  · replace ho := ite_f c1 ho
    refine lv_aload_n hx hb dX2_limbOf_13 rfl (lv_at hl 0 rfl) ?_
    refine xGET_201 C0 kw_370 hW dX2_limbOf_14 ?_
    refine lv_iload_n hx hb dX2_limbOf_17 rfl (lv_at hl 2 rfl) ?_
    obtain ⟨g2, ho⟩ := gd_some ho
    refine xLD_201 C0 hW g2 dX2_limbOf_18 ?_
    cases ho
    exact rtI C0.1 hW dX2_limbOf_19
  · replace ho := ite_t c1 ho
    refine lv_aload_n hx hb dX2_limbOf_4 rfl (lv_at hl 0 rfl) ?_
    refine xGET_200 C0 kw_369 hW dX2_limbOf_5 ?_
    refine lv_iload_n hx hb dX2_limbOf_8 rfl (lv_at hl 2 rfl) ?_
    obtain ⟨g3, ho⟩ := gd_some ho
    refine xLD_200 C0 hW g3 dX2_limbOf_9 ?_
    refine lv_goto (tgt := 19) hx hb dX2_limbOf_10 (by decide) ?_
    cases ho
    exact rtI C0.1 hW dX2_limbOf_19
noncomputable def x11_limb (t : St) (a1 : Int32) (a2 : Int32) : Option (Int32) :=
  (x11_outside t a1 (0 : Int32) (1 : Int32)).bind (fun q1 => if q1 = 0 then (if 0 ≤ a2 then ((x2_limbsOf t a1).bind (fun q6 => if q6 ≤ a2 then (some (-1 : Int32)) else ((x2_limbOf t a1 a2).bind (fun q9 => some q9)))) else (some (-2 : Int32))) else (some (-2 : Int32)))
set_option maxHeartbeats 4000000 in
set_option maxRecDepth 100000 in
theorem c_x11_limb (l : Launch) {D : va_G} {cI cJ cZ cR : ClassId} {am gm : Nat → Nat} {st : Nat} (sz : Nat) (t : St) (a1 : Int32) (a2 : Int32) {r : Int32} (ho : x11_limb t a1 a2 = some r) : Met l yX11_limb (.code yX11_limb cX11_limb 3 (some .int) :: wsAll) (rmN 1 23) (va_Pc [.ref (am 1011), .int a1, .int a2] (prX D (tyX cI cJ cZ cR) (wX cI cJ cZ cR am gm t) sz st)) (qI r D (tyX cI cJ cZ cR) (wX cI cJ cZ cR am gm t) (va_A (wX cI cJ cZ cR am gm t) sz)) 0 0 (va_A (wX cI cJ cZ cR am gm t) sz) := by
  refine Met.ofW (cc := cX11_limb) (maxL := 3) (ret := (some .int)) (by decide) rfl ?_
  intro p e s m args below meth c s₁ B hml hv
  obtain ⟨rfl, ⟨hsz, hP, hK, hD0⟩, hsx⟩ := hv
  have hx := B.exec
  have hb := B.bytes
  have hts := atoms_spec (ws := (.code yX11_limb cX11_limb 3 (some .int) :: wsAll)) B.pre
  have hta := fun w h => hts w (List.mem_cons_of_mem _ h)
  have hown : s.vm.findClass RX11 = some m.cls := findClass_of_methodNamed B.named
  have hlocks := B.notSynchronized
  subst hsz
  have hD := hD0.self (sz := s.heap.size)
  generalize hAe : va_A (wX cI cJ cZ cR am gm t) s.heap.size = A at hD ⊢
  have hA : ∀ q : Nat, s.heap.size ≤ q → A q := fun q h => by rw [← hAe]; exact Or.inr h
  have C0 : cxX p s m ([.ref (am 1011), .int a1, .int a2].toArray) meth c cX11_limb RX11 3 (some .int) D (tyX cI cJ cZ cR) st A := ⟨⟨hx, hb, B.returns, hml, hown, hta, hlocks, hK, hA⟩, by rw [← hAe]; exact hsx⟩
  have hW : wl D A s (wX cI cJ cZ cR am gm t) s.heap [] := ⟨hP, hD, va_S.rf⟩
  have hl := lv_entry [.ref (am 1011), .int a1, .int a2] (n := 3) (Nat.le_of_ble_eq_true rfl)
  rw [lg_entry_eq]
  generalize (lg_sl [.ref (am 1011), .int a1, .int a2] ++ List.replicate (3 - (lg_sl [.ref (am 1011), .int a1, .int a2]).length) Slot.unset).toArray = ls at hl ⊢
  have hl : lv_has ls 3 [(0, .ref (am 1011)), (1, .int a1), (2, .int a2)] := hl
  unfold x11_limb at ho
  refine lv_iload_n hx hb dX11_limb_0 rfl (lv_at hl 1 rfl) ?_
  refine lv_iconst (v := (0 : Int32)) hx hb dX11_limb_1 (by decide) ?_
  refine lv_iconst (v := (1 : Int32)) hx hb dX11_limb_2 (by decide) ?_
  obtain ⟨q1, hc2, ho⟩ := bd_some ho
  refine bkZ C0.1 hW (runSX (As := [.int a1, .int (0 : Int32), .int (1 : Int32)]) (rest := []) C0 hW (c_x11_outside l _ t a1 (0 : Int32) (1 : Int32) (r := q1) hc2) cb_X11_X11_outside_102 rfl rfl ⟨rfl, rfl⟩ ⟨Nat.le_of_ble_eq_true rfl, Nat.le_of_ble_eq_true rfl⟩ (Nat.le_of_ble_eq_true rfl) hl.1 dX11_limb_3 ⟨Nat.le_of_ble_eq_true rfl, Nat.le_of_ble_eq_true rfl⟩) (fun z3 H locs hW => ?_)
  refine lv_if_ne (tgt := 13) hx hb dX11_limb_6 (by decide) (fun c4 => ?_) (fun c4 => ?_)
  · replace ho := ite_f c4 ho
    refine lv_bipush (v := (-2 : Int32)) hx hb dX11_limb_13 (by decide) ?_
    cases ho
    exact rtI C0.1 hW dX11_limb_15
  · replace ho := ite_t c4 ho
    refine lv_iload_n hx hb dX11_limb_9 rfl (lv_at hl 2 rfl) ?_
    refine lv_if_ge (tgt := 16) hx hb dX11_limb_10 (by decide) (fun c5 => ?_) (fun c5 => ?_)
    · replace ho := ite_t c5 ho
      refine lv_iload_n hx hb dX11_limb_16 rfl (lv_at hl 2 rfl) ?_
      refine lv_aload_n hx hb dX11_limb_17 rfl (lv_at hl 0 rfl) ?_
      refine xGET_1105 C0 kw_596 hW dX11_limb_18 ?_
      refine lv_iload_n hx hb dX11_limb_21 rfl (lv_at hl 1 rfl) ?_
      obtain ⟨q6, hc7, ho⟩ := bd_some ho
      refine bkI C0.1 hW (runVX (As := [.int a1]) (rest := [.int a2]) C0 hW (c_x2_limbsOf l _ t a1 (r := q6) hc7) cb_X11_X2_limbsOf_240 2 2 rfl rfl rfl rfl rfl ⟨rfl, rfl⟩ ⟨Nat.le_of_ble_eq_true rfl, Nat.le_of_ble_eq_true rfl⟩ (Nat.le_of_ble_eq_true rfl) hl.1 dX11_limb_22 ⟨Nat.le_of_ble_eq_true rfl, Nat.le_of_ble_eq_true rfl⟩) (fun H locs hW => ?_)
      refine lv_icmp_ge (tgt := 40) hx hb dX11_limb_25 (by decide) (fun c8 => ?_) (fun c8 => ?_)
      · replace ho := ite_t c8 ho
        refine lv_iconst (v := (-1 : Int32)) hx hb dX11_limb_40 (by decide) ?_
        cases ho
        exact rtI C0.1 hW dX11_limb_41
      · replace ho := ite_f c8 ho
        refine lv_aload_n hx hb dX11_limb_28 rfl (lv_at hl 0 rfl) ?_
        refine xGET_1105 C0 kw_596 hW dX11_limb_29 ?_
        refine lv_iload_n hx hb dX11_limb_32 rfl (lv_at hl 1 rfl) ?_
        refine lv_iload_n hx hb dX11_limb_33 rfl (lv_at hl 2 rfl) ?_
        obtain ⟨q9, hc10, ho⟩ := bd_some ho
        refine bkI C0.1 hW (runVX (As := [.int a1, .int a2]) (rest := []) C0 hW (c_x2_limbOf l _ t a1 a2 (r := q9) hc10) cb_X11_X2_limbOf_243 2 2 rfl rfl rfl rfl rfl ⟨rfl, rfl⟩ ⟨Nat.le_of_ble_eq_true rfl, Nat.le_of_ble_eq_true rfl⟩ (Nat.le_of_ble_eq_true rfl) hl.1 dX11_limb_34 ⟨Nat.le_of_ble_eq_true rfl, Nat.le_of_ble_eq_true rfl⟩) (fun H locs hW => ?_)
        refine lv_goto (tgt := 41) hx hb dX11_limb_37 (by decide) ?_
        cases ho
        exact rtI C0.1 hW dX11_limb_41
    · replace ho := ite_f c5 ho
      refine lv_bipush (v := (-2 : Int32)) hx hb dX11_limb_13 (by decide) ?_
      cases ho
      exact rtI C0.1 hW dX11_limb_15
noncomputable def x4_hire_B49 (v1 : Int32) (v2 : Int32) (v3 : Int32) (v4 : Int32) (t : St) : Option ((Int32 × St) ⊕ (St)) :=
  if v3 ≤ v4 then (some (.inr t)) else (gd v4 (gN t 403) (gd (v3 + v4) (gN t 403) (nm (sA t 403 (v3 + v4) ((gA t 403 (v4).toNatClampNeg) ||| v1)) (fun t4 : St => gd v4 (gN t4 404) (gd (v3 + v4) (gN t4 404) (nm (sA t4 404 (v3 + v4) ((gA t4 404 (v4).toNatClampNeg) + v2)) (fun t7 : St => nm (v4 + (1 : Int32)) (fun x8 : Int32 => some (.inl (x8, t7))))))))))
theorem mm_x4_hire_B49 (v1 : Int32) (v2 : Int32) (v3 : Int32) (v4 : Int32) (t : St) : MR (x4_hire_B49 v1 v2 v3 v4 t) t (Sum.elim (fun (x : Int32 × St) => x.2) (fun (y : St) => y)) := by
  unfold x4_hire_B49
  exact MR_ite (MR_some mle.rfl) (MR_gd (MR_gd (MR_nmS mle_sA (fun t4 ht4 => MR_gd (MR_gd (MR_nmS mle_sA (fun t7 ht7 => MR_nm (fun x8 _ => MR_some (mle.trans ht4 ht7)))))))))
theorem mm_x4_hire_L49 (v1 : Int32) (v2 : Int32) (v3 : Int32) (v4 : Int32) (t : St) : MR (lp (fun x => x4_hire_B49 v1 v2 v3 x.1 x.2) (v4, t)) t (fun (y : St) => y) := MR_lp (p := (fun (x : Int32 × St) => x.2)) (q := (fun (y : St) => y)) (fun x => mm_x4_hire_B49 v1 v2 v3 x.1 x.2) (v4, t)
noncomputable def x4_hire_J46 (t : St) (v1 : Int32) (v2 : Int32) (v3 : Int32) : Option (Int32 × St) :=
  (lp (fun x => x4_hire_B49 v1 v2 v3 x.1 x.2) ((0 : Int32), t)).bind (fun y9 => nm (sI y9 402 ((gI y9 402) + (1 : Int32))) (fun t12 : St => (x4_forgetFront t12).bind (fun q13 => some ((1 : Int32), q13))))
theorem mm_x4_hire_J46 (t : St) (v1 : Int32) (v2 : Int32) (v3 : Int32) : MR (x4_hire_J46 t v1 v2 v3) t (fun (a : Int32 × St) => a.2) := by
  unfold x4_hire_J46
  exact MR_bind (mm_x4_hire_L49 v1 v2 v3 (0 : Int32) t) (fun y9 hm10 => MR_nmS mle_sI (fun t12 ht12 => MR_bind (mm_x4_forgetFront t12) (fun q13 hq13 => MR_some (mle.trans (mle.trans hm10 ht12) hq13))))
noncomputable def x4_hire_J32 (t : St) (v1 : Int32) (v2 : Int32) (v3 : Int32) : Option (Int32 × St) :=
  cpy t 404 ((2 : Int32) * v3) (fun t15 : St => x4_hire_J46 t15 v1 v2 v3)
theorem mm_x4_hire_J32 (t : St) (v1 : Int32) (v2 : Int32) (v3 : Int32) : MR (x4_hire_J32 t v1 v2 v3) t (fun (a : Int32 × St) => a.2) := by
  unfold x4_hire_J32
  exact MR_cpy (fun t15 ht15 => MR_wk ht15 (mm_x4_hire_J46 t15 v1 v2 v3))
noncomputable def x4_hire (t0 : St) (a1 : Int32) (a2 : Int32) : Option (Int32 × St) :=
  if (gI t0 402) < (10 : Int32) then (nm ((1 : Int32) <<< ((gI t0 402) &&& 31)) (fun x18 : Int32 => cpy t0 403 ((2 : Int32) * x18) (fun t19 : St => x4_hire_J32 t19 a1 a2 x18))) else (some ((0 : Int32), t0))
theorem mm_x4_hire (t0 : St) (a1 : Int32) (a2 : Int32) : MR (x4_hire t0 a1 a2) t0 (fun (a : Int32 × St) => a.2) := by
  unfold x4_hire
  exact MR_ite (MR_nm (fun x18 _ => MR_cpy (fun t19 ht19 => MR_wk ht19 (mm_x4_hire_J32 t19 a1 a2 x18)))) (MR_some mle.rfl)
set_option maxHeartbeats 4000000 in
set_option maxRecDepth 100000 in
theorem x4_hire_L49 {p : Program} {l : Launch} {e : Env} {s : State} {m : MethodId} {args : Array Value} {below : List Frame} {meth : Method} {c : Code} {Q : State → Prop} {D : va_G} {cI cJ cZ cR : ClassId} {am gm : Nat → Nat} {st : Nat} {A : Nat → Prop} (C0 : cxX p s m args meth c cX4_hire RX4 5 (some .boolean) D (tyX cI cJ cZ cR) st A) {t0 t' : St} {cells slots : Nat} (hR : cells ≤ mC t0 t' ∧ slots ≤ mS t0 t') {v1 : Int32} {v2 : Int32} {v3 : Int32} {y : St} (hK0 : ∀ (H : Heap) (locs : List Loc) (ls : Array Slot), wl D A s (wX cI cJ cZ cR am gm y) H locs → lv_has ls 5 [(0, .ref (am 1004))] → W p l e (rmA 2 82 t0 t') s m args below meth c H locs cells slots Q (F0 m 97 ls [])) :
    ∀ (n : Nat) (v4 : Int32) (t : St), lpn (fun x => x4_hire_B49 v1 v2 v3 x.1 x.2) n (v4, t) = some y → ∀ (H : Heap) (locs : List Loc) (ls : Array Slot), wl D A s (wX cI cJ cZ cR am gm t) H locs → lv_has ls 5 [(0, .ref (am 1004)), (1, .int v1), (2, .int v2), (3, .int v3), (4, .int v4)] → W p l e (rmA 2 82 t0 t') s m args below meth c H locs cells slots Q (F0 m 49 ls []) := by
  have hx := C0.1.1
  have hb := C0.1.2.1
  have hta := C0.1.2.2.2.2.2.1
  have hown := C0.1.2.2.2.2.1
  intro n
  induction n with
  | zero => intro _ _ h; cases h
  | succ n ih =>
    intro v4 t hrun H locs ls hW hl
    obtain ⟨o, ho, hrun⟩ := bd_some hrun
    unfold x4_hire_B49 at ho
    refine lv_iload hx hb dX4_hire_49 (lv_at hl 4 rfl) ?_
    refine lv_iload_n hx hb dX4_hire_51 rfl (lv_at hl 3 rfl) ?_
    refine lv_icmp_ge (tgt := 97) hx hb dX4_hire_52 (by decide) (fun c1 => ?_) (fun c1 => ?_)
    · replace ho := ite_t c1 ho
      cases ho
      cases hrun
      exact hK0 _ _ _ hW (lv_sub hl [0] rfl)
    · replace ho := ite_f c1 ho
      refine lv_aload_n hx hb dX4_hire_55 rfl (lv_at hl 0 rfl) ?_
      refine xGET_403 C0 kw_443 hW dX4_hire_56 ?_
      refine lv_iload_n hx hb dX4_hire_59 rfl (lv_at hl 3 rfl) ?_
      refine lv_iload hx hb dX4_hire_60 (lv_at hl 4 rfl) ?_
      refine lv_iadd hx hb dX4_hire_62 ?_
      refine lv_aload_n hx hb dX4_hire_63 rfl (lv_at hl 0 rfl) ?_
      refine xGET_403 C0 kw_443 hW dX4_hire_64 ?_
      refine lv_iload hx hb dX4_hire_67 (lv_at hl 4 rfl) ?_
      obtain ⟨g2, ho⟩ := gd_some ho
      refine xLD_403 C0 hW g2 dX4_hire_69 ?_
      refine lv_iload_n hx hb dX4_hire_70 rfl (lv_at hl 1 rfl) ?_
      refine lv_ior hx hb dX4_hire_71 ?_
      obtain ⟨g3, ho⟩ := gd_some ho
      refine xST_403 C0 hW g3 dX4_hire_72 (fun H locs hW => ?_)
      obtain ⟨t4, ht4, ho, hW⟩ := nm_wm (P := fun t => wl D A s (wX cI cJ cZ cR am gm t) H locs) mle_sA ho hW
      refine lv_aload_n hx hb dX4_hire_73 rfl (lv_at hl 0 rfl) ?_
      refine xGET_404 C0 kw_445 hW dX4_hire_74 ?_
      refine lv_iload_n hx hb dX4_hire_77 rfl (lv_at hl 3 rfl) ?_
      refine lv_iload hx hb dX4_hire_78 (lv_at hl 4 rfl) ?_
      refine lv_iadd hx hb dX4_hire_80 ?_
      refine lv_aload_n hx hb dX4_hire_81 rfl (lv_at hl 0 rfl) ?_
      refine xGET_404 C0 kw_445 hW dX4_hire_82 ?_
      refine lv_iload hx hb dX4_hire_85 (lv_at hl 4 rfl) ?_
      obtain ⟨g5, ho⟩ := gd_some ho
      refine xLD_404 C0 hW g5 dX4_hire_87 ?_
      refine lv_iload_n hx hb dX4_hire_88 rfl (lv_at hl 2 rfl) ?_
      refine lv_iadd hx hb dX4_hire_89 ?_
      obtain ⟨g6, ho⟩ := gd_some ho
      refine xST_404 C0 hW g6 dX4_hire_90 (fun H locs hW => ?_)
      obtain ⟨t7, ht7, ho, hW⟩ := nm_wm (P := fun t => wl D A s (wX cI cJ cZ cR am gm t) H locs) mle_sA ho hW
      obtain ⟨x8, ex8, ho⟩ := nm_x ho
      refine lv_iinc (v := x8) (lv' := [(4, .int x8), (0, .ref (am 1004)), (1, .int v1), (2, .int v2), (3, .int v3)]) hx hb dX4_hire_91 hl (k := 4) rfl (by rw [ex8]; rfl) (by decide) rfl (fun ls hl => ?_)
      clear ex8
      refine lv_goto (tgt := 49) hx hb dX4_hire_94 (by decide) ?_
      cases ho
      exact ih _ _ hrun _ _ _ hW (lv_sub hl [1, 2, 3, 4, 0] rfl)
set_option maxHeartbeats 4000000 in
set_option maxRecDepth 100000 in
theorem c_x4_hire (l : Launch) {D : va_G} {cI cJ cZ cR : ClassId} {am gm : Nat → Nat} {st : Nat} (sz : Nat) (t0 : St) (a1 : Int32) (a2 : Int32) {r : Int32} {t' : St} (ho : x4_hire t0 a1 a2 = some (r, t')) : Met l yX4_hire (.code yX4_hire cX4_hire 5 (some .boolean) :: wsAll) (rmA 2 82 t0 t') (va_Pc [.ref (am 1004), .int a1, .int a2] (prX D (tyX cI cJ cZ cR) (wX cI cJ cZ cR am gm t0) sz st)) (qZa r D (tyX cI cJ cZ cR) (fun gm => wX cI cJ cZ cR am gm t') (va_A (wX cI cJ cZ cR am gm t0) sz)) (mC t0 t') (mS t0 t') (va_A (wX cI cJ cZ cR am gm t0) sz) := by
  refine Met.ofW (cc := cX4_hire) (maxL := 5) (ret := (some .boolean)) (by decide) rfl ?_
  intro p e s m args below meth c s₁ B hml hv
  obtain ⟨rfl, ⟨hsz, hP, hK, hD0⟩, hsx⟩ := hv
  have hx := B.exec
  have hb := B.bytes
  have hts := atoms_spec (ws := (.code yX4_hire cX4_hire 5 (some .boolean) :: wsAll)) B.pre
  have hta := fun w h => hts w (List.mem_cons_of_mem _ h)
  have hown : s.vm.findClass RX4 = some m.cls := findClass_of_methodNamed B.named
  have hlocks := B.notSynchronized
  subst hsz
  have hD := hD0.self (sz := s.heap.size)
  generalize hAe : va_A (wX cI cJ cZ cR am gm t0) s.heap.size = A at hD ⊢
  have hA : ∀ q : Nat, s.heap.size ≤ q → A q := fun q h => by rw [← hAe]; exact Or.inr h
  have C0 : cxX p s m ([.ref (am 1004), .int a1, .int a2].toArray) meth c cX4_hire RX4 5 (some .boolean) D (tyX cI cJ cZ cR) st A := ⟨⟨hx, hb, B.returns, hml, hown, hta, hlocks, hK, hA⟩, by rw [← hAe]; exact hsx⟩
  have hW : wl D A s (wX cI cJ cZ cR am gm t0) s.heap [] := ⟨hP, hD, va_S.rf⟩
  have hl := lv_entry [.ref (am 1004), .int a1, .int a2] (n := 5) (Nat.le_of_ble_eq_true rfl)
  rw [lg_entry_eq]
  generalize (lg_sl [.ref (am 1004), .int a1, .int a2] ++ List.replicate (5 - (lg_sl [.ref (am 1004), .int a1, .int a2]).length) Slot.unset).toArray = ls at hl ⊢
  have hl : lv_has ls 5 [(0, .ref (am 1004)), (1, .int a1), (2, .int a2)] := hl
  clear hAe hD hP hD0 hts
  have J46 : ∀ (gm : Nat → Nat) (t : St) (v1 : Int32) (v2 : Int32) (v3 : Int32) (_ : x4_hire_J46 t v1 v2 v3 = some (r, t')) (_ : mle t0 t) (H : Heap) (locs : List Loc) (ls : Array Slot), wl D A s (wX cI cJ cZ cR am gm t) H locs → lv_has ls 5 [(0, .ref (am 1004)), (1, .int v1), (2, .int v2), (3, .int v3)] → W p l e (rmA 2 82 t0 t') s m ([.ref (am 1004), .int a1, .int a2].toArray) below meth c H locs (mC t0 t) (mS t0 t) (MQ below (qZa r D (tyX cI cJ cZ cR) (fun gm => wX cI cJ cZ cR am gm t') A) ([.ref (am 1004), .int a1, .int a2].toArray) s (mC t0 t') (mS t0 t') A) (F0 m 46 ls []) := by
    intro gm t v1 v2 v3 ho h0 H locs ls hW hl
    have hE : mle t t' := (mm_x4_hire_J46 _ _ _ _ _ ho)
    have hR := hR_of (t0 := t0) hE
    unfold x4_hire_J46 at ho
    refine lv_iconst (v := (0 : Int32)) hx hb dX4_hire_46 (by decide) ?_
    refine lv_istore (lv' := [(4, .int (0 : Int32)), (0, .ref (am 1004)), (1, .int v1), (2, .int v2), (3, .int v3)]) hx hb dX4_hire_47 hl (by decide) rfl (fun ls hl => ?_)
    obtain ⟨y9, hc11, ho⟩ := bd_some ho
    have hm10 := mm_x4_hire_L49 v1 v2 v3 (0 : Int32) t _ hc11
    obtain ⟨ny9, hc11⟩ := lp_to hc11
    refine x4_hire_L49 C0 hR ?_ ny9 _ _ hc11 _ _ _ hW (lv_sub hl [1, 2, 3, 4, 0] rfl)
    intro H locs ls hW hl
    refine lv_aload_n hx hb dX4_hire_97 rfl (lv_at hl 0 rfl) ?_
    refine lv_dup hx hb dX4_hire_98 rfl ?_
    refine xGET_402 C0 kw_441 hW dX4_hire_99 ?_
    refine lv_iconst (v := (1 : Int32)) hx hb dX4_hire_102 (by decide) ?_
    refine lv_iadd hx hb dX4_hire_103 ?_
    refine xPUT_402 C0 kw_441 hW dX4_hire_104 (fun H locs hW => ?_)
    obtain ⟨t12, ht12, ho, hW⟩ := nm_wm (P := fun t => wl D A s (wX cI cJ cZ cR am gm t) H locs) mle_sI ho hW
    refine lv_aload_n hx hb dX4_hire_107 rfl (lv_at hl 0 rfl) ?_
    obtain ⟨q13, hc14, ho⟩ := bd_some ho
    have hq13 := mm_x4_forgetFront t12 _ hc14
    refine bkV C0.1 hW (runVX (As := []) (rest := []) C0 hW (c_x4_forgetFront l _ t12 (t' := q13) hc14) cb_X4_X4_forgetFront_57 4 4 rfl rfl rfl rfl rfl ⟨rfl, rfl⟩ ⟨Nat.le_of_ble_eq_true rfl, Nat.le_of_ble_eq_true rfl⟩ (Nat.le_of_ble_eq_true rfl) hl.1 dX4_hire_108 ⟨hR.1, hR.2⟩) (fun H locs hW => ?_)
    refine lv_iconst (v := (1 : Int32)) hx hb dX4_hire_111 (by decide) ?_
    refine W_up h0 (mle.trans (mle.trans hm10 ht12) hq13) ?_
    cases ho
    exact rtZa gm C0.1 hW (Or.inr (rfl : (1 : Int32) = 1)) dX4_hire_112
  have J32 : ∀ (gm : Nat → Nat) (t : St) (v1 : Int32) (v2 : Int32) (v3 : Int32) (_ : x4_hire_J32 t v1 v2 v3 = some (r, t')) (_ : mle t0 t) (H : Heap) (locs : List Loc) (ls : Array Slot), wl D A s (wX cI cJ cZ cR am gm t) H locs → lv_has ls 5 [(0, .ref (am 1004)), (1, .int v1), (2, .int v2), (3, .int v3)] → W p l e (rmA 2 82 t0 t') s m ([.ref (am 1004), .int a1, .int a2].toArray) below meth c H locs (mC t0 t) (mS t0 t) (MQ below (qZa r D (tyX cI cJ cZ cR) (fun gm => wX cI cJ cZ cR am gm t') A) ([.ref (am 1004), .int a1, .int a2].toArray) s (mC t0 t') (mS t0 t') A) (F0 m 32 ls []) := by
    intro gm t v1 v2 v3 ho h0 H locs ls hW hl
    have hE : mle t t' := (mm_x4_hire_J32 _ _ _ _ _ ho)
    have hR := hR_of (t0 := t0) hE
    unfold x4_hire_J32 at ho
    refine lv_aload_n hx hb dX4_hire_32 rfl (lv_at hl 0 rfl) ?_
    refine lv_aload_n hx hb dX4_hire_33 rfl (lv_at hl 0 rfl) ?_
    refine xGET_404 C0 kw_445 hW dX4_hire_34 ?_
    refine lv_iconst (v := (2 : Int32)) hx hb dX4_hire_37 (by decide) ?_
    refine lv_iload_n hx hb dX4_hire_38 rfl (lv_at hl 3 rfl) ?_
    refine lv_imul hx hb dX4_hire_39 ?_
    obtain ⟨t15, g16, ho⟩ := cpy_some ho
    have ht15 := g16.mle
    have hEt15 := (mm_x4_hire_J46 _ _ _ _ _ ho)
    refine xCOPY_404 (rest := []) C0 cb_X4_J7_copyOf_59c91_51 kw_445 hl.1 hW g16 h0 hEt15 (Nat.le_of_ble_eq_true rfl) (Nat.le_of_ble_eq_true rfl) (Nat.le_of_ble_eq_true rfl) dX4_hire_40 dX4_hire_43 (fun gm H locs hW => ?_)
    have h0 := mle.trans h0 ht15
    exact J46 gm _ _ _ _ ho h0 _ _ _ hW (lv_sub hl [0, 1, 2, 3] rfl)
  have hE : mle t0 t' := mm_x4_hire _ _ _ _ ho
  have hR := hR_of (t0 := t0) hE
  have h0 : mle t0 t0 := mle.rfl
  refine W_0 (t0 := t0) ?_
  unfold x4_hire at ho
  refine lv_aload_n hx hb dX4_hire_0 rfl (lv_at hl 0 rfl) ?_
  refine xGET_402 C0 kw_441 hW dX4_hire_1 ?_
  refine lv_bipush (v := (10 : Int32)) hx hb dX4_hire_4 (by decide) ?_
  refine lv_icmp_lt (tgt := 11) hx hb dX4_hire_6 (by decide) (fun c17 => ?_) (fun c17 => ?_)
  · replace ho := ite_t c17 ho
    refine lv_iconst (v := (1 : Int32)) hx hb dX4_hire_11 (by decide) ?_
    refine lv_aload_n hx hb dX4_hire_12 rfl (lv_at hl 0 rfl) ?_
    refine xGET_402 C0 kw_441 hW dX4_hire_13 ?_
    refine lv_ishl hx hb dX4_hire_16 ?_
    refine lv_nmi ho (fun x18 ho => ?_)
    refine lv_istore_n (lv' := [(3, .int x18), (0, .ref (am 1004)), (1, .int a1), (2, .int a2)]) hx hb dX4_hire_17 rfl hl (by decide) rfl (fun ls hl => ?_)
    refine lv_aload_n hx hb dX4_hire_18 rfl (lv_at hl 1 rfl) ?_
    refine lv_aload_n hx hb dX4_hire_19 rfl (lv_at hl 1 rfl) ?_
    refine xGET_403 C0 kw_443 hW dX4_hire_20 ?_
    refine lv_iconst (v := (2 : Int32)) hx hb dX4_hire_23 (by decide) ?_
    refine lv_iload_n hx hb dX4_hire_24 rfl (lv_at hl 0 rfl) ?_
    refine lv_imul hx hb dX4_hire_25 ?_
    obtain ⟨t19, g20, ho⟩ := cpy_some ho
    have ht19 := g20.mle
    have hEt19 := (mm_x4_hire_J32 _ _ _ _ _ ho)
    refine xCOPY_403 (rest := []) C0 cb_X4_J7_copyOf_59c91_51 kw_443 hl.1 hW g20 h0 hEt19 (Nat.le_of_ble_eq_true rfl) (Nat.le_of_ble_eq_true rfl) (Nat.le_of_ble_eq_true rfl) dX4_hire_26 dX4_hire_29 (fun gm H locs hW => ?_)
    have h0 := mle.trans h0 ht19
    exact J32 gm _ _ _ _ ho h0 _ _ _ hW (lv_sub hl [1, 2, 3, 0] rfl)
  · replace ho := ite_f c17 ho
    refine lv_iconst (v := (0 : Int32)) hx hb dX4_hire_9 (by decide) ?_
    cases ho
    exact rtZa gm C0.1 hW (Or.inl (rfl : (0 : Int32) = 0)) dX4_hire_10
noncomputable def x11_guard_J33 (t : St) (w0 : Int32) : Option (Int32 × St) :=
  if w0 = 0 then (some ((-4 : Int32), t)) else (some (((gI t 402) - (1 : Int32)), t))
theorem mm_x11_guard_J33 (t : St) (w0 : Int32) : MR (x11_guard_J33 t w0) t (fun (a : Int32 × St) => a.2) := by
  unfold x11_guard_J33
  exact MR_ite (MR_some mle.rfl) (MR_some mle.rfl)
noncomputable def x11_guard (t0 : St) (a1 : Int32) (a2 : Int32) : Option (Int32 × St) :=
  (x11_outside t0 a1 (0 : Int32) (65535 : Int32)).bind (fun q2 => if q2 = 0 then ((x11_outside t0 a2 (0 : Int32) (1000 : Int32)).bind (fun q6 => if q6 = 0 then ((x4_hire t0 a1 a2).bind (fun q10 => x11_guard_J33 q10.2 q10.1)) else (some ((-2 : Int32), t0)))) else (some ((-2 : Int32), t0)))
theorem mm_x11_guard (t0 : St) (a1 : Int32) (a2 : Int32) : MR (x11_guard t0 a1 a2) t0 (fun (a : Int32 × St) => a.2) := by
  unfold x11_guard
  exact MR_bindn (fun q2 => MR_ite (MR_bindn (fun q6 => MR_ite (MR_bind (mm_x4_hire t0 a1 a2) (fun q10 hq10 => MR_wk hq10 (mm_x11_guard_J33 q10.2 q10.1))) (MR_some mle.rfl))) (MR_some mle.rfl))
set_option maxHeartbeats 4000000 in
set_option maxRecDepth 100000 in
theorem c_x11_guard (l : Launch) {D : va_G} {cI cJ cZ cR : ClassId} {am gm : Nat → Nat} {st : Nat} (sz : Nat) (t0 : St) (a1 : Int32) (a2 : Int32) {r : Int32} {t' : St} (ho : x11_guard t0 a1 a2 = some (r, t')) : Met l yX11_guard (.code yX11_guard cX11_guard 3 (some .int) :: wsAll) (rmA 3 106 t0 t') (va_Pc [.ref (am 1011), .int a1, .int a2] (prX D (tyX cI cJ cZ cR) (wX cI cJ cZ cR am gm t0) sz st)) (qIa r D (tyX cI cJ cZ cR) (fun gm => wX cI cJ cZ cR am gm t') (va_A (wX cI cJ cZ cR am gm t0) sz)) (mC t0 t') (mS t0 t') (va_A (wX cI cJ cZ cR am gm t0) sz) := by
  refine Met.ofW (cc := cX11_guard) (maxL := 3) (ret := (some .int)) (by decide) rfl ?_
  intro p e s m args below meth c s₁ B hml hv
  obtain ⟨rfl, ⟨hsz, hP, hK, hD0⟩, hsx⟩ := hv
  have hx := B.exec
  have hb := B.bytes
  have hts := atoms_spec (ws := (.code yX11_guard cX11_guard 3 (some .int) :: wsAll)) B.pre
  have hta := fun w h => hts w (List.mem_cons_of_mem _ h)
  have hown : s.vm.findClass RX11 = some m.cls := findClass_of_methodNamed B.named
  have hlocks := B.notSynchronized
  subst hsz
  have hD := hD0.self (sz := s.heap.size)
  generalize hAe : va_A (wX cI cJ cZ cR am gm t0) s.heap.size = A at hD ⊢
  have hA : ∀ q : Nat, s.heap.size ≤ q → A q := fun q h => by rw [← hAe]; exact Or.inr h
  have C0 : cxX p s m ([.ref (am 1011), .int a1, .int a2].toArray) meth c cX11_guard RX11 3 (some .int) D (tyX cI cJ cZ cR) st A := ⟨⟨hx, hb, B.returns, hml, hown, hta, hlocks, hK, hA⟩, by rw [← hAe]; exact hsx⟩
  have hW : wl D A s (wX cI cJ cZ cR am gm t0) s.heap [] := ⟨hP, hD, va_S.rf⟩
  have hl := lv_entry [.ref (am 1011), .int a1, .int a2] (n := 3) (Nat.le_of_ble_eq_true rfl)
  rw [lg_entry_eq]
  generalize (lg_sl [.ref (am 1011), .int a1, .int a2] ++ List.replicate (3 - (lg_sl [.ref (am 1011), .int a1, .int a2]).length) Slot.unset).toArray = ls at hl ⊢
  have hl : lv_has ls 3 [(0, .ref (am 1011)), (1, .int a1), (2, .int a2)] := hl
  clear hAe hD hP hD0 hts
  have J33 : ∀ (gm : Nat → Nat) (t : St) (w0 : Int32) (_ : x11_guard_J33 t w0 = some (r, t')) (_ : mle t0 t) (H : Heap) (locs : List Loc) (ls : Array Slot), wl D A s (wX cI cJ cZ cR am gm t) H locs → lv_has ls 3 [(0, .ref (am 1011))] → W p l e (rmA 3 106 t0 t') s m ([.ref (am 1011), .int a1, .int a2].toArray) below meth c H locs (mC t0 t) (mS t0 t) (MQ below (qIa r D (tyX cI cJ cZ cR) (fun gm => wX cI cJ cZ cR am gm t') A) ([.ref (am 1011), .int a1, .int a2].toArray) s (mC t0 t') (mS t0 t') A) (F0 m 33 ls [.int w0]) := by
    intro gm t w0 ho h0 H locs ls hW hl
    have hE : mle t t' := (mm_x11_guard_J33 _ _ _ ho)
    have hR := hR_of (t0 := t0) hE
    unfold x11_guard_J33 at ho
    refine lv_if_eq (tgt := 48) hx hb dX11_guard_33 (by decide) (fun c1 => ?_) (fun c1 => ?_)
    · replace ho := ite_t c1 ho
      refine lv_bipush (v := (-4 : Int32)) hx hb dX11_guard_48 (by decide) ?_
      cases ho
      exact rtIa gm C0.1 hW dX11_guard_50
    · replace ho := ite_f c1 ho
      refine lv_aload_n hx hb dX11_guard_36 rfl (lv_at hl 0 rfl) ?_
      refine xGET_1107 C0 kw_598 hW dX11_guard_37 ?_
      refine xGET_402 C0 kw_442 hW dX11_guard_40 ?_
      refine lv_iconst (v := (1 : Int32)) hx hb dX11_guard_43 (by decide) ?_
      refine lv_isub hx hb dX11_guard_44 ?_
      refine lv_goto (tgt := 50) hx hb dX11_guard_45 (by decide) ?_
      cases ho
      exact rtIa gm C0.1 hW dX11_guard_50
  have hE : mle t0 t' := mm_x11_guard _ _ _ _ ho
  have hR := hR_of (t0 := t0) hE
  have h0 : mle t0 t0 := mle.rfl
  refine W_0 (t0 := t0) ?_
  unfold x11_guard at ho
  refine lv_iload_n hx hb dX11_guard_0 rfl (lv_at hl 1 rfl) ?_
  refine lv_iconst (v := (0 : Int32)) hx hb dX11_guard_1 (by decide) ?_
  refine lv_ldc hx hb hown (hta _ kw_798) dX11_guard_2 ?_
  obtain ⟨q2, hc3, ho⟩ := bd_some ho
  refine bkZ C0.1 hW (runSX (As := [.int a1, .int (0 : Int32), .int (65535 : Int32)]) (rest := []) C0 hW (c_x11_outside l _ t0 a1 (0 : Int32) (65535 : Int32) (r := q2) hc3) cb_X11_X11_outside_102 rfl rfl ⟨rfl, rfl⟩ ⟨Nat.le_of_ble_eq_true rfl, Nat.le_of_ble_eq_true rfl⟩ (Nat.le_of_ble_eq_true rfl) hl.1 dX11_guard_4 ⟨hR.1, hR.2⟩) (fun z4 H locs hW => ?_)
  refine lv_if_ne (tgt := 21) hx hb dX11_guard_7 (by decide) (fun c5 => ?_) (fun c5 => ?_)
  · replace ho := ite_f c5 ho
    refine lv_bipush (v := (-2 : Int32)) hx hb dX11_guard_21 (by decide) ?_
    cases ho
    exact rtIa gm C0.1 hW dX11_guard_23
  · replace ho := ite_t c5 ho
    refine lv_iload_n hx hb dX11_guard_10 rfl (lv_at hl 2 rfl) ?_
    refine lv_iconst (v := (0 : Int32)) hx hb dX11_guard_11 (by decide) ?_
    refine lv_sipush (v := (1000 : Int32)) hx hb dX11_guard_12 (by decide) ?_
    obtain ⟨q6, hc7, ho⟩ := bd_some ho
    refine bkZ C0.1 hW (runSX (As := [.int a2, .int (0 : Int32), .int (1000 : Int32)]) (rest := []) C0 hW (c_x11_outside l _ t0 a2 (0 : Int32) (1000 : Int32) (r := q6) hc7) cb_X11_X11_outside_102 rfl rfl ⟨rfl, rfl⟩ ⟨Nat.le_of_ble_eq_true rfl, Nat.le_of_ble_eq_true rfl⟩ (Nat.le_of_ble_eq_true rfl) hl.1 dX11_guard_15 ⟨hR.1, hR.2⟩) (fun z8 H locs hW => ?_)
    refine lv_if_eq (tgt := 24) hx hb dX11_guard_18 (by decide) (fun c9 => ?_) (fun c9 => ?_)
    · replace ho := ite_t c9 ho
      refine lv_aload_n hx hb dX11_guard_24 rfl (lv_at hl 0 rfl) ?_
      refine xGET_1107 C0 kw_598 hW dX11_guard_25 ?_
      refine lv_iload_n hx hb dX11_guard_28 rfl (lv_at hl 1 rfl) ?_
      refine lv_iload_n hx hb dX11_guard_29 rfl (lv_at hl 2 rfl) ?_
      obtain ⟨q10, hc11, ho⟩ := bd_some ho
      have hq10 := mm_x4_hire t0 a1 a2 _ hc11
      have hEq10 := (mm_x11_guard_J33 _ _ _ ho)
      refine bkZa C0.1 hW h0 hq10 (runVX (As := [.int a1, .int a2]) (rest := []) C0 hW (c_x4_hire l _ t0 a1 a2 (r := q10.1) (t' := q10.2) hc11) cb_X11_X4_hire_246 4 4 rfl rfl rfl rfl rfl ⟨rfl, rfl⟩ ⟨Nat.le_of_ble_eq_true rfl, Nat.le_of_ble_eq_true rfl⟩ (Nat.le_of_ble_eq_true rfl) hl.1 dX11_guard_30 (hf_of h0 hq10 hEq10)) (fun z12 gm H locs hW => ?_)
      have h0 := mle.trans h0 hq10
      exact J33 gm _ _ ho h0 _ _ _ hW (lv_sub hl [0] rfl)
    · replace ho := ite_f c9 ho
      refine lv_bipush (v := (-2 : Int32)) hx hb dX11_guard_21 (by decide) ?_
      cases ho
      exact rtIa gm C0.1 hW dX11_guard_23
noncomputable def x11_holds (t : St) (a1 : Int32) (a2 : Int32) : Option (Int32 × St) :=
  (x11_noNet t a1).bind (fun q1 => if q1 = 0 then ((x11_outside t a2 (0 : Int32) (((1 : Int32) <<< ((gI t 402) &&& 31)) - (1 : Int32))).bind (fun q5 => if q5 = 0 then (gd a1 (gN t 602) (nm (gA t 602 (a1).toNatClampNeg) (fun x10 : Int32 => if 0 ≤ x10 then (gd a2 (gN t 403) ((x6_isReachedBy t x10 ((65535 : Int32) &&& ((gA t 403 (a2).toNatClampNeg) ^^^ (-1 : Int32)))).bind (fun q13 => if q13.1 = 0 then (some ((1 : Int32), q13.2)) else (some ((0 : Int32), q13.2))))) else (some ((-3 : Int32), t))))) else (some ((-2 : Int32), t)))) else (some ((-2 : Int32), t)))
theorem mm_x11_holds (t : St) (a1 : Int32) (a2 : Int32) : MR (x11_holds t a1 a2) t (fun (a : Int32 × St) => a.2) := by
  unfold x11_holds
  exact MR_bindn (fun q1 => MR_ite (MR_bindn (fun q5 => MR_ite (MR_gd (MR_nm (fun x10 _ => MR_ite (MR_gd (MR_bind (mm_x6_isReachedBy t x10 ((65535 : Int32) &&& ((gA t 403 (a2).toNatClampNeg) ^^^ (-1 : Int32)))) (fun q13 hq13 => MR_ite (MR_some hq13) (MR_some hq13)))) (MR_some mle.rfl)))) (MR_some mle.rfl))) (MR_some mle.rfl))
set_option maxHeartbeats 4000000 in
set_option maxRecDepth 100000 in
theorem c_x11_holds (l : Launch) {D : va_G} {cI cJ cZ cR : ClassId} {am gm : Nat → Nat} {st : Nat} (sz : Nat) (t : St) (a1 : Int32) (a2 : Int32) {r : Int32} {t' : St} (ho : x11_holds t a1 a2 = some (r, t')) : Met l yX11_holds (.code yX11_holds cX11_holds 4 (some .int) :: wsAll) (rmN 3 69) (va_Pc [.ref (am 1011), .int a1, .int a2] (prX D (tyX cI cJ cZ cR) (wX cI cJ cZ cR am gm t) sz st)) (qI r D (tyX cI cJ cZ cR) (wX cI cJ cZ cR am gm t') (va_A (wX cI cJ cZ cR am gm t) sz)) 0 0 (va_A (wX cI cJ cZ cR am gm t) sz) := by
  refine Met.ofW (cc := cX11_holds) (maxL := 4) (ret := (some .int)) (by decide) rfl ?_
  intro p e s m args below meth c s₁ B hml hv
  obtain ⟨rfl, ⟨hsz, hP, hK, hD0⟩, hsx⟩ := hv
  have hx := B.exec
  have hb := B.bytes
  have hts := atoms_spec (ws := (.code yX11_holds cX11_holds 4 (some .int) :: wsAll)) B.pre
  have hta := fun w h => hts w (List.mem_cons_of_mem _ h)
  have hown : s.vm.findClass RX11 = some m.cls := findClass_of_methodNamed B.named
  have hlocks := B.notSynchronized
  subst hsz
  have hD := hD0.self (sz := s.heap.size)
  generalize hAe : va_A (wX cI cJ cZ cR am gm t) s.heap.size = A at hD ⊢
  have hA : ∀ q : Nat, s.heap.size ≤ q → A q := fun q h => by rw [← hAe]; exact Or.inr h
  have C0 : cxX p s m ([.ref (am 1011), .int a1, .int a2].toArray) meth c cX11_holds RX11 4 (some .int) D (tyX cI cJ cZ cR) st A := ⟨⟨hx, hb, B.returns, hml, hown, hta, hlocks, hK, hA⟩, by rw [← hAe]; exact hsx⟩
  have hW : wl D A s (wX cI cJ cZ cR am gm t) s.heap [] := ⟨hP, hD, va_S.rf⟩
  have hl := lv_entry [.ref (am 1011), .int a1, .int a2] (n := 4) (Nat.le_of_ble_eq_true rfl)
  rw [lg_entry_eq]
  generalize (lg_sl [.ref (am 1011), .int a1, .int a2] ++ List.replicate (4 - (lg_sl [.ref (am 1011), .int a1, .int a2]).length) Slot.unset).toArray = ls at hl ⊢
  have hl : lv_has ls 4 [(0, .ref (am 1011)), (1, .int a1), (2, .int a2)] := hl
  unfold x11_holds at ho
  refine lv_iload_n hx hb dX11_holds_0 rfl (lv_at hl 1 rfl) ?_
  obtain ⟨q1, hc2, ho⟩ := bd_some ho
  refine bkZ C0.1 hW (runSX (As := [.int a1]) (rest := []) C0 hW (c_x11_noNet l _ t a1 (r := q1) hc2) cb_X11_X11_noNet_124 rfl rfl ⟨rfl, rfl⟩ ⟨Nat.le_of_ble_eq_true rfl, Nat.le_of_ble_eq_true rfl⟩ (Nat.le_of_ble_eq_true rfl) hl.1 dX11_holds_1 ⟨Nat.le_of_ble_eq_true rfl, Nat.le_of_ble_eq_true rfl⟩) (fun z3 H locs hW => ?_)
  refine lv_if_ne (tgt := 26) hx hb dX11_holds_4 (by decide) (fun c4 => ?_) (fun c4 => ?_)
  · replace ho := ite_f c4 ho
    refine lv_bipush (v := (-2 : Int32)) hx hb dX11_holds_26 (by decide) ?_
    cases ho
    exact rtI C0.1 hW dX11_holds_28
  · replace ho := ite_t c4 ho
    refine lv_iload_n hx hb dX11_holds_7 rfl (lv_at hl 2 rfl) ?_
    refine lv_iconst (v := (0 : Int32)) hx hb dX11_holds_8 (by decide) ?_
    refine lv_iconst (v := (1 : Int32)) hx hb dX11_holds_9 (by decide) ?_
    refine lv_aload_n hx hb dX11_holds_10 rfl (lv_at hl 0 rfl) ?_
    refine xGET_1107 C0 kw_598 hW dX11_holds_11 ?_
    refine xGET_402 C0 kw_442 hW dX11_holds_14 ?_
    refine lv_ishl hx hb dX11_holds_17 ?_
    refine lv_iconst (v := (1 : Int32)) hx hb dX11_holds_18 (by decide) ?_
    refine lv_isub hx hb dX11_holds_19 ?_
    obtain ⟨q5, hc6, ho⟩ := bd_some ho
    refine bkZ C0.1 hW (runSX (As := [.int a2, .int (0 : Int32), .int (((1 : Int32) <<< ((gI t 402) &&& 31)) - (1 : Int32))]) (rest := []) C0 hW (c_x11_outside l _ t a2 (0 : Int32) (((1 : Int32) <<< ((gI t 402) &&& 31)) - (1 : Int32)) (r := q5) hc6) cb_X11_X11_outside_102 rfl rfl ⟨rfl, rfl⟩ ⟨Nat.le_of_ble_eq_true rfl, Nat.le_of_ble_eq_true rfl⟩ (Nat.le_of_ble_eq_true rfl) hl.1 dX11_holds_20 ⟨Nat.le_of_ble_eq_true rfl, Nat.le_of_ble_eq_true rfl⟩) (fun z7 H locs hW => ?_)
    refine lv_if_eq (tgt := 29) hx hb dX11_holds_23 (by decide) (fun c8 => ?_) (fun c8 => ?_)
    · replace ho := ite_t c8 ho
      refine lv_aload_n hx hb dX11_holds_29 rfl (lv_at hl 0 rfl) ?_
      refine xGET_1101 C0 kw_592 hW dX11_holds_30 ?_
      refine xGET_602 C0 kw_184 hW dX11_holds_33 ?_
      refine lv_iload_n hx hb dX11_holds_36 rfl (lv_at hl 1 rfl) ?_
      obtain ⟨g9, ho⟩ := gd_some ho
      refine xLD_602 C0 hW g9 dX11_holds_37 ?_
      refine lv_nmi ho (fun x10 ho => ?_)
      refine lv_istore_n (lv' := [(3, .int x10), (0, .ref (am 1011)), (1, .int a1), (2, .int a2)]) hx hb dX11_holds_38 rfl hl (by decide) rfl (fun ls hl => ?_)
      refine lv_iload_n hx hb dX11_holds_39 rfl (lv_at hl 0 rfl) ?_
      refine lv_if_ge (tgt := 46) hx hb dX11_holds_40 (by decide) (fun c11 => ?_) (fun c11 => ?_)
      · replace ho := ite_t c11 ho
        refine lv_aload_n hx hb dX11_holds_46 rfl (lv_at hl 1 rfl) ?_
        refine xGET_1101 C0 kw_592 hW dX11_holds_47 ?_
        refine lv_iload_n hx hb dX11_holds_50 rfl (lv_at hl 0 rfl) ?_
        refine lv_ldc hx hb hown (hta _ kw_798) dX11_holds_51 ?_
        refine lv_aload_n hx hb dX11_holds_53 rfl (lv_at hl 1 rfl) ?_
        refine xGET_1107 C0 kw_598 hW dX11_holds_54 ?_
        refine xGET_403 C0 kw_444 hW dX11_holds_57 ?_
        refine lv_iload_n hx hb dX11_holds_60 rfl (lv_at hl 3 rfl) ?_
        obtain ⟨g12, ho⟩ := gd_some ho
        refine xLD_403 C0 hW g12 dX11_holds_61 ?_
        refine lv_iconst (v := (-1 : Int32)) hx hb dX11_holds_62 (by decide) ?_
        refine lv_ixor hx hb dX11_holds_63 ?_
        refine lv_iand hx hb dX11_holds_64 ?_
        obtain ⟨q13, hc14, ho⟩ := bd_some ho
        refine bkZ C0.1 hW (runVX (As := [.int x10, .int ((65535 : Int32) &&& ((gA t 403 (a2).toNatClampNeg) ^^^ (-1 : Int32)))]) (rest := []) C0 hW (c_x6_isReachedBy l _ t x10 ((65535 : Int32) &&& ((gA t 403 (a2).toNatClampNeg) ^^^ (-1 : Int32))) (r := q13.1) (t' := q13.2) hc14) cb_X11_X6_isReachedBy_163 6 6 rfl rfl rfl rfl rfl ⟨rfl, rfl⟩ ⟨Nat.le_of_ble_eq_true rfl, Nat.le_of_ble_eq_true rfl⟩ (Nat.le_of_ble_eq_true rfl) hl.1 dX11_holds_65 ⟨Nat.le_of_ble_eq_true rfl, Nat.le_of_ble_eq_true rfl⟩) (fun z15 H locs hW => ?_)
        refine lv_if_eq (tgt := 75) hx hb dX11_holds_68 (by decide) (fun c16 => ?_) (fun c16 => ?_)
        · replace ho := ite_t c16 ho
          refine lv_iconst (v := (1 : Int32)) hx hb dX11_holds_75 (by decide) ?_
          cases ho
          exact rtI C0.1 hW dX11_holds_76
        · replace ho := ite_f c16 ho
          refine lv_iconst (v := (0 : Int32)) hx hb dX11_holds_71 (by decide) ?_
          refine lv_goto (tgt := 76) hx hb dX11_holds_72 (by decide) ?_
          cases ho
          exact rtI C0.1 hW dX11_holds_76
      · replace ho := ite_f c11 ho
        refine lv_bipush (v := (-3 : Int32)) hx hb dX11_holds_43 (by decide) ?_
        cases ho
        exact rtI C0.1 hW dX11_holds_45
    · replace ho := ite_f c8 ho
      refine lv_bipush (v := (-2 : Int32)) hx hb dX11_holds_26 (by decide) ?_
      cases ho
      exact rtI C0.1 hW dX11_holds_28
noncomputable def x4_isCheaper (t : St) (a1 : Int32) (a2 : Int32) : Option (Int32) :=
  gd a1 (gN t 404) (gd a2 (gN t 404) (if (gA t 404 (a1).toNatClampNeg) = (gA t 404 (a2).toNatClampNeg) then ((j6_bitCount_0f7a4 t a1).bind (fun q4 => (j6_bitCount_0f7a4 t a2).bind (fun q6 => if q6 ≤ q4 then (some (0 : Int32)) else (some (1 : Int32))))) else (gd a1 (gN t 404) (gd a2 (gN t 404) (if (gA t 404 (a2).toNatClampNeg) ≤ (gA t 404 (a1).toNatClampNeg) then (some (0 : Int32)) else (some (1 : Int32)))))))
set_option maxHeartbeats 4000000 in
set_option maxRecDepth 100000 in
theorem c_x4_isCheaper (l : Launch) {D : va_G} {cI cJ cZ cR : ClassId} {am gm : Nat → Nat} {st : Nat} (sz : Nat) (t : St) (a1 : Int32) (a2 : Int32) {r : Int32} (ho : x4_isCheaper t a1 a2 = some r) : Met l yX4_isCheaper (.code yX4_isCheaper cX4_isCheaper 3 (some .boolean) :: wsAll) (rmN 1 20) (va_Pc [.ref (am 1004), .int a1, .int a2] (prX D (tyX cI cJ cZ cR) (wX cI cJ cZ cR am gm t) sz st)) (qZ r D (tyX cI cJ cZ cR) (wX cI cJ cZ cR am gm t) (va_A (wX cI cJ cZ cR am gm t) sz)) 0 0 (va_A (wX cI cJ cZ cR am gm t) sz) := by
  refine Met.ofW (cc := cX4_isCheaper) (maxL := 3) (ret := (some .boolean)) (by decide) rfl ?_
  intro p e s m args below meth c s₁ B hml hv
  obtain ⟨rfl, ⟨hsz, hP, hK, hD0⟩, hsx⟩ := hv
  have hx := B.exec
  have hb := B.bytes
  have hts := atoms_spec (ws := (.code yX4_isCheaper cX4_isCheaper 3 (some .boolean) :: wsAll)) B.pre
  have hta := fun w h => hts w (List.mem_cons_of_mem _ h)
  have hown : s.vm.findClass RX4 = some m.cls := findClass_of_methodNamed B.named
  have hlocks := B.notSynchronized
  subst hsz
  have hD := hD0.self (sz := s.heap.size)
  generalize hAe : va_A (wX cI cJ cZ cR am gm t) s.heap.size = A at hD ⊢
  have hA : ∀ q : Nat, s.heap.size ≤ q → A q := fun q h => by rw [← hAe]; exact Or.inr h
  have C0 : cxX p s m ([.ref (am 1004), .int a1, .int a2].toArray) meth c cX4_isCheaper RX4 3 (some .boolean) D (tyX cI cJ cZ cR) st A := ⟨⟨hx, hb, B.returns, hml, hown, hta, hlocks, hK, hA⟩, by rw [← hAe]; exact hsx⟩
  have hW : wl D A s (wX cI cJ cZ cR am gm t) s.heap [] := ⟨hP, hD, va_S.rf⟩
  have hl := lv_entry [.ref (am 1004), .int a1, .int a2] (n := 3) (Nat.le_of_ble_eq_true rfl)
  rw [lg_entry_eq]
  generalize (lg_sl [.ref (am 1004), .int a1, .int a2] ++ List.replicate (3 - (lg_sl [.ref (am 1004), .int a1, .int a2]).length) Slot.unset).toArray = ls at hl ⊢
  have hl : lv_has ls 3 [(0, .ref (am 1004)), (1, .int a1), (2, .int a2)] := hl
  unfold x4_isCheaper at ho
  refine lv_aload_n hx hb dX4_isCheaper_0 rfl (lv_at hl 0 rfl) ?_
  refine xGET_404 C0 kw_445 hW dX4_isCheaper_1 ?_
  refine lv_iload_n hx hb dX4_isCheaper_4 rfl (lv_at hl 1 rfl) ?_
  obtain ⟨g1, ho⟩ := gd_some ho
  refine xLD_404 C0 hW g1 dX4_isCheaper_5 ?_
  refine lv_aload_n hx hb dX4_isCheaper_6 rfl (lv_at hl 0 rfl) ?_
  refine xGET_404 C0 kw_445 hW dX4_isCheaper_7 ?_
  refine lv_iload_n hx hb dX4_isCheaper_10 rfl (lv_at hl 2 rfl) ?_
  obtain ⟨g2, ho⟩ := gd_some ho
  refine xLD_404 C0 hW g2 dX4_isCheaper_11 ?_
  refine lv_icmp_eq (tgt := 36) hx hb dX4_isCheaper_12 (by decide) (fun c3 => ?_) (fun c3 => ?_)
  · replace ho := ite_t c3 ho
    refine lv_iload_n hx hb dX4_isCheaper_36 rfl (lv_at hl 1 rfl) ?_
    obtain ⟨q4, hc5, ho⟩ := bd_some ho
    refine bkI C0.1 hW (runSX (As := [.int a1]) (rest := []) C0 hW (c_j6_bitCount_0f7a4 l _ t a1 (r := q4) hc5) cb_X4_J6_bitCount_0f7a4_78 rfl rfl ⟨rfl, rfl⟩ ⟨Nat.le_of_ble_eq_true rfl, Nat.le_of_ble_eq_true rfl⟩ (Nat.le_of_ble_eq_true rfl) hl.1 dX4_isCheaper_37 ⟨Nat.le_of_ble_eq_true rfl, Nat.le_of_ble_eq_true rfl⟩) (fun H locs hW => ?_)
    refine lv_iload_n hx hb dX4_isCheaper_40 rfl (lv_at hl 2 rfl) ?_
    obtain ⟨q6, hc7, ho⟩ := bd_some ho
    refine bkI C0.1 hW (runSX (As := [.int a2]) (rest := [.int q4]) C0 hW (c_j6_bitCount_0f7a4 l _ t a2 (r := q6) hc7) cb_X4_J6_bitCount_0f7a4_78 rfl rfl ⟨rfl, rfl⟩ ⟨Nat.le_of_ble_eq_true rfl, Nat.le_of_ble_eq_true rfl⟩ (Nat.le_of_ble_eq_true rfl) hl.1 dX4_isCheaper_41 ⟨Nat.le_of_ble_eq_true rfl, Nat.le_of_ble_eq_true rfl⟩) (fun H locs hW => ?_)
    refine lv_icmp_ge (tgt := 51) hx hb dX4_isCheaper_44 (by decide) (fun c8 => ?_) (fun c8 => ?_)
    · replace ho := ite_t c8 ho
      refine lv_iconst (v := (0 : Int32)) hx hb dX4_isCheaper_51 (by decide) ?_
      cases ho
      exact rtZ C0.1 hW (Or.inl (rfl : (0 : Int32) = 0)) dX4_isCheaper_52
    · replace ho := ite_f c8 ho
      refine lv_iconst (v := (1 : Int32)) hx hb dX4_isCheaper_47 (by decide) ?_
      refine lv_goto (tgt := 52) hx hb dX4_isCheaper_48 (by decide) ?_
      cases ho
      exact rtZ C0.1 hW (Or.inr (rfl : (1 : Int32) = 1)) dX4_isCheaper_52
  · replace ho := ite_f c3 ho
    refine lv_aload_n hx hb dX4_isCheaper_15 rfl (lv_at hl 0 rfl) ?_
    refine xGET_404 C0 kw_445 hW dX4_isCheaper_16 ?_
    refine lv_iload_n hx hb dX4_isCheaper_19 rfl (lv_at hl 1 rfl) ?_
    obtain ⟨g9, ho⟩ := gd_some ho
    refine xLD_404 C0 hW g9 dX4_isCheaper_20 ?_
    refine lv_aload_n hx hb dX4_isCheaper_21 rfl (lv_at hl 0 rfl) ?_
    refine xGET_404 C0 kw_445 hW dX4_isCheaper_22 ?_
    refine lv_iload_n hx hb dX4_isCheaper_25 rfl (lv_at hl 2 rfl) ?_
    obtain ⟨g10, ho⟩ := gd_some ho
    refine xLD_404 C0 hW g10 dX4_isCheaper_26 ?_
    refine lv_icmp_ge (tgt := 34) hx hb dX4_isCheaper_27 (by decide) (fun c11 => ?_) (fun c11 => ?_)
    · replace ho := ite_t c11 ho
      refine lv_iconst (v := (0 : Int32)) hx hb dX4_isCheaper_34 (by decide) ?_
      cases ho
      exact rtZ C0.1 hW (Or.inl (rfl : (0 : Int32) = 0)) dX4_isCheaper_35
    · replace ho := ite_f c11 ho
      refine lv_iconst (v := (1 : Int32)) hx hb dX4_isCheaper_30 (by decide) ?_
      refine lv_goto (tgt := 35) hx hb dX4_isCheaper_31 (by decide) ?_
      cases ho
      exact rtZ C0.1 hW (Or.inr (rfl : (1 : Int32) = 1)) dX4_isCheaper_35
noncomputable def x4_leastHolding_J38 (t : St) (v2 : Int32) (v3 : Int32) : Option ((Int32 × Int32) ⊕ (Int32)) :=
  gd v3 (gN t 403) ((x8_narrowed t ((65535 : Int32) &&& ((gA t 403 (v3).toNatClampNeg) ^^^ (-1 : Int32)))).bind (fun q2 => (x8_bit t q2).bind (fun q4 => if q4 = 0 then (nm (v3 + (1 : Int32)) (fun x8 : Int32 => some (.inl (v3, x8)))) else (nm (v3 + (1 : Int32)) (fun x7 : Int32 => some (.inl (v2, x7)))))))
noncomputable def x4_leastHolding_B12 (t : St) (v2 : Int32) (v3 : Int32) : Option ((Int32 × Int32) ⊕ (Int32)) :=
  if ((1 : Int32) <<< ((gI t 402) &&& 31)) ≤ v3 then (some (.inr v2)) else (if v2 < 0 then (x4_leastHolding_J38 t v2 v3) else ((x4_isCheaper t v3 v2).bind (fun q11 => if q11 = 0 then (nm (v3 + (1 : Int32)) (fun x15 : Int32 => some (.inl (v2, x15)))) else (x4_leastHolding_J38 t v2 v3))))
noncomputable def x4_leastHolding_J8 (t : St) : Option (Int32 × St) :=
  (lp (fun x => x4_leastHolding_B12 t x.1 x.2) ((-1 : Int32), (0 : Int32))).bind (fun y16 => some (y16, t))
theorem mm_x4_leastHolding_J8 (t : St) : MR (x4_leastHolding_J8 t) t (fun (a : Int32 × St) => a.2) := by
  unfold x4_leastHolding_J8
  exact MR_bindn (fun y16 => MR_some mle.rfl)
noncomputable def x4_leastHolding (t0 : St) (a1 : Int32) : Option (Int32 × St) :=
  (x8_fillFor t0 a1).bind (fun q19 => x4_leastHolding_J8 q19)
theorem mm_x4_leastHolding (t0 : St) (a1 : Int32) : MR (x4_leastHolding t0 a1) t0 (fun (a : Int32 × St) => a.2) := by
  unfold x4_leastHolding
  exact MR_bind (mm_x8_fillFor t0 a1) (fun q19 hq19 => MR_wk hq19 (mm_x4_leastHolding_J8 q19))
set_option maxHeartbeats 4000000 in
set_option maxRecDepth 100000 in
theorem x4_leastHolding_L12 {p : Program} {l : Launch} {e : Env} {s : State} {m : MethodId} {args : Array Value} {below : List Frame} {meth : Method} {c : Code} {Q : State → Prop} {D : va_G} {cI cJ cZ cR : ClassId} {am gm : Nat → Nat} {st : Nat} {A : Nat → Prop} (C0 : cxX p s m args meth c cX4_leastHolding RX4 4 (some .int) D (tyX cI cJ cZ cR) st A) {t0 t' : St} {cells slots : Nat} (hR : cells ≤ mC t0 t' ∧ slots ≤ mS t0 t') {t : St} {y : Int32} (hK0 : ∀ (H : Heap) (locs : List Loc) (ls : Array Slot), wl D A s (wX cI cJ cZ cR am gm t) H locs → lv_has ls 4 [(0, .ref (am 1004)), (2, .int y)] → W p l e (rmA 4 97 t0 t') s m args below meth c H locs cells slots Q (F0 m 74 ls [])) :
    ∀ (n : Nat) (v2 : Int32) (v3 : Int32), lpn (fun x => x4_leastHolding_B12 t x.1 x.2) n (v2, v3) = some y → ∀ (H : Heap) (locs : List Loc) (ls : Array Slot), wl D A s (wX cI cJ cZ cR am gm t) H locs → lv_has ls 4 [(0, .ref (am 1004)), (2, .int v2), (3, .int v3)] → W p l e (rmA 4 97 t0 t') s m args below meth c H locs cells slots Q (F0 m 12 ls []) := by
  have hx := C0.1.1
  have hb := C0.1.2.1
  have hta := C0.1.2.2.2.2.2.1
  have hown := C0.1.2.2.2.2.1
  intro n
  induction n with
  | zero => intro _ _ h; cases h
  | succ n ih =>
    intro v2 v3 hrun H locs ls hW hl
    obtain ⟨o, ho, hrun⟩ := bd_some hrun
    have J38 : ∀ (v2 : Int32) (v3 : Int32) (_ : x4_leastHolding_J38 t v2 v3 = some o) (H : Heap) (locs : List Loc) (ls : Array Slot), wl D A s (wX cI cJ cZ cR am gm t) H locs → lv_has ls 4 [(0, .ref (am 1004)), (2, .int v2), (3, .int v3)] → W p l e (rmA 4 97 t0 t') s m args below meth c H locs cells slots Q (F0 m 38 ls []) := by
      intro v2 v3 ho H locs ls hW hl
      unfold x4_leastHolding_J38 at ho
      refine lv_aload_n hx hb dX4_leastHolding_38 rfl (lv_at hl 0 rfl) ?_
      refine xGET_400 C0 kw_439 hW dX4_leastHolding_39 ?_
      refine lv_aload_n hx hb dX4_leastHolding_42 rfl (lv_at hl 0 rfl) ?_
      refine xGET_400 C0 kw_439 hW dX4_leastHolding_43 ?_
      refine lv_ldc hx hb hown (hta _ kw_1104) dX4_leastHolding_46 ?_
      refine lv_aload_n hx hb dX4_leastHolding_48 rfl (lv_at hl 0 rfl) ?_
      refine xGET_403 C0 kw_443 hW dX4_leastHolding_49 ?_
      refine lv_iload_n hx hb dX4_leastHolding_52 rfl (lv_at hl 2 rfl) ?_
      obtain ⟨g1, ho⟩ := gd_some ho
      refine xLD_403 C0 hW g1 dX4_leastHolding_53 ?_
      refine lv_iconst (v := (-1 : Int32)) hx hb dX4_leastHolding_54 (by decide) ?_
      refine lv_ixor hx hb dX4_leastHolding_55 ?_
      refine lv_iand hx hb dX4_leastHolding_56 ?_
      obtain ⟨q2, hc3, ho⟩ := bd_some ho
      refine bkI C0.1 hW (runVX (As := [.int ((65535 : Int32) &&& ((gA t 403 (v3).toNatClampNeg) ^^^ (-1 : Int32)))]) (rest := [.ref (am 1008)]) C0 hW (c_x8_narrowed l _ t ((65535 : Int32) &&& ((gA t 403 (v3).toNatClampNeg) ^^^ (-1 : Int32))) (r := q2) hc3) cb_X4_X8_narrowed_71 8 8 rfl rfl rfl rfl rfl ⟨rfl, rfl⟩ ⟨Nat.le_of_ble_eq_true rfl, Nat.le_of_ble_eq_true rfl⟩ (Nat.le_of_ble_eq_true rfl) hl.1 dX4_leastHolding_57 ⟨hR.1, hR.2⟩) (fun H locs hW => ?_)
      obtain ⟨q4, hc5, ho⟩ := bd_some ho
      refine bkI C0.1 hW (runVX (As := [.int q2]) (rest := []) C0 hW (c_x8_bit l _ t q2 (r := q4) hc5) cb_X4_X8_bit_75 8 8 rfl rfl rfl rfl rfl ⟨rfl, rfl⟩ ⟨Nat.le_of_ble_eq_true rfl, Nat.le_of_ble_eq_true rfl⟩ (Nat.le_of_ble_eq_true rfl) hl.1 dX4_leastHolding_60 ⟨hR.1, hR.2⟩) (fun H locs hW => ?_)
      refine lv_if_ne (tgt := 68) hx hb dX4_leastHolding_63 (by decide) (fun c6 => ?_) (fun c6 => ?_)
      · replace ho := ite_f c6 ho
        obtain ⟨x7, ex7, ho⟩ := nm_x ho
        refine lv_iinc (v := x7) (lv' := [(3, .int x7), (0, .ref (am 1004)), (2, .int v2)]) hx hb dX4_leastHolding_68 hl (k := 2) rfl (by rw [ex7]; rfl) (by decide) rfl (fun ls hl => ?_)
        clear ex7
        refine lv_goto (tgt := 12) hx hb dX4_leastHolding_71 (by decide) ?_
        cases ho
        exact ih _ _ hrun _ _ _ hW (lv_sub hl [1, 2, 0] rfl)
      · replace ho := ite_t c6 ho
        refine lv_iload_n hx hb dX4_leastHolding_66 rfl (lv_at hl 2 rfl) ?_
        refine lv_istore_n (lv' := [(2, .int v3), (0, .ref (am 1004)), (3, .int v3)]) hx hb dX4_leastHolding_67 rfl hl (by decide) rfl (fun ls hl => ?_)
        obtain ⟨x8, ex8, ho⟩ := nm_x ho
        refine lv_iinc (v := x8) (lv' := [(3, .int x8), (2, .int v3), (0, .ref (am 1004))]) hx hb dX4_leastHolding_68 hl (k := 2) rfl (by rw [ex8]; rfl) (by decide) rfl (fun ls hl => ?_)
        clear ex8
        refine lv_goto (tgt := 12) hx hb dX4_leastHolding_71 (by decide) ?_
        cases ho
        exact ih _ _ hrun _ _ _ hW (lv_sub hl [2, 1, 0] rfl)
    unfold x4_leastHolding_B12 at ho
    refine lv_iload_n hx hb dX4_leastHolding_12 rfl (lv_at hl 2 rfl) ?_
    refine lv_iconst (v := (1 : Int32)) hx hb dX4_leastHolding_13 (by decide) ?_
    refine lv_aload_n hx hb dX4_leastHolding_14 rfl (lv_at hl 0 rfl) ?_
    refine xGET_402 C0 kw_441 hW dX4_leastHolding_15 ?_
    refine lv_ishl hx hb dX4_leastHolding_18 ?_
    refine lv_icmp_ge (tgt := 74) hx hb dX4_leastHolding_19 (by decide) (fun c9 => ?_) (fun c9 => ?_)
    · replace ho := ite_t c9 ho
      cases ho
      cases hrun
      exact hK0 _ _ _ hW (lv_sub hl [0, 1] rfl)
    · replace ho := ite_f c9 ho
      refine lv_iload_n hx hb dX4_leastHolding_22 rfl (lv_at hl 1 rfl) ?_
      refine lv_if_lt (tgt := 38) hx hb dX4_leastHolding_23 (by decide) (fun c10 => ?_) (fun c10 => ?_)
      · replace ho := ite_t c10 ho
        exact J38 _ _ ho _ _ _ hW (lv_sub hl [0, 1, 2] rfl)
      · replace ho := ite_f c10 ho
        refine lv_aload_n hx hb dX4_leastHolding_26 rfl (lv_at hl 0 rfl) ?_
        refine lv_iload_n hx hb dX4_leastHolding_27 rfl (lv_at hl 2 rfl) ?_
        refine lv_iload_n hx hb dX4_leastHolding_28 rfl (lv_at hl 1 rfl) ?_
        obtain ⟨q11, hc12, ho⟩ := bd_some ho
        refine bkZ C0.1 hW (runVX (As := [.int v3, .int v2]) (rest := []) C0 hW (c_x4_isCheaper l _ t v3 v2 (r := q11) hc12) cb_X4_X4_isCheaper_66 4 4 rfl rfl rfl rfl rfl ⟨rfl, rfl⟩ ⟨Nat.le_of_ble_eq_true rfl, Nat.le_of_ble_eq_true rfl⟩ (Nat.le_of_ble_eq_true rfl) hl.1 dX4_leastHolding_29 ⟨hR.1, hR.2⟩) (fun z13 H locs hW => ?_)
        refine lv_if_ne (tgt := 38) hx hb dX4_leastHolding_32 (by decide) (fun c14 => ?_) (fun c14 => ?_)
        · replace ho := ite_f c14 ho
          exact J38 _ _ ho _ _ _ hW (lv_sub hl [0, 1, 2] rfl)
        · replace ho := ite_t c14 ho
          refine lv_goto (tgt := 68) hx hb dX4_leastHolding_35 (by decide) ?_
          obtain ⟨x15, ex15, ho⟩ := nm_x ho
          refine lv_iinc (v := x15) (lv' := [(3, .int x15), (0, .ref (am 1004)), (2, .int v2)]) hx hb dX4_leastHolding_68 hl (k := 2) rfl (by rw [ex15]; rfl) (by decide) rfl (fun ls hl => ?_)
          clear ex15
          refine lv_goto (tgt := 12) hx hb dX4_leastHolding_71 (by decide) ?_
          cases ho
          exact ih _ _ hrun _ _ _ hW (lv_sub hl [1, 2, 0] rfl)
set_option maxHeartbeats 4000000 in
set_option maxRecDepth 100000 in
theorem c_x4_leastHolding (l : Launch) {D : va_G} {cI cJ cZ cR : ClassId} {am gm : Nat → Nat} {st : Nat} (sz : Nat) (t0 : St) (a1 : Int32) {r : Int32} {t' : St} (ho : x4_leastHolding t0 a1 = some (r, t')) : Met l yX4_leastHolding (.code yX4_leastHolding cX4_leastHolding 4 (some .int) :: wsAll) (rmA 4 97 t0 t') (va_Pc [.ref (am 1004), .int a1] (prX D (tyX cI cJ cZ cR) (wX cI cJ cZ cR am gm t0) sz st)) (qIa r D (tyX cI cJ cZ cR) (fun gm => wX cI cJ cZ cR am gm t') (va_A (wX cI cJ cZ cR am gm t0) sz)) (mC t0 t') (mS t0 t') (va_A (wX cI cJ cZ cR am gm t0) sz) := by
  refine Met.ofW (cc := cX4_leastHolding) (maxL := 4) (ret := (some .int)) (by decide) rfl ?_
  intro p e s m args below meth c s₁ B hml hv
  obtain ⟨rfl, ⟨hsz, hP, hK, hD0⟩, hsx⟩ := hv
  have hx := B.exec
  have hb := B.bytes
  have hts := atoms_spec (ws := (.code yX4_leastHolding cX4_leastHolding 4 (some .int) :: wsAll)) B.pre
  have hta := fun w h => hts w (List.mem_cons_of_mem _ h)
  have hown : s.vm.findClass RX4 = some m.cls := findClass_of_methodNamed B.named
  have hlocks := B.notSynchronized
  subst hsz
  have hD := hD0.self (sz := s.heap.size)
  generalize hAe : va_A (wX cI cJ cZ cR am gm t0) s.heap.size = A at hD ⊢
  have hA : ∀ q : Nat, s.heap.size ≤ q → A q := fun q h => by rw [← hAe]; exact Or.inr h
  have C0 : cxX p s m ([.ref (am 1004), .int a1].toArray) meth c cX4_leastHolding RX4 4 (some .int) D (tyX cI cJ cZ cR) st A := ⟨⟨hx, hb, B.returns, hml, hown, hta, hlocks, hK, hA⟩, by rw [← hAe]; exact hsx⟩
  have hW : wl D A s (wX cI cJ cZ cR am gm t0) s.heap [] := ⟨hP, hD, va_S.rf⟩
  have hl := lv_entry [.ref (am 1004), .int a1] (n := 4) (Nat.le_of_ble_eq_true rfl)
  rw [lg_entry_eq]
  generalize (lg_sl [.ref (am 1004), .int a1] ++ List.replicate (4 - (lg_sl [.ref (am 1004), .int a1]).length) Slot.unset).toArray = ls at hl ⊢
  have hl : lv_has ls 4 [(0, .ref (am 1004)), (1, .int a1)] := hl
  clear hAe hD hP hD0 hts
  have J8 : ∀ (gm : Nat → Nat) (t : St) (_ : x4_leastHolding_J8 t = some (r, t')) (_ : mle t0 t) (H : Heap) (locs : List Loc) (ls : Array Slot), wl D A s (wX cI cJ cZ cR am gm t) H locs → lv_has ls 4 [(0, .ref (am 1004))] → W p l e (rmA 4 97 t0 t') s m ([.ref (am 1004), .int a1].toArray) below meth c H locs (mC t0 t) (mS t0 t) (MQ below (qIa r D (tyX cI cJ cZ cR) (fun gm => wX cI cJ cZ cR am gm t') A) ([.ref (am 1004), .int a1].toArray) s (mC t0 t') (mS t0 t') A) (F0 m 8 ls []) := by
    intro gm t ho h0 H locs ls hW hl
    have hE : mle t t' := (mm_x4_leastHolding_J8 _ _ ho)
    have hR := hR_of (t0 := t0) hE
    unfold x4_leastHolding_J8 at ho
    refine lv_iconst (v := (-1 : Int32)) hx hb dX4_leastHolding_8 (by decide) ?_
    refine lv_istore_n (lv' := [(2, .int (-1 : Int32)), (0, .ref (am 1004))]) hx hb dX4_leastHolding_9 rfl hl (by decide) rfl (fun ls hl => ?_)
    refine lv_iconst (v := (0 : Int32)) hx hb dX4_leastHolding_10 (by decide) ?_
    refine lv_istore_n (lv' := [(3, .int (0 : Int32)), (2, .int (-1 : Int32)), (0, .ref (am 1004))]) hx hb dX4_leastHolding_11 rfl hl (by decide) rfl (fun ls hl => ?_)
    obtain ⟨y16, hc18, ho⟩ := bd_some ho
    obtain ⟨ny16, hc18⟩ := lp_to hc18
    refine x4_leastHolding_L12 C0 hR ?_ ny16 _ _ hc18 _ _ _ hW (lv_sub hl [2, 1, 0] rfl)
    intro H locs ls hW hl
    refine lv_iload_n hx hb dX4_leastHolding_74 rfl (lv_at hl 1 rfl) ?_
    cases ho
    exact rtIa gm C0.1 hW dX4_leastHolding_75
  have hE : mle t0 t' := mm_x4_leastHolding _ _ _ ho
  have hR := hR_of (t0 := t0) hE
  have h0 : mle t0 t0 := mle.rfl
  refine W_0 (t0 := t0) ?_
  unfold x4_leastHolding at ho
  refine lv_aload_n hx hb dX4_leastHolding_0 rfl (lv_at hl 0 rfl) ?_
  refine xGET_400 C0 kw_439 hW dX4_leastHolding_1 ?_
  refine lv_iload_n hx hb dX4_leastHolding_4 rfl (lv_at hl 1 rfl) ?_
  obtain ⟨q19, hc20, ho⟩ := bd_some ho
  have hq19 := mm_x8_fillFor t0 a1 _ hc20
  have hEq19 := (mm_x4_leastHolding_J8 _ _ ho)
  refine bkVa C0.1 hW h0 hq19 (runVX (As := [.int a1]) (rest := []) C0 hW (c_x8_fillFor l _ t0 a1 (t' := q19) hc20) cb_X4_X8_fillFor_60 8 8 rfl rfl rfl rfl rfl ⟨rfl, rfl⟩ ⟨Nat.le_of_ble_eq_true rfl, Nat.le_of_ble_eq_true rfl⟩ (Nat.le_of_ble_eq_true rfl) hl.1 dX4_leastHolding_5 (hf_of h0 hq19 hEq19)) (fun gm H locs hW => ?_)
  have h0 := mle.trans h0 hq19
  exact J8 gm _ ho h0 _ _ _ hW (lv_sub hl [0] rfl)
noncomputable def x11_leastGuards_J37 (t : St) (w0 : Int32) : Option (Int32 × St) :=
  some (w0, t)
theorem mm_x11_leastGuards_J37 (t : St) (w0 : Int32) : MR (x11_leastGuards_J37 t w0) t (fun (a : Int32 × St) => a.2) := by
  unfold x11_leastGuards_J37
  exact MR_some mle.rfl
noncomputable def x11_leastGuards (t0 : St) (a1 : Int32) : Option (Int32 × St) :=
  (x11_noNet t0 a1).bind (fun q1 => if q1 = 0 then (gd a1 (gN t0 602) (nm (gA t0 602 (a1).toNatClampNeg) (fun x6 : Int32 => if 0 ≤ x6 then ((x4_leastHolding t0 x6).bind (fun q8 => x11_leastGuards_J37 q8.2 q8.1)) else (x11_leastGuards_J37 t0 (-3 : Int32))))) else (some ((-2 : Int32), t0)))
theorem mm_x11_leastGuards (t0 : St) (a1 : Int32) : MR (x11_leastGuards t0 a1) t0 (fun (a : Int32 × St) => a.2) := by
  unfold x11_leastGuards
  exact MR_bindn (fun q1 => MR_ite (MR_gd (MR_nm (fun x6 _ => MR_ite (MR_bind (mm_x4_leastHolding t0 x6) (fun q8 hq8 => MR_wk hq8 (mm_x11_leastGuards_J37 q8.2 q8.1))) (MR_wk mle.rfl (mm_x11_leastGuards_J37 t0 (-3 : Int32)))))) (MR_some mle.rfl))
set_option maxHeartbeats 4000000 in
set_option maxRecDepth 100000 in
theorem c_x11_leastGuards (l : Launch) {D : va_G} {cI cJ cZ cR : ClassId} {am gm : Nat → Nat} {st : Nat} (sz : Nat) (t0 : St) (a1 : Int32) {r : Int32} {t' : St} (ho : x11_leastGuards t0 a1 = some (r, t')) : Met l yX11_leastGuards (.code yX11_leastGuards cX11_leastGuards 3 (some .int) :: wsAll) (rmA 5 120 t0 t') (va_Pc [.ref (am 1011), .int a1] (prX D (tyX cI cJ cZ cR) (wX cI cJ cZ cR am gm t0) sz st)) (qIa r D (tyX cI cJ cZ cR) (fun gm => wX cI cJ cZ cR am gm t') (va_A (wX cI cJ cZ cR am gm t0) sz)) (mC t0 t') (mS t0 t') (va_A (wX cI cJ cZ cR am gm t0) sz) := by
  refine Met.ofW (cc := cX11_leastGuards) (maxL := 3) (ret := (some .int)) (by decide) rfl ?_
  intro p e s m args below meth c s₁ B hml hv
  obtain ⟨rfl, ⟨hsz, hP, hK, hD0⟩, hsx⟩ := hv
  have hx := B.exec
  have hb := B.bytes
  have hts := atoms_spec (ws := (.code yX11_leastGuards cX11_leastGuards 3 (some .int) :: wsAll)) B.pre
  have hta := fun w h => hts w (List.mem_cons_of_mem _ h)
  have hown : s.vm.findClass RX11 = some m.cls := findClass_of_methodNamed B.named
  have hlocks := B.notSynchronized
  subst hsz
  have hD := hD0.self (sz := s.heap.size)
  generalize hAe : va_A (wX cI cJ cZ cR am gm t0) s.heap.size = A at hD ⊢
  have hA : ∀ q : Nat, s.heap.size ≤ q → A q := fun q h => by rw [← hAe]; exact Or.inr h
  have C0 : cxX p s m ([.ref (am 1011), .int a1].toArray) meth c cX11_leastGuards RX11 3 (some .int) D (tyX cI cJ cZ cR) st A := ⟨⟨hx, hb, B.returns, hml, hown, hta, hlocks, hK, hA⟩, by rw [← hAe]; exact hsx⟩
  have hW : wl D A s (wX cI cJ cZ cR am gm t0) s.heap [] := ⟨hP, hD, va_S.rf⟩
  have hl := lv_entry [.ref (am 1011), .int a1] (n := 3) (Nat.le_of_ble_eq_true rfl)
  rw [lg_entry_eq]
  generalize (lg_sl [.ref (am 1011), .int a1] ++ List.replicate (3 - (lg_sl [.ref (am 1011), .int a1]).length) Slot.unset).toArray = ls at hl ⊢
  have hl : lv_has ls 3 [(0, .ref (am 1011)), (1, .int a1)] := hl
  clear hAe hD hP hD0 hts
  have J37 : ∀ (gm : Nat → Nat) (t : St) (w0 : Int32) (_ : x11_leastGuards_J37 t w0 = some (r, t')) (_ : mle t0 t) (H : Heap) (locs : List Loc) (ls : Array Slot), wl D A s (wX cI cJ cZ cR am gm t) H locs → lv_has ls 3 [(0, .ref (am 1011))] → W p l e (rmA 5 120 t0 t') s m ([.ref (am 1011), .int a1].toArray) below meth c H locs (mC t0 t) (mS t0 t) (MQ below (qIa r D (tyX cI cJ cZ cR) (fun gm => wX cI cJ cZ cR am gm t') A) ([.ref (am 1011), .int a1].toArray) s (mC t0 t') (mS t0 t') A) (F0 m 37 ls [.int w0]) := by
    intro gm t w0 ho h0 H locs ls hW hl
    have hE : mle t t' := (mm_x11_leastGuards_J37 _ _ _ ho)
    have hR := hR_of (t0 := t0) hE
    unfold x11_leastGuards_J37 at ho
    cases ho
    exact rtIa gm C0.1 hW dX11_leastGuards_37
  have hE : mle t0 t' := mm_x11_leastGuards _ _ _ ho
  have hR := hR_of (t0 := t0) hE
  have h0 : mle t0 t0 := mle.rfl
  refine W_0 (t0 := t0) ?_
  unfold x11_leastGuards at ho
  refine lv_iload_n hx hb dX11_leastGuards_0 rfl (lv_at hl 1 rfl) ?_
  obtain ⟨q1, hc2, ho⟩ := bd_some ho
  refine bkZ C0.1 hW (runSX (As := [.int a1]) (rest := []) C0 hW (c_x11_noNet l _ t0 a1 (r := q1) hc2) cb_X11_X11_noNet_124 rfl rfl ⟨rfl, rfl⟩ ⟨Nat.le_of_ble_eq_true rfl, Nat.le_of_ble_eq_true rfl⟩ (Nat.le_of_ble_eq_true rfl) hl.1 dX11_leastGuards_1 ⟨hR.1, hR.2⟩) (fun z3 H locs hW => ?_)
  refine lv_if_eq (tgt := 10) hx hb dX11_leastGuards_4 (by decide) (fun c4 => ?_) (fun c4 => ?_)
  · replace ho := ite_t c4 ho
    refine lv_aload_n hx hb dX11_leastGuards_10 rfl (lv_at hl 0 rfl) ?_
    refine xGET_1101 C0 kw_592 hW dX11_leastGuards_11 ?_
    refine xGET_602 C0 kw_184 hW dX11_leastGuards_14 ?_
    refine lv_iload_n hx hb dX11_leastGuards_17 rfl (lv_at hl 1 rfl) ?_
    obtain ⟨g5, ho⟩ := gd_some ho
    refine xLD_602 C0 hW g5 dX11_leastGuards_18 ?_
    refine lv_nmi ho (fun x6 ho => ?_)
    refine lv_istore_n (lv' := [(2, .int x6), (0, .ref (am 1011)), (1, .int a1)]) hx hb dX11_leastGuards_19 rfl hl (by decide) rfl (fun ls hl => ?_)
    refine lv_iload_n hx hb dX11_leastGuards_20 rfl (lv_at hl 0 rfl) ?_
    refine lv_if_ge (tgt := 29) hx hb dX11_leastGuards_21 (by decide) (fun c7 => ?_) (fun c7 => ?_)
    · replace ho := ite_t c7 ho
      refine lv_aload_n hx hb dX11_leastGuards_29 rfl (lv_at hl 1 rfl) ?_
      refine xGET_1107 C0 kw_598 hW dX11_leastGuards_30 ?_
      refine lv_iload_n hx hb dX11_leastGuards_33 rfl (lv_at hl 0 rfl) ?_
      obtain ⟨q8, hc9, ho⟩ := bd_some ho
      have hq8 := mm_x4_leastHolding t0 x6 _ hc9
      have hEq8 := (mm_x11_leastGuards_J37 _ _ _ ho)
      refine bkIa C0.1 hW h0 hq8 (runVX (As := [.int x6]) (rest := []) C0 hW (c_x4_leastHolding l _ t0 x6 (r := q8.1) (t' := q8.2) hc9) cb_X11_X4_leastHolding_253 4 4 rfl rfl rfl rfl rfl ⟨rfl, rfl⟩ ⟨Nat.le_of_ble_eq_true rfl, Nat.le_of_ble_eq_true rfl⟩ (Nat.le_of_ble_eq_true rfl) hl.1 dX11_leastGuards_34 (hf_of h0 hq8 hEq8)) (fun gm H locs hW => ?_)
      have h0 := mle.trans h0 hq8
      exact J37 gm _ _ ho h0 _ _ _ hW (lv_sub hl [1] rfl)
    · replace ho := ite_f c7 ho
      refine lv_bipush (v := (-3 : Int32)) hx hb dX11_leastGuards_24 (by decide) ?_
      refine lv_goto (tgt := 37) hx hb dX11_leastGuards_26 (by decide) ?_
      exact J37 gm _ _ ho h0 _ _ _ hW (lv_sub hl [1] rfl)
  · replace ho := ite_f c4 ho
    refine lv_bipush (v := (-2 : Int32)) hx hb dX11_leastGuards_7 (by decide) ?_
    cases ho
    exact rtIa gm C0.1 hW dX11_leastGuards_9
noncomputable def x4_hasIdler_B16 (t : St) (v1 : Int32) (v2 : Int32) (v3 : Int32) : Option ((Int32) ⊕ ((Unit) ⊕ (Unit))) :=
  if (gI t 402) ≤ v3 then (some (.inr (.inr ()))) else (if ((v1 >>> (v3 &&& 31)) &&& (1 : Int32)) = (1 : Int32) then (gd (v1 ^^^ ((1 : Int32) <<< (v3 &&& 31))) (gN t 403) ((x8_narrowed t (gA t 403 ((v1 ^^^ ((1 : Int32) <<< (v3 &&& 31)))).toNatClampNeg)).bind (fun q5 => if q5 = v2 then (some (.inr (.inl ()))) else (nm (v3 + (1 : Int32)) (fun x8 : Int32 => some (.inl x8)))))) else (nm (v3 + (1 : Int32)) (fun x3 : Int32 => some (.inl x3))))
noncomputable def x4_hasIdler (t : St) (a1 : Int32) : Option (Int32) :=
  gd a1 (gN t 403) ((x8_narrowed t (gA t 403 (a1).toNatClampNeg)).bind (fun q10 => (lp (fun x => x4_hasIdler_B16 t a1 q10 x) (0 : Int32)).bind (fun y12 => (Sum.elim (fun u15 => some (1 : Int32)) (fun u15 => some (0 : Int32))) y12)))
set_option maxHeartbeats 4000000 in
set_option maxRecDepth 100000 in
theorem x4_hasIdler_L16 {p : Program} {l : Launch} {e : Env} {s : State} {m : MethodId} {args : Array Value} {below : List Frame} {meth : Method} {c : Code} {Q : State → Prop} {D : va_G} {cI cJ cZ cR : ClassId} {am gm : Nat → Nat} {st : Nat} {A : Nat → Prop} (C0 : cxX p s m args meth c cX4_hasIdler RX4 4 (some .boolean) D (tyX cI cJ cZ cR) st A) {t : St} {v1 : Int32} {v2 : Int32} {y : (Unit) ⊕ (Unit)} (hK0 : ∀ u, y = (.inl u) → ∀ (H : Heap) (locs : List Loc) (ls : Array Slot), wl D A s (wX cI cJ cZ cR am gm t) H locs → lv_has ls 4 [(0, .ref (am 1004))] → W p l e (rmN 1 23) s m args below meth c H locs 0 0 Q (F0 m 54 ls [])) (hK1 : ∀ u, y = (.inr u) → ∀ (H : Heap) (locs : List Loc) (ls : Array Slot), wl D A s (wX cI cJ cZ cR am gm t) H locs → lv_has ls 4 [(0, .ref (am 1004))] → W p l e (rmN 1 23) s m args below meth c H locs 0 0 Q (F0 m 62 ls [])) :
    ∀ (n : Nat) (v3 : Int32), lpn (fun x => x4_hasIdler_B16 t v1 v2 x) n v3 = some y → ∀ (H : Heap) (locs : List Loc) (ls : Array Slot), wl D A s (wX cI cJ cZ cR am gm t) H locs → lv_has ls 4 [(0, .ref (am 1004)), (1, .int v1), (2, .int v2), (3, .int v3)] → W p l e (rmN 1 23) s m args below meth c H locs 0 0 Q (F0 m 16 ls []) := by
  have hx := C0.1.1
  have hb := C0.1.2.1
  have hta := C0.1.2.2.2.2.2.1
  have hown := C0.1.2.2.2.2.1
  intro n
  induction n with
  | zero => intro _ h; cases h
  | succ n ih =>
    intro v3 hrun H locs ls hW hl
    obtain ⟨o, ho, hrun⟩ := bd_some hrun
    unfold x4_hasIdler_B16 at ho
    refine lv_iload_n hx hb dX4_hasIdler_16 rfl (lv_at hl 3 rfl) ?_
    refine lv_aload_n hx hb dX4_hasIdler_17 rfl (lv_at hl 0 rfl) ?_
    refine xGET_402 C0 kw_441 hW dX4_hasIdler_18 ?_
    refine lv_icmp_ge (tgt := 62) hx hb dX4_hasIdler_21 (by decide) (fun c1 => ?_) (fun c1 => ?_)
    · replace ho := ite_t c1 ho
      cases ho
      cases hrun
      exact hK1 _ rfl _ _ _ hW (lv_sub hl [0] rfl)
    · replace ho := ite_f c1 ho
      refine lv_iload_n hx hb dX4_hasIdler_24 rfl (lv_at hl 1 rfl) ?_
      refine lv_iload_n hx hb dX4_hasIdler_25 rfl (lv_at hl 3 rfl) ?_
      refine lv_ishr hx hb dX4_hasIdler_26 ?_
      refine lv_iconst (v := (1 : Int32)) hx hb dX4_hasIdler_27 (by decide) ?_
      refine lv_iand hx hb dX4_hasIdler_28 ?_
      refine lv_iconst (v := (1 : Int32)) hx hb dX4_hasIdler_29 (by decide) ?_
      refine lv_icmp_ne (tgt := 56) hx hb dX4_hasIdler_30 (by decide) (fun c2 => ?_) (fun c2 => ?_)
      · replace ho := ite_f c2 ho
        obtain ⟨x3, ex3, ho⟩ := nm_x ho
        refine lv_iinc (v := x3) (lv' := [(3, .int x3), (0, .ref (am 1004)), (1, .int v1), (2, .int v2)]) hx hb dX4_hasIdler_56 hl (k := 3) rfl (by rw [ex3]; rfl) (by decide) rfl (fun ls hl => ?_)
        clear ex3
        refine lv_goto (tgt := 16) hx hb dX4_hasIdler_59 (by decide) ?_
        cases ho
        exact ih _ hrun _ _ _ hW (lv_sub hl [1, 2, 3, 0] rfl)
      · replace ho := ite_t c2 ho
        refine lv_aload_n hx hb dX4_hasIdler_33 rfl (lv_at hl 0 rfl) ?_
        refine xGET_400 C0 kw_439 hW dX4_hasIdler_34 ?_
        refine lv_aload_n hx hb dX4_hasIdler_37 rfl (lv_at hl 0 rfl) ?_
        refine xGET_403 C0 kw_443 hW dX4_hasIdler_38 ?_
        refine lv_iload_n hx hb dX4_hasIdler_41 rfl (lv_at hl 1 rfl) ?_
        refine lv_iconst (v := (1 : Int32)) hx hb dX4_hasIdler_42 (by decide) ?_
        refine lv_iload_n hx hb dX4_hasIdler_43 rfl (lv_at hl 3 rfl) ?_
        refine lv_ishl hx hb dX4_hasIdler_44 ?_
        refine lv_ixor hx hb dX4_hasIdler_45 ?_
        obtain ⟨g4, ho⟩ := gd_some ho
        refine xLD_403 C0 hW g4 dX4_hasIdler_46 ?_
        obtain ⟨q5, hc6, ho⟩ := bd_some ho
        refine bkI C0.1 hW (runVX (As := [.int (gA t 403 ((v1 ^^^ ((1 : Int32) <<< (v3 &&& 31)))).toNatClampNeg)]) (rest := []) C0 hW (c_x8_narrowed l _ t (gA t 403 ((v1 ^^^ ((1 : Int32) <<< (v3 &&& 31)))).toNatClampNeg) (r := q5) hc6) cb_X4_X8_narrowed_71 8 8 rfl rfl rfl rfl rfl ⟨rfl, rfl⟩ ⟨Nat.le_of_ble_eq_true rfl, Nat.le_of_ble_eq_true rfl⟩ (Nat.le_of_ble_eq_true rfl) hl.1 dX4_hasIdler_47 ⟨Nat.le_of_ble_eq_true rfl, Nat.le_of_ble_eq_true rfl⟩) (fun H locs hW => ?_)
        refine lv_iload_n hx hb dX4_hasIdler_50 rfl (lv_at hl 2 rfl) ?_
        refine lv_icmp_ne (tgt := 56) hx hb dX4_hasIdler_51 (by decide) (fun c7 => ?_) (fun c7 => ?_)
        · replace ho := ite_f c7 ho
          obtain ⟨x8, ex8, ho⟩ := nm_x ho
          refine lv_iinc (v := x8) (lv' := [(3, .int x8), (0, .ref (am 1004)), (1, .int v1), (2, .int v2)]) hx hb dX4_hasIdler_56 hl (k := 3) rfl (by rw [ex8]; rfl) (by decide) rfl (fun ls hl => ?_)
          clear ex8
          refine lv_goto (tgt := 16) hx hb dX4_hasIdler_59 (by decide) ?_
          cases ho
          exact ih _ hrun _ _ _ hW (lv_sub hl [1, 2, 3, 0] rfl)
        · replace ho := ite_t c7 ho
          cases ho
          cases hrun
          exact hK0 _ rfl _ _ _ hW (lv_sub hl [0] rfl)
set_option maxHeartbeats 4000000 in
set_option maxRecDepth 100000 in
theorem c_x4_hasIdler (l : Launch) {D : va_G} {cI cJ cZ cR : ClassId} {am gm : Nat → Nat} {st : Nat} (sz : Nat) (t : St) (a1 : Int32) {r : Int32} (ho : x4_hasIdler t a1 = some r) : Met l yX4_hasIdler (.code yX4_hasIdler cX4_hasIdler 4 (some .boolean) :: wsAll) (rmN 1 23) (va_Pc [.ref (am 1004), .int a1] (prX D (tyX cI cJ cZ cR) (wX cI cJ cZ cR am gm t) sz st)) (qZ r D (tyX cI cJ cZ cR) (wX cI cJ cZ cR am gm t) (va_A (wX cI cJ cZ cR am gm t) sz)) 0 0 (va_A (wX cI cJ cZ cR am gm t) sz) := by
  refine Met.ofW (cc := cX4_hasIdler) (maxL := 4) (ret := (some .boolean)) (by decide) rfl ?_
  intro p e s m args below meth c s₁ B hml hv
  obtain ⟨rfl, ⟨hsz, hP, hK, hD0⟩, hsx⟩ := hv
  have hx := B.exec
  have hb := B.bytes
  have hts := atoms_spec (ws := (.code yX4_hasIdler cX4_hasIdler 4 (some .boolean) :: wsAll)) B.pre
  have hta := fun w h => hts w (List.mem_cons_of_mem _ h)
  have hown : s.vm.findClass RX4 = some m.cls := findClass_of_methodNamed B.named
  have hlocks := B.notSynchronized
  subst hsz
  have hD := hD0.self (sz := s.heap.size)
  generalize hAe : va_A (wX cI cJ cZ cR am gm t) s.heap.size = A at hD ⊢
  have hA : ∀ q : Nat, s.heap.size ≤ q → A q := fun q h => by rw [← hAe]; exact Or.inr h
  have C0 : cxX p s m ([.ref (am 1004), .int a1].toArray) meth c cX4_hasIdler RX4 4 (some .boolean) D (tyX cI cJ cZ cR) st A := ⟨⟨hx, hb, B.returns, hml, hown, hta, hlocks, hK, hA⟩, by rw [← hAe]; exact hsx⟩
  have hW : wl D A s (wX cI cJ cZ cR am gm t) s.heap [] := ⟨hP, hD, va_S.rf⟩
  have hl := lv_entry [.ref (am 1004), .int a1] (n := 4) (Nat.le_of_ble_eq_true rfl)
  rw [lg_entry_eq]
  generalize (lg_sl [.ref (am 1004), .int a1] ++ List.replicate (4 - (lg_sl [.ref (am 1004), .int a1]).length) Slot.unset).toArray = ls at hl ⊢
  have hl : lv_has ls 4 [(0, .ref (am 1004)), (1, .int a1)] := hl
  unfold x4_hasIdler at ho
  refine lv_aload_n hx hb dX4_hasIdler_0 rfl (lv_at hl 0 rfl) ?_
  refine xGET_400 C0 kw_439 hW dX4_hasIdler_1 ?_
  refine lv_aload_n hx hb dX4_hasIdler_4 rfl (lv_at hl 0 rfl) ?_
  refine xGET_403 C0 kw_443 hW dX4_hasIdler_5 ?_
  refine lv_iload_n hx hb dX4_hasIdler_8 rfl (lv_at hl 1 rfl) ?_
  obtain ⟨g9, ho⟩ := gd_some ho
  refine xLD_403 C0 hW g9 dX4_hasIdler_9 ?_
  obtain ⟨q10, hc11, ho⟩ := bd_some ho
  refine bkI C0.1 hW (runVX (As := [.int (gA t 403 (a1).toNatClampNeg)]) (rest := []) C0 hW (c_x8_narrowed l _ t (gA t 403 (a1).toNatClampNeg) (r := q10) hc11) cb_X4_X8_narrowed_71 8 8 rfl rfl rfl rfl rfl ⟨rfl, rfl⟩ ⟨Nat.le_of_ble_eq_true rfl, Nat.le_of_ble_eq_true rfl⟩ (Nat.le_of_ble_eq_true rfl) hl.1 dX4_hasIdler_10 ⟨Nat.le_of_ble_eq_true rfl, Nat.le_of_ble_eq_true rfl⟩) (fun H locs hW => ?_)
  refine lv_istore_n (lv' := [(2, .int q10), (0, .ref (am 1004)), (1, .int a1)]) hx hb dX4_hasIdler_13 rfl hl (by decide) rfl (fun ls hl => ?_)
  refine lv_iconst (v := (0 : Int32)) hx hb dX4_hasIdler_14 (by decide) ?_
  refine lv_istore_n (lv' := [(3, .int (0 : Int32)), (2, .int q10), (0, .ref (am 1004)), (1, .int a1)]) hx hb dX4_hasIdler_15 rfl hl (by decide) rfl (fun ls hl => ?_)
  obtain ⟨y12, hc14, ho⟩ := bd_some ho
  obtain ⟨ny12, hc14⟩ := lp_to hc14
  refine x4_hasIdler_L16 C0 ?_ ?_ ny12 _ hc14 _ _ _ hW (lv_sub hl [2, 3, 1, 0] rfl)
  · intro u15 hy H locs ls hW hl
    subst hy
    replace ho := sum_l ho
    refine lv_iconst (v := (1 : Int32)) hx hb dX4_hasIdler_54 (by decide) ?_
    cases ho
    exact rtZ C0.1 hW (Or.inr (rfl : (1 : Int32) = 1)) dX4_hasIdler_55
  · intro u15 hy H locs ls hW hl
    subst hy
    replace ho := sum_r ho
    refine lv_iconst (v := (0 : Int32)) hx hb dX4_hasIdler_62 (by decide) ?_
    cases ho
    exact rtZ C0.1 hW (Or.inl (rfl : (0 : Int32) = 0)) dX4_hasIdler_63
