noncomputable def x11_limbs (t : St) (a1 : Int32) : Option (Int32) :=
  (x11_outside t a1 (0 : Int32) (1 : Int32)).bind (fun q1 => if q1 = 0 then ((x2_limbsOf t a1).bind (fun q5 => some q5)) else (some (-2 : Int32)))
set_option maxHeartbeats 4000000 in
set_option maxRecDepth 100000 in
theorem c_x11_limbs (l : Launch) {D : va_G} {cI cJ cZ cR : ClassId} {am gm : Nat → Nat} {st : Nat} (sz : Nat) (t : St) (a1 : Int32) {r : Int32} (ho : x11_limbs t a1 = some r) : Met l yX11_limbs (.code yX11_limbs cX11_limbs 2 (some .int) :: wsAll) (rmN 1 23) (va_Pc [.ref (am 2011), .int a1] (prX D (tyX cI cJ cZ cR) (wX cI cJ cZ cR am gm t) sz st)) (qI r D (tyX cI cJ cZ cR) (wX cI cJ cZ cR am gm t) (va_A (wX cI cJ cZ cR am gm t) sz)) 0 0 (va_A (wX cI cJ cZ cR am gm t) sz) := by
  refine Met.ofW (cc := cX11_limbs) (maxL := 2) (ret := (some .int)) (by decide) rfl ?_
  intro p e s m args below meth c s₁ B hml hv
  obtain ⟨rfl, ⟨hsz, hP, hK, hD0⟩, hsx⟩ := hv
  have hx := B.exec
  have hb := B.bytes
  have hts := atoms_spec (ws := (.code yX11_limbs cX11_limbs 2 (some .int) :: wsAll)) B.pre
  have hta := fun w h => hts w (List.mem_cons_of_mem _ h)
  have hown : s.vm.findClass RX11 = some m.cls := findClass_of_methodNamed B.named
  have hlocks := B.notSynchronized
  subst hsz
  have hD := hD0.self (sz := s.heap.size)
  generalize hAe : va_A (wX cI cJ cZ cR am gm t) s.heap.size = A at hD ⊢
  have hA : ∀ q : Nat, s.heap.size ≤ q → A q := fun q h => by rw [← hAe]; exact Or.inr h
  have C0 : cxX p s m ([.ref (am 2011), .int a1].toArray) meth c cX11_limbs RX11 2 (some .int) D (tyX cI cJ cZ cR) st A := ⟨⟨hx, hb, B.returns, hml, hown, hta, hlocks, hK, hA⟩, by rw [← hAe]; exact hsx⟩
  have hW : wl D A s (wX cI cJ cZ cR am gm t) s.heap [] := ⟨hP, hD, va_S.rf⟩
  have hl := lv_entry [.ref (am 2011), .int a1] (n := 2) (Nat.le_of_ble_eq_true rfl)
  rw [lg_entry_eq]
  generalize (lg_sl [.ref (am 2011), .int a1] ++ List.replicate (2 - (lg_sl [.ref (am 2011), .int a1]).length) Slot.unset).toArray = ls at hl ⊢
  have hl : lv_has ls 2 [(0, .ref (am 2011)), (1, .int a1)] := hl
  unfold x11_limbs at ho
  refine lv_iload_n hx hb dX11_limbs_0 rfl (lv_at hl 1 rfl) ?_
  refine lv_iconst (v := (0 : Int32)) hx hb dX11_limbs_1 (by decide) ?_
  refine lv_iconst (v := (1 : Int32)) hx hb dX11_limbs_2 (by decide) ?_
  obtain ⟨q1, hc2, ho⟩ := bd_some ho
  refine bkZ C0.1 hW (runSX (As := [.int a1, .int (0 : Int32), .int (1 : Int32)]) (rest := []) C0 hW (c_x11_outside l _ t a1 (0 : Int32) (1 : Int32) (r := q1) hc2) cb_X11_X11_outside_102 rfl rfl ⟨rfl, rfl⟩ ⟨Nat.le_of_ble_eq_true rfl, Nat.le_of_ble_eq_true rfl⟩ (Nat.le_of_ble_eq_true rfl) hl.1 dX11_limbs_3 ⟨Nat.le_of_ble_eq_true rfl, Nat.le_of_ble_eq_true rfl⟩) (fun z3 H locs hW => ?_)
  refine lv_if_eq (tgt := 12) hx hb dX11_limbs_6 (by decide) (fun c4 => ?_) (fun c4 => ?_)
  · replace ho := ite_t c4 ho
    refine lv_aload_n hx hb dX11_limbs_12 rfl (lv_at hl 0 rfl) ?_
    refine xGET_1105 C0 kw_596 hW dX11_limbs_13 ?_
    refine lv_iload_n hx hb dX11_limbs_16 rfl (lv_at hl 1 rfl) ?_
    obtain ⟨q5, hc6, ho⟩ := bd_some ho
    refine bkI C0.1 hW (runVX (As := [.int a1]) (rest := []) C0 hW (c_x2_limbsOf l _ t a1 (r := q5) hc6) cb_X11_X2_limbsOf_240 2 2 rfl rfl rfl rfl rfl ⟨rfl, rfl⟩ ⟨Nat.le_of_ble_eq_true rfl, Nat.le_of_ble_eq_true rfl⟩ (Nat.le_of_ble_eq_true rfl) hl.1 dX11_limbs_17 ⟨Nat.le_of_ble_eq_true rfl, Nat.le_of_ble_eq_true rfl⟩) (fun H locs hW => ?_)
    cases ho
    exact rtI C0.1 hW dX11_limbs_20
  · replace ho := ite_f c4 ho
    refine lv_bipush (v := (-2 : Int32)) hx hb dX11_limbs_9 (by decide) ?_
    cases ho
    exact rtI C0.1 hW dX11_limbs_11
noncomputable def x2_limbOf (t : St) (a1 : Int32) (a2 : Int32) : Option (Int32) :=
  if a1 = 0 then (gd a2 (gN t 200) (some (gA t 200 (a2).toNatClampNeg))) else (gd a2 (gN t 201) (some (gA t 201 (a2).toNatClampNeg)))
set_option maxHeartbeats 4000000 in
set_option maxRecDepth 100000 in
theorem c_x2_limbOf (l : Launch) {D : va_G} {cI cJ cZ cR : ClassId} {am gm : Nat → Nat} {st : Nat} (sz : Nat) (t : St) (a1 : Int32) (a2 : Int32) {r : Int32} (ho : x2_limbOf t a1 a2 = some r) : Met l yX2_limbOf (.code yX2_limbOf cX2_limbOf 3 (some .int) :: wsAll) (rmN 0 0) (va_Pc [.ref (am 2002), .int a1, .int a2] (prX D (tyX cI cJ cZ cR) (wX cI cJ cZ cR am gm t) sz st)) (qI r D (tyX cI cJ cZ cR) (wX cI cJ cZ cR am gm t) (va_A (wX cI cJ cZ cR am gm t) sz)) 0 0 (va_A (wX cI cJ cZ cR am gm t) sz) := by
  refine Met.ofW (cc := cX2_limbOf) (maxL := 3) (ret := (some .int)) (by decide) rfl ?_
  intro p e s m args below meth c s₁ B hml hv
  obtain ⟨rfl, ⟨hsz, hP, hK, hD0⟩, hsx⟩ := hv
  have hx := B.exec
  have hb := B.bytes
  have hts := atoms_spec (ws := (.code yX2_limbOf cX2_limbOf 3 (some .int) :: wsAll)) B.pre
  have hta := fun w h => hts w (List.mem_cons_of_mem _ h)
  have hown : s.vm.findClass RX2 = some m.cls := findClass_of_methodNamed B.named
  have hlocks := B.notSynchronized
  subst hsz
  have hD := hD0.self (sz := s.heap.size)
  generalize hAe : va_A (wX cI cJ cZ cR am gm t) s.heap.size = A at hD ⊢
  have hA : ∀ q : Nat, s.heap.size ≤ q → A q := fun q h => by rw [← hAe]; exact Or.inr h
  have C0 : cxX p s m ([.ref (am 2002), .int a1, .int a2].toArray) meth c cX2_limbOf RX2 3 (some .int) D (tyX cI cJ cZ cR) st A := ⟨⟨hx, hb, B.returns, hml, hown, hta, hlocks, hK, hA⟩, by rw [← hAe]; exact hsx⟩
  have hW : wl D A s (wX cI cJ cZ cR am gm t) s.heap [] := ⟨hP, hD, va_S.rf⟩
  have hl := lv_entry [.ref (am 2002), .int a1, .int a2] (n := 3) (Nat.le_of_ble_eq_true rfl)
  rw [lg_entry_eq]
  generalize (lg_sl [.ref (am 2002), .int a1, .int a2] ++ List.replicate (3 - (lg_sl [.ref (am 2002), .int a1, .int a2]).length) Slot.unset).toArray = ls at hl ⊢
  have hl : lv_has ls 3 [(0, .ref (am 2002)), (1, .int a1), (2, .int a2)] := hl
  unfold x2_limbOf at ho
  refine lv_iload_n hx hb dX2_limbOf_0 rfl (lv_at hl 1 rfl) ?_
  refine lv_if_ne (tgt := 13) hx hb dX2_limbOf_1 (by decide) (fun c1 => ?_) (fun c1 => ?_)
  · replace ho := ite_f c1 ho
    refine lv_aload_n hx hb dX2_limbOf_13 rfl (lv_at hl 0 rfl) ?_
    refine xGET_201 C0 kw_370 hW dX2_limbOf_14 ?_
    refine lv_iload_n hx hb dX2_limbOf_17 rfl (lv_at hl 2 rfl) ?_
    obtain ⟨g2, ho⟩ := gd_some ho
    refine xLD_201 C0 hW g2 dX2_limbOf_18 ?_
    cases ho
    exact rtI C0.1 hW dX2_limbOf_19
  · replace ho := ite_t c1 ho
    refine lv_aload_n hx hb dX2_limbOf_4 rfl (lv_at hl 0 rfl) ?_
    refine xGET_200 C0 kw_369 hW dX2_limbOf_5 ?_
    refine lv_iload_n hx hb dX2_limbOf_8 rfl (lv_at hl 2 rfl) ?_
    obtain ⟨g3, ho⟩ := gd_some ho
    refine xLD_200 C0 hW g3 dX2_limbOf_9 ?_
    refine lv_goto (tgt := 19) hx hb dX2_limbOf_10 (by decide) ?_
    cases ho
    exact rtI C0.1 hW dX2_limbOf_19
noncomputable def x11_limb (t : St) (a1 : Int32) (a2 : Int32) : Option (Int32) :=
  (x11_outside t a1 (0 : Int32) (1 : Int32)).bind (fun q1 => if q1 = 0 then (if 0 ≤ a2 then ((x2_limbsOf t a1).bind (fun q6 => if q6 ≤ a2 then (some (-1 : Int32)) else ((x2_limbOf t a1 a2).bind (fun q9 => some q9)))) else (some (-2 : Int32))) else (some (-2 : Int32)))
set_option maxHeartbeats 4000000 in
set_option maxRecDepth 100000 in
theorem c_x11_limb (l : Launch) {D : va_G} {cI cJ cZ cR : ClassId} {am gm : Nat → Nat} {st : Nat} (sz : Nat) (t : St) (a1 : Int32) (a2 : Int32) {r : Int32} (ho : x11_limb t a1 a2 = some r) : Met l yX11_limb (.code yX11_limb cX11_limb 3 (some .int) :: wsAll) (rmN 1 23) (va_Pc [.ref (am 2011), .int a1, .int a2] (prX D (tyX cI cJ cZ cR) (wX cI cJ cZ cR am gm t) sz st)) (qI r D (tyX cI cJ cZ cR) (wX cI cJ cZ cR am gm t) (va_A (wX cI cJ cZ cR am gm t) sz)) 0 0 (va_A (wX cI cJ cZ cR am gm t) sz) := by
  refine Met.ofW (cc := cX11_limb) (maxL := 3) (ret := (some .int)) (by decide) rfl ?_
  intro p e s m args below meth c s₁ B hml hv
  obtain ⟨rfl, ⟨hsz, hP, hK, hD0⟩, hsx⟩ := hv
  have hx := B.exec
  have hb := B.bytes
  have hts := atoms_spec (ws := (.code yX11_limb cX11_limb 3 (some .int) :: wsAll)) B.pre
  have hta := fun w h => hts w (List.mem_cons_of_mem _ h)
  have hown : s.vm.findClass RX11 = some m.cls := findClass_of_methodNamed B.named
  have hlocks := B.notSynchronized
  subst hsz
  have hD := hD0.self (sz := s.heap.size)
  generalize hAe : va_A (wX cI cJ cZ cR am gm t) s.heap.size = A at hD ⊢
  have hA : ∀ q : Nat, s.heap.size ≤ q → A q := fun q h => by rw [← hAe]; exact Or.inr h
  have C0 : cxX p s m ([.ref (am 2011), .int a1, .int a2].toArray) meth c cX11_limb RX11 3 (some .int) D (tyX cI cJ cZ cR) st A := ⟨⟨hx, hb, B.returns, hml, hown, hta, hlocks, hK, hA⟩, by rw [← hAe]; exact hsx⟩
  have hW : wl D A s (wX cI cJ cZ cR am gm t) s.heap [] := ⟨hP, hD, va_S.rf⟩
  have hl := lv_entry [.ref (am 2011), .int a1, .int a2] (n := 3) (Nat.le_of_ble_eq_true rfl)
  rw [lg_entry_eq]
  generalize (lg_sl [.ref (am 2011), .int a1, .int a2] ++ List.replicate (3 - (lg_sl [.ref (am 2011), .int a1, .int a2]).length) Slot.unset).toArray = ls at hl ⊢
  have hl : lv_has ls 3 [(0, .ref (am 2011)), (1, .int a1), (2, .int a2)] := hl
  unfold x11_limb at ho
  refine lv_iload_n hx hb dX11_limb_0 rfl (lv_at hl 1 rfl) ?_
  refine lv_iconst (v := (0 : Int32)) hx hb dX11_limb_1 (by decide) ?_
  refine lv_iconst (v := (1 : Int32)) hx hb dX11_limb_2 (by decide) ?_
  obtain ⟨q1, hc2, ho⟩ := bd_some ho
  refine bkZ C0.1 hW (runSX (As := [.int a1, .int (0 : Int32), .int (1 : Int32)]) (rest := []) C0 hW (c_x11_outside l _ t a1 (0 : Int32) (1 : Int32) (r := q1) hc2) cb_X11_X11_outside_102 rfl rfl ⟨rfl, rfl⟩ ⟨Nat.le_of_ble_eq_true rfl, Nat.le_of_ble_eq_true rfl⟩ (Nat.le_of_ble_eq_true rfl) hl.1 dX11_limb_3 ⟨Nat.le_of_ble_eq_true rfl, Nat.le_of_ble_eq_true rfl⟩) (fun z3 H locs hW => ?_)
  refine lv_if_ne (tgt := 13) hx hb dX11_limb_6 (by decide) (fun c4 => ?_) (fun c4 => ?_)
  · replace ho := ite_f c4 ho
    refine lv_bipush (v := (-2 : Int32)) hx hb dX11_limb_13 (by decide) ?_
    cases ho
    exact rtI C0.1 hW dX11_limb_15
  · replace ho := ite_t c4 ho
    refine lv_iload_n hx hb dX11_limb_9 rfl (lv_at hl 2 rfl) ?_
    refine lv_if_ge (tgt := 16) hx hb dX11_limb_10 (by decide) (fun c5 => ?_) (fun c5 => ?_)
    · replace ho := ite_t c5 ho
      refine lv_iload_n hx hb dX11_limb_16 rfl (lv_at hl 2 rfl) ?_
      refine lv_aload_n hx hb dX11_limb_17 rfl (lv_at hl 0 rfl) ?_
      refine xGET_1105 C0 kw_596 hW dX11_limb_18 ?_
      refine lv_iload_n hx hb dX11_limb_21 rfl (lv_at hl 1 rfl) ?_
      obtain ⟨q6, hc7, ho⟩ := bd_some ho
      refine bkI C0.1 hW (runVX (As := [.int a1]) (rest := [.int a2]) C0 hW (c_x2_limbsOf l _ t a1 (r := q6) hc7) cb_X11_X2_limbsOf_240 2 2 rfl rfl rfl rfl rfl ⟨rfl, rfl⟩ ⟨Nat.le_of_ble_eq_true rfl, Nat.le_of_ble_eq_true rfl⟩ (Nat.le_of_ble_eq_true rfl) hl.1 dX11_limb_22 ⟨Nat.le_of_ble_eq_true rfl, Nat.le_of_ble_eq_true rfl⟩) (fun H locs hW => ?_)
      refine lv_icmp_ge (tgt := 40) hx hb dX11_limb_25 (by decide) (fun c8 => ?_) (fun c8 => ?_)
      · replace ho := ite_t c8 ho
        refine lv_iconst (v := (-1 : Int32)) hx hb dX11_limb_40 (by decide) ?_
        cases ho
        exact rtI C0.1 hW dX11_limb_41
      · replace ho := ite_f c8 ho
        refine lv_aload_n hx hb dX11_limb_28 rfl (lv_at hl 0 rfl) ?_
        refine xGET_1105 C0 kw_596 hW dX11_limb_29 ?_
        refine lv_iload_n hx hb dX11_limb_32 rfl (lv_at hl 1 rfl) ?_
        refine lv_iload_n hx hb dX11_limb_33 rfl (lv_at hl 2 rfl) ?_
        obtain ⟨q9, hc10, ho⟩ := bd_some ho
        refine bkI C0.1 hW (runVX (As := [.int a1, .int a2]) (rest := []) C0 hW (c_x2_limbOf l _ t a1 a2 (r := q9) hc10) cb_X11_X2_limbOf_243 2 2 rfl rfl rfl rfl rfl ⟨rfl, rfl⟩ ⟨Nat.le_of_ble_eq_true rfl, Nat.le_of_ble_eq_true rfl⟩ (Nat.le_of_ble_eq_true rfl) hl.1 dX11_limb_34 ⟨Nat.le_of_ble_eq_true rfl, Nat.le_of_ble_eq_true rfl⟩) (fun H locs hW => ?_)
        refine lv_goto (tgt := 41) hx hb dX11_limb_37 (by decide) ?_
        cases ho
        exact rtI C0.1 hW dX11_limb_41
    · replace ho := ite_f c5 ho
      refine lv_bipush (v := (-2 : Int32)) hx hb dX11_limb_13 (by decide) ?_
      cases ho
      exact rtI C0.1 hW dX11_limb_15
noncomputable def x4_hire_B49 (v1 : Int32) (v2 : Int32) (v3 : Int32) (v4 : Int32) (t : St) : Option ((Int32 × St) ⊕ (St)) :=
  if v3 ≤ v4 then (some (.inr t)) else (gd v4 (gN t 403) (gd (v3 + v4) (gN t 403) (nm (sA t 403 (v3 + v4) ((gA t 403 (v4).toNatClampNeg) ||| v1)) (fun t4 : St => gd v4 (gN t4 404) (gd (v3 + v4) (gN t4 404) (nm (sA t4 404 (v3 + v4) ((gA t4 404 (v4).toNatClampNeg) + v2)) (fun t7 : St => nm (v4 + (1 : Int32)) (fun x8 : Int32 => some (.inl (x8, t7))))))))))
theorem mm_x4_hire_B49 (v1 : Int32) (v2 : Int32) (v3 : Int32) (v4 : Int32) (t : St) : MR (x4_hire_B49 v1 v2 v3 v4 t) t (Sum.elim (fun (x : Int32 × St) => x.2) (fun (y : St) => y)) := by
  unfold x4_hire_B49
  exact MR_ite (MR_some mle.rfl) (MR_gd (MR_gd (MR_nmS mle_sA (fun t4 ht4 => MR_gd (MR_gd (MR_nmS mle_sA (fun t7 ht7 => MR_nm (fun x8 _ => MR_some (mle.trans ht4 ht7)))))))))
theorem mm_x4_hire_L49 (v1 : Int32) (v2 : Int32) (v3 : Int32) (v4 : Int32) (t : St) : MR (lp (fun x => x4_hire_B49 v1 v2 v3 x.1 x.2) (v4, t)) t (fun (y : St) => y) := MR_lp (p := (fun (x : Int32 × St) => x.2)) (q := (fun (y : St) => y)) (fun x => mm_x4_hire_B49 v1 v2 v3 x.1 x.2) (v4, t)
noncomputable def x4_hire_J46 (t : St) (v1 : Int32) (v2 : Int32) (v3 : Int32) : Option (Int32 × St) :=
  (lp (fun x => x4_hire_B49 v1 v2 v3 x.1 x.2) ((0 : Int32), t)).bind (fun y9 => nm (sI y9 402 ((gI y9 402) + (1 : Int32))) (fun t12 : St => (x4_forgetFront t12).bind (fun q13 => some ((1 : Int32), q13))))
theorem mm_x4_hire_J46 (t : St) (v1 : Int32) (v2 : Int32) (v3 : Int32) : MR (x4_hire_J46 t v1 v2 v3) t (fun (a : Int32 × St) => a.2) := by
  unfold x4_hire_J46
  exact MR_bind (mm_x4_hire_L49 v1 v2 v3 (0 : Int32) t) (fun y9 hm10 => MR_nmS mle_sI (fun t12 ht12 => MR_bind (mm_x4_forgetFront t12) (fun q13 hq13 => MR_some (mle.trans (mle.trans hm10 ht12) hq13))))
noncomputable def x4_hire_J32 (t : St) (v1 : Int32) (v2 : Int32) (v3 : Int32) : Option (Int32 × St) :=
  cpy t 404 ((2 : Int32) * v3) (fun t15 : St => x4_hire_J46 t15 v1 v2 v3)
theorem mm_x4_hire_J32 (t : St) (v1 : Int32) (v2 : Int32) (v3 : Int32) : MR (x4_hire_J32 t v1 v2 v3) t (fun (a : Int32 × St) => a.2) := by
  unfold x4_hire_J32
  exact MR_cpy (fun t15 ht15 => MR_wk ht15 (mm_x4_hire_J46 t15 v1 v2 v3))
noncomputable def x4_hire (t0 : St) (a1 : Int32) (a2 : Int32) : Option (Int32 × St) :=
  if (gI t0 402) < (10 : Int32) then (nm ((1 : Int32) <<< ((gI t0 402) &&& 31)) (fun x18 : Int32 => cpy t0 403 ((2 : Int32) * x18) (fun t19 : St => x4_hire_J32 t19 a1 a2 x18))) else (some ((0 : Int32), t0))
theorem mm_x4_hire (t0 : St) (a1 : Int32) (a2 : Int32) : MR (x4_hire t0 a1 a2) t0 (fun (a : Int32 × St) => a.2) := by
  unfold x4_hire
  exact MR_ite (MR_nm (fun x18 _ => MR_cpy (fun t19 ht19 => MR_wk ht19 (mm_x4_hire_J32 t19 a1 a2 x18)))) (MR_some mle.rfl)
set_option maxHeartbeats 4000000 in
set_option maxRecDepth 100000 in
theorem x4_hire_L49 {p : Program} {l : Launch} {e : Env} {s : State} {m : MethodId} {args : Array Value} {below : List Frame} {meth : Method} {c : Code} {Q : State → Prop} {D : va_G} {cI cJ cZ cR : ClassId} {am gm : Nat → Nat} {st : Nat} {A : Nat → Prop} (C0 : cxX p s m args meth c cX4_hire RX4 5 (some .boolean) D (tyX cI cJ cZ cR) st A) {t0 t' : St} {cells slots : Nat} (hR : cells ≤ mC t0 t' ∧ slots ≤ mS t0 t') {v1 : Int32} {v2 : Int32} {v3 : Int32} {y : St} (hK0 : ∀ (H : Heap) (locs : List Loc) (ls : Array Slot), wl D A s (wX cI cJ cZ cR am gm y) H locs → lv_has ls 5 [(0, .ref (am 2004))] → W p l e (rmA 2 82 t0 t') s m args below meth c H locs cells slots Q (F0 m 97 ls [])) :
    ∀ (n : Nat) (v4 : Int32) (t : St), lpn (fun x => x4_hire_B49 v1 v2 v3 x.1 x.2) n (v4, t) = some y → ∀ (H : Heap) (locs : List Loc) (ls : Array Slot), wl D A s (wX cI cJ cZ cR am gm t) H locs → lv_has ls 5 [(0, .ref (am 2004)), (1, .int v1), (2, .int v2), (3, .int v3), (4, .int v4)] → W p l e (rmA 2 82 t0 t') s m args below meth c H locs cells slots Q (F0 m 49 ls []) := by
  have hx := C0.1.1
  have hb := C0.1.2.1
  have hta := C0.1.2.2.2.2.2.1
  have hown := C0.1.2.2.2.2.1
  intro n
  induction n with
  | zero => intro _ _ h; cases h
  | succ n ih =>
    intro v4 t hrun H locs ls hW hl
    obtain ⟨o, ho, hrun⟩ := bd_some hrun
    unfold x4_hire_B49 at ho
    refine lv_iload hx hb dX4_hire_49 (lv_at hl 4 rfl) ?_
    refine lv_iload_n hx hb dX4_hire_51 rfl (lv_at hl 3 rfl) ?_
    refine lv_icmp_ge (tgt := 97) hx hb dX4_hire_52 (by decide) (fun c1 => ?_) (fun c1 => ?_)
    · replace ho := ite_t c1 ho
      cases ho
      cases hrun
      exact hK0 _ _ _ hW (lv_sub hl [0] rfl)
    · replace ho := ite_f c1 ho
      refine lv_aload_n hx hb dX4_hire_55 rfl (lv_at hl 0 rfl) ?_
      refine xGET_403 C0 kw_443 hW dX4_hire_56 ?_
      refine lv_iload_n hx hb dX4_hire_59 rfl (lv_at hl 3 rfl) ?_
      refine lv_iload hx hb dX4_hire_60 (lv_at hl 4 rfl) ?_
      refine lv_iadd hx hb dX4_hire_62 ?_
      refine lv_aload_n hx hb dX4_hire_63 rfl (lv_at hl 0 rfl) ?_
      refine xGET_403 C0 kw_443 hW dX4_hire_64 ?_
      refine lv_iload hx hb dX4_hire_67 (lv_at hl 4 rfl) ?_
      obtain ⟨g2, ho⟩ := gd_some ho
      refine xLD_403 C0 hW g2 dX4_hire_69 ?_
      refine lv_iload_n hx hb dX4_hire_70 rfl (lv_at hl 1 rfl) ?_
      refine lv_ior hx hb dX4_hire_71 ?_
      obtain ⟨g3, ho⟩ := gd_some ho
      refine xST_403 C0 hW g3 dX4_hire_72 (fun H locs hW => ?_)
      obtain ⟨t4, ht4, ho, hW⟩ := nm_wm (P := fun t => wl D A s (wX cI cJ cZ cR am gm t) H locs) mle_sA ho hW
      refine lv_aload_n hx hb dX4_hire_73 rfl (lv_at hl 0 rfl) ?_
      refine xGET_404 C0 kw_445 hW dX4_hire_74 ?_
      refine lv_iload_n hx hb dX4_hire_77 rfl (lv_at hl 3 rfl) ?_
      refine lv_iload hx hb dX4_hire_78 (lv_at hl 4 rfl) ?_
      refine lv_iadd hx hb dX4_hire_80 ?_
      refine lv_aload_n hx hb dX4_hire_81 rfl (lv_at hl 0 rfl) ?_
      refine xGET_404 C0 kw_445 hW dX4_hire_82 ?_
      refine lv_iload hx hb dX4_hire_85 (lv_at hl 4 rfl) ?_
      obtain ⟨g5, ho⟩ := gd_some ho
      refine xLD_404 C0 hW g5 dX4_hire_87 ?_
      refine lv_iload_n hx hb dX4_hire_88 rfl (lv_at hl 2 rfl) ?_
      refine lv_iadd hx hb dX4_hire_89 ?_
      obtain ⟨g6, ho⟩ := gd_some ho
      refine xST_404 C0 hW g6 dX4_hire_90 (fun H locs hW => ?_)
      obtain ⟨t7, ht7, ho, hW⟩ := nm_wm (P := fun t => wl D A s (wX cI cJ cZ cR am gm t) H locs) mle_sA ho hW
      obtain ⟨x8, ex8, ho⟩ := nm_x ho
      refine lv_iinc (v := x8) (lv' := [(4, .int x8), (0, .ref (am 2004)), (1, .int v1), (2, .int v2), (3, .int v3)]) hx hb dX4_hire_91 hl (k := 4) rfl (by rw [ex8]; rfl) (by decide) rfl (fun ls hl => ?_)
      clear ex8
      refine lv_goto (tgt := 49) hx hb dX4_hire_94 (by decide) ?_
      cases ho
      exact ih _ _ hrun _ _ _ hW (lv_sub hl [1, 2, 3, 4, 0] rfl)
set_option maxHeartbeats 4000000 in
set_option maxRecDepth 100000 in
theorem c_x4_hire (l : Launch) {D : va_G} {cI cJ cZ cR : ClassId} {am gm : Nat → Nat} {st : Nat} (sz : Nat) (t0 : St) (a1 : Int32) (a2 : Int32) {r : Int32} {t' : St} (ho : x4_hire t0 a1 a2 = some (r, t')) : Met l yX4_hire (.code yX4_hire cX4_hire 5 (some .boolean) :: wsAll) (rmA 2 82 t0 t') (va_Pc [.ref (am 2004), .int a1, .int a2] (prX D (tyX cI cJ cZ cR) (wX cI cJ cZ cR am gm t0) sz st)) (qZa r D (tyX cI cJ cZ cR) (fun gm => wX cI cJ cZ cR am gm t') (va_A (wX cI cJ cZ cR am gm t0) sz)) (mC t0 t') (mS t0 t') (va_A (wX cI cJ cZ cR am gm t0) sz) := by
  refine Met.ofW (cc := cX4_hire) (maxL := 5) (ret := (some .boolean)) (by decide) rfl ?_
  intro p e s m args below meth c s₁ B hml hv
  obtain ⟨rfl, ⟨hsz, hP, hK, hD0⟩, hsx⟩ := hv
  have hx := B.exec
  have hb := B.bytes
  have hts := atoms_spec (ws := (.code yX4_hire cX4_hire 5 (some .boolean) :: wsAll)) B.pre
  have hta := fun w h => hts w (List.mem_cons_of_mem _ h)
  have hown : s.vm.findClass RX4 = some m.cls := findClass_of_methodNamed B.named
  have hlocks := B.notSynchronized
  subst hsz
  have hD := hD0.self (sz := s.heap.size)
  generalize hAe : va_A (wX cI cJ cZ cR am gm t0) s.heap.size = A at hD ⊢
  have hA : ∀ q : Nat, s.heap.size ≤ q → A q := fun q h => by rw [← hAe]; exact Or.inr h
  have C0 : cxX p s m ([.ref (am 2004), .int a1, .int a2].toArray) meth c cX4_hire RX4 5 (some .boolean) D (tyX cI cJ cZ cR) st A := ⟨⟨hx, hb, B.returns, hml, hown, hta, hlocks, hK, hA⟩, by rw [← hAe]; exact hsx⟩
  have hW : wl D A s (wX cI cJ cZ cR am gm t0) s.heap [] := ⟨hP, hD, va_S.rf⟩
  have hl := lv_entry [.ref (am 2004), .int a1, .int a2] (n := 5) (Nat.le_of_ble_eq_true rfl)
  rw [lg_entry_eq]
  generalize (lg_sl [.ref (am 2004), .int a1, .int a2] ++ List.replicate (5 - (lg_sl [.ref (am 2004), .int a1, .int a2]).length) Slot.unset).toArray = ls at hl ⊢
  have hl : lv_has ls 5 [(0, .ref (am 2004)), (1, .int a1), (2, .int a2)] := hl
  clear hAe hD hP hD0 hts
  have J46 : ∀ (gm : Nat → Nat) (t : St) (v1 : Int32) (v2 : Int32) (v3 : Int32) (_ : x4_hire_J46 t v1 v2 v3 = some (r, t')) (_ : mle t0 t) (H : Heap) (locs : List Loc) (ls : Array Slot), wl D A s (wX cI cJ cZ cR am gm t) H locs → lv_has ls 5 [(0, .ref (am 2004)), (1, .int v1), (2, .int v2), (3, .int v3)] → W p l e (rmA 2 82 t0 t') s m ([.ref (am 2004), .int a1, .int a2].toArray) below meth c H locs (mC t0 t) (mS t0 t) (MQ below (qZa r D (tyX cI cJ cZ cR) (fun gm => wX cI cJ cZ cR am gm t') A) ([.ref (am 2004), .int a1, .int a2].toArray) s (mC t0 t') (mS t0 t') A) (F0 m 46 ls []) := by
    intro gm t v1 v2 v3 ho h0 H locs ls hW hl
    have hE : mle t t' := (mm_x4_hire_J46 _ _ _ _ _ ho)
    have hR := hR_of (t0 := t0) hE
    unfold x4_hire_J46 at ho
    refine lv_iconst (v := (0 : Int32)) hx hb dX4_hire_46 (by decide) ?_
    refine lv_istore (lv' := [(4, .int (0 : Int32)), (0, .ref (am 2004)), (1, .int v1), (2, .int v2), (3, .int v3)]) hx hb dX4_hire_47 hl (by decide) rfl (fun ls hl => ?_)
    obtain ⟨y9, hc11, ho⟩ := bd_some ho
    have hm10 := mm_x4_hire_L49 v1 v2 v3 (0 : Int32) t _ hc11
    obtain ⟨ny9, hc11⟩ := lp_to hc11
    refine x4_hire_L49 C0 hR ?_ ny9 _ _ hc11 _ _ _ hW (lv_sub hl [1, 2, 3, 4, 0] rfl)
    intro H locs ls hW hl
    refine lv_aload_n hx hb dX4_hire_97 rfl (lv_at hl 0 rfl) ?_
    refine lv_dup hx hb dX4_hire_98 rfl ?_
    refine xGET_402 C0 kw_441 hW dX4_hire_99 ?_
    refine lv_iconst (v := (1 : Int32)) hx hb dX4_hire_102 (by decide) ?_
    refine lv_iadd hx hb dX4_hire_103 ?_
    refine xPUT_402 C0 kw_441 hW dX4_hire_104 (fun H locs hW => ?_)
    obtain ⟨t12, ht12, ho, hW⟩ := nm_wm (P := fun t => wl D A s (wX cI cJ cZ cR am gm t) H locs) mle_sI ho hW
    refine lv_aload_n hx hb dX4_hire_107 rfl (lv_at hl 0 rfl) ?_
    obtain ⟨q13, hc14, ho⟩ := bd_some ho
    have hq13 := mm_x4_forgetFront t12 _ hc14
    refine bkV C0.1 hW (runVX (As := []) (rest := []) C0 hW (c_x4_forgetFront l _ t12 (t' := q13) hc14) cb_X4_X4_forgetFront_57 4 4 rfl rfl rfl rfl rfl ⟨rfl, rfl⟩ ⟨Nat.le_of_ble_eq_true rfl, Nat.le_of_ble_eq_true rfl⟩ (Nat.le_of_ble_eq_true rfl) hl.1 dX4_hire_108 ⟨hR.1, hR.2⟩) (fun H locs hW => ?_)
    refine lv_iconst (v := (1 : Int32)) hx hb dX4_hire_111 (by decide) ?_
    refine W_up h0 (mle.trans (mle.trans hm10 ht12) hq13) ?_
    cases ho
    exact rtZa gm C0.1 hW (Or.inr (rfl : (1 : Int32) = 1)) dX4_hire_112
  have J32 : ∀ (gm : Nat → Nat) (t : St) (v1 : Int32) (v2 : Int32) (v3 : Int32) (_ : x4_hire_J32 t v1 v2 v3 = some (r, t')) (_ : mle t0 t) (H : Heap) (locs : List Loc) (ls : Array Slot), wl D A s (wX cI cJ cZ cR am gm t) H locs → lv_has ls 5 [(0, .ref (am 2004)), (1, .int v1), (2, .int v2), (3, .int v3)] → W p l e (rmA 2 82 t0 t') s m ([.ref (am 2004), .int a1, .int a2].toArray) below meth c H locs (mC t0 t) (mS t0 t) (MQ below (qZa r D (tyX cI cJ cZ cR) (fun gm => wX cI cJ cZ cR am gm t') A) ([.ref (am 2004), .int a1, .int a2].toArray) s (mC t0 t') (mS t0 t') A) (F0 m 32 ls []) := by
    intro gm t v1 v2 v3 ho h0 H locs ls hW hl
    have hE : mle t t' := (mm_x4_hire_J32 _ _ _ _ _ ho)
    have hR := hR_of (t0 := t0) hE
    unfold x4_hire_J32 at ho
    refine lv_aload_n hx hb dX4_hire_32 rfl (lv_at hl 0 rfl) ?_
    refine lv_aload_n hx hb dX4_hire_33 rfl (lv_at hl 0 rfl) ?_
    refine xGET_404 C0 kw_445 hW dX4_hire_34 ?_
    refine lv_iconst (v := (2 : Int32)) hx hb dX4_hire_37 (by decide) ?_
    refine lv_iload_n hx hb dX4_hire_38 rfl (lv_at hl 3 rfl) ?_
    refine lv_imul hx hb dX4_hire_39 ?_
    obtain ⟨t15, g16, ho⟩ := cpy_some ho
    have ht15 := g16.mle
    have hEt15 := (mm_x4_hire_J46 _ _ _ _ _ ho)
    refine xCOPY_404 (rest := []) C0 cb_X4_J7_copyOf_59c91_51 kw_445 hl.1 hW g16 h0 hEt15 (Nat.le_of_ble_eq_true rfl) (Nat.le_of_ble_eq_true rfl) (Nat.le_of_ble_eq_true rfl) dX4_hire_40 dX4_hire_43 (fun gm H locs hW => ?_)
    have h0 := mle.trans h0 ht15
    exact J46 gm _ _ _ _ ho h0 _ _ _ hW (lv_sub hl [0, 1, 2, 3] rfl)
  have hE : mle t0 t' := mm_x4_hire _ _ _ _ ho
  have hR := hR_of (t0 := t0) hE
  have h0 : mle t0 t0 := mle.rfl
  refine W_0 (t0 := t0) ?_
  unfold x4_hire at ho
  refine lv_aload_n hx hb dX4_hire_0 rfl (lv_at hl 0 rfl) ?_
  refine xGET_402 C0 kw_441 hW dX4_hire_1 ?_
  refine lv_bipush (v := (10 : Int32)) hx hb dX4_hire_4 (by decide) ?_
  refine lv_icmp_lt (tgt := 11) hx hb dX4_hire_6 (by decide) (fun c17 => ?_) (fun c17 => ?_)
  · replace ho := ite_t c17 ho
    refine lv_iconst (v := (1 : Int32)) hx hb dX4_hire_11 (by decide) ?_
    refine lv_aload_n hx hb dX4_hire_12 rfl (lv_at hl 0 rfl) ?_
    refine xGET_402 C0 kw_441 hW dX4_hire_13 ?_
    refine lv_ishl hx hb dX4_hire_16 ?_
    refine lv_nmi ho (fun x18 ho => ?_)
    refine lv_istore_n (lv' := [(3, .int x18), (0, .ref (am 2004)), (1, .int a1), (2, .int a2)]) hx hb dX4_hire_17 rfl hl (by decide) rfl (fun ls hl => ?_)
    refine lv_aload_n hx hb dX4_hire_18 rfl (lv_at hl 1 rfl) ?_
    refine lv_aload_n hx hb dX4_hire_19 rfl (lv_at hl 1 rfl) ?_
    refine xGET_403 C0 kw_443 hW dX4_hire_20 ?_
    refine lv_iconst (v := (2 : Int32)) hx hb dX4_hire_23 (by decide) ?_
    refine lv_iload_n hx hb dX4_hire_24 rfl (lv_at hl 0 rfl) ?_
    refine lv_imul hx hb dX4_hire_25 ?_
    obtain ⟨t19, g20, ho⟩ := cpy_some ho
    have ht19 := g20.mle
    have hEt19 := (mm_x4_hire_J32 _ _ _ _ _ ho)
    refine xCOPY_403 (rest := []) C0 cb_X4_J7_copyOf_59c91_51 kw_443 hl.1 hW g20 h0 hEt19 (Nat.le_of_ble_eq_true rfl) (Nat.le_of_ble_eq_true rfl) (Nat.le_of_ble_eq_true rfl) dX4_hire_26 dX4_hire_29 (fun gm H locs hW => ?_)
    have h0 := mle.trans h0 ht19
    exact J32 gm _ _ _ _ ho h0 _ _ _ hW (lv_sub hl [1, 2, 3, 0] rfl)
  · replace ho := ite_f c17 ho
    refine lv_iconst (v := (0 : Int32)) hx hb dX4_hire_9 (by decide) ?_
    cases ho
    exact rtZa gm C0.1 hW (Or.inl (rfl : (0 : Int32) = 0)) dX4_hire_10
noncomputable def x11_guard_J33 (t : St) (w0 : Int32) : Option (Int32 × St) :=
  if w0 = 0 then (some ((-4 : Int32), t)) else (some (((gI t 402) - (1 : Int32)), t))
theorem mm_x11_guard_J33 (t : St) (w0 : Int32) : MR (x11_guard_J33 t w0) t (fun (a : Int32 × St) => a.2) := by
  unfold x11_guard_J33
  exact MR_ite (MR_some mle.rfl) (MR_some mle.rfl)
noncomputable def x11_guard (t0 : St) (a1 : Int32) (a2 : Int32) : Option (Int32 × St) :=
  (x11_outside t0 a1 (0 : Int32) (65535 : Int32)).bind (fun q2 => if q2 = 0 then ((x11_outside t0 a2 (0 : Int32) (1000 : Int32)).bind (fun q6 => if q6 = 0 then ((x4_hire t0 a1 a2).bind (fun q10 => x11_guard_J33 q10.2 q10.1)) else (some ((-2 : Int32), t0)))) else (some ((-2 : Int32), t0)))
theorem mm_x11_guard (t0 : St) (a1 : Int32) (a2 : Int32) : MR (x11_guard t0 a1 a2) t0 (fun (a : Int32 × St) => a.2) := by
  unfold x11_guard
  exact MR_bindn (fun q2 => MR_ite (MR_bindn (fun q6 => MR_ite (MR_bind (mm_x4_hire t0 a1 a2) (fun q10 hq10 => MR_wk hq10 (mm_x11_guard_J33 q10.2 q10.1))) (MR_some mle.rfl))) (MR_some mle.rfl))
set_option maxHeartbeats 4000000 in
set_option maxRecDepth 100000 in
theorem c_x11_guard (l : Launch) {D : va_G} {cI cJ cZ cR : ClassId} {am gm : Nat → Nat} {st : Nat} (sz : Nat) (t0 : St) (a1 : Int32) (a2 : Int32) {r : Int32} {t' : St} (ho : x11_guard t0 a1 a2 = some (r, t')) : Met l yX11_guard (.code yX11_guard cX11_guard 3 (some .int) :: wsAll) (rmA 3 106 t0 t') (va_Pc [.ref (am 2011), .int a1, .int a2] (prX D (tyX cI cJ cZ cR) (wX cI cJ cZ cR am gm t0) sz st)) (qIa r D (tyX cI cJ cZ cR) (fun gm => wX cI cJ cZ cR am gm t') (va_A (wX cI cJ cZ cR am gm t0) sz)) (mC t0 t') (mS t0 t') (va_A (wX cI cJ cZ cR am gm t0) sz) := by
  refine Met.ofW (cc := cX11_guard) (maxL := 3) (ret := (some .int)) (by decide) rfl ?_
  intro p e s m args below meth c s₁ B hml hv
  obtain ⟨rfl, ⟨hsz, hP, hK, hD0⟩, hsx⟩ := hv
  have hx := B.exec
  have hb := B.bytes
  have hts := atoms_spec (ws := (.code yX11_guard cX11_guard 3 (some .int) :: wsAll)) B.pre
  have hta := fun w h => hts w (List.mem_cons_of_mem _ h)
  have hown : s.vm.findClass RX11 = some m.cls := findClass_of_methodNamed B.named
  have hlocks := B.notSynchronized
  subst hsz
  have hD := hD0.self (sz := s.heap.size)
  generalize hAe : va_A (wX cI cJ cZ cR am gm t0) s.heap.size = A at hD ⊢
  have hA : ∀ q : Nat, s.heap.size ≤ q → A q := fun q h => by rw [← hAe]; exact Or.inr h
  have C0 : cxX p s m ([.ref (am 2011), .int a1, .int a2].toArray) meth c cX11_guard RX11 3 (some .int) D (tyX cI cJ cZ cR) st A := ⟨⟨hx, hb, B.returns, hml, hown, hta, hlocks, hK, hA⟩, by rw [← hAe]; exact hsx⟩
  have hW : wl D A s (wX cI cJ cZ cR am gm t0) s.heap [] := ⟨hP, hD, va_S.rf⟩
  have hl := lv_entry [.ref (am 2011), .int a1, .int a2] (n := 3) (Nat.le_of_ble_eq_true rfl)
  rw [lg_entry_eq]
  generalize (lg_sl [.ref (am 2011), .int a1, .int a2] ++ List.replicate (3 - (lg_sl [.ref (am 2011), .int a1, .int a2]).length) Slot.unset).toArray = ls at hl ⊢
  have hl : lv_has ls 3 [(0, .ref (am 2011)), (1, .int a1), (2, .int a2)] := hl
  clear hAe hD hP hD0 hts
  have J33 : ∀ (gm : Nat → Nat) (t : St) (w0 : Int32) (_ : x11_guard_J33 t w0 = some (r, t')) (_ : mle t0 t) (H : Heap) (locs : List Loc) (ls : Array Slot), wl D A s (wX cI cJ cZ cR am gm t) H locs → lv_has ls 3 [(0, .ref (am 2011))] → W p l e (rmA 3 106 t0 t') s m ([.ref (am 2011), .int a1, .int a2].toArray) below meth c H locs (mC t0 t) (mS t0 t) (MQ below (qIa r D (tyX cI cJ cZ cR) (fun gm => wX cI cJ cZ cR am gm t') A) ([.ref (am 2011), .int a1, .int a2].toArray) s (mC t0 t') (mS t0 t') A) (F0 m 33 ls [.int w0]) := by
    intro gm t w0 ho h0 H locs ls hW hl
    have hE : mle t t' := (mm_x11_guard_J33 _ _ _ ho)
    have hR := hR_of (t0 := t0) hE
    unfold x11_guard_J33 at ho
    refine lv_if_eq (tgt := 48) hx hb dX11_guard_33 (by decide) (fun c1 => ?_) (fun c1 => ?_)
    · replace ho := ite_t c1 ho
      refine lv_bipush (v := (-4 : Int32)) hx hb dX11_guard_48 (by decide) ?_
      cases ho
      exact rtIa gm C0.1 hW dX11_guard_50
    · replace ho := ite_f c1 ho
      refine lv_aload_n hx hb dX11_guard_36 rfl (lv_at hl 0 rfl) ?_
      refine xGET_1107 C0 kw_598 hW dX11_guard_37 ?_
      refine xGET_402 C0 kw_442 hW dX11_guard_40 ?_
      refine lv_iconst (v := (1 : Int32)) hx hb dX11_guard_43 (by decide) ?_
      refine lv_isub hx hb dX11_guard_44 ?_
      refine lv_goto (tgt := 50) hx hb dX11_guard_45 (by decide) ?_
      cases ho
      exact rtIa gm C0.1 hW dX11_guard_50
  have hE : mle t0 t' := mm_x11_guard _ _ _ _ ho
  have hR := hR_of (t0 := t0) hE
  have h0 : mle t0 t0 := mle.rfl
  refine W_0 (t0 := t0) ?_
  unfold x11_guard at ho
  refine lv_iload_n hx hb dX11_guard_0 rfl (lv_at hl 1 rfl) ?_
  refine lv_iconst (v := (0 : Int32)) hx hb dX11_guard_1 (by decide) ?_
  refine lv_ldc hx hb hown (hta _ kw_798) dX11_guard_2 ?_
  obtain ⟨q2, hc3, ho⟩ := bd_some ho
  refine bkZ C0.1 hW (runSX (As := [.int a1, .int (0 : Int32), .int (65535 : Int32)]) (rest := []) C0 hW (c_x11_outside l _ t0 a1 (0 : Int32) (65535 : Int32) (r := q2) hc3) cb_X11_X11_outside_102 rfl rfl ⟨rfl, rfl⟩ ⟨Nat.le_of_ble_eq_true rfl, Nat.le_of_ble_eq_true rfl⟩ (Nat.le_of_ble_eq_true rfl) hl.1 dX11_guard_4 ⟨hR.1, hR.2⟩) (fun z4 H locs hW => ?_)
  refine lv_if_ne (tgt := 21) hx hb dX11_guard_7 (by decide) (fun c5 => ?_) (fun c5 => ?_)
  · replace ho := ite_f c5 ho
    refine lv_bipush (v := (-2 : Int32)) hx hb dX11_guard_21 (by decide) ?_
    cases ho
    exact rtIa gm C0.1 hW dX11_guard_23
  · replace ho := ite_t c5 ho
    refine lv_iload_n hx hb dX11_guard_10 rfl (lv_at hl 2 rfl) ?_
    refine lv_iconst (v := (0 : Int32)) hx hb dX11_guard_11 (by decide) ?_
    refine lv_sipush (v := (1000 : Int32)) hx hb dX11_guard_12 (by decide) ?_
    obtain ⟨q6, hc7, ho⟩ := bd_some ho
    refine bkZ C0.1 hW (runSX (As := [.int a2, .int (0 : Int32), .int (1000 : Int32)]) (rest := []) C0 hW (c_x11_outside l _ t0 a2 (0 : Int32) (1000 : Int32) (r := q6) hc7) cb_X11_X11_outside_102 rfl rfl ⟨rfl, rfl⟩ ⟨Nat.le_of_ble_eq_true rfl, Nat.le_of_ble_eq_true rfl⟩ (Nat.le_of_ble_eq_true rfl) hl.1 dX11_guard_15 ⟨hR.1, hR.2⟩) (fun z8 H locs hW => ?_)
    refine lv_if_eq (tgt := 24) hx hb dX11_guard_18 (by decide) (fun c9 => ?_) (fun c9 => ?_)
    · replace ho := ite_t c9 ho
      refine lv_aload_n hx hb dX11_guard_24 rfl (lv_at hl 0 rfl) ?_
      refine xGET_1107 C0 kw_598 hW dX11_guard_25 ?_
      refine lv_iload_n hx hb dX11_guard_28 rfl (lv_at hl 1 rfl) ?_
      refine lv_iload_n hx hb dX11_guard_29 rfl (lv_at hl 2 rfl) ?_
      obtain ⟨q10, hc11, ho⟩ := bd_some ho
      have hq10 := mm_x4_hire t0 a1 a2 _ hc11
      have hEq10 := (mm_x11_guard_J33 _ _ _ ho)
      refine bkZa C0.1 hW h0 hq10 (runVX (As := [.int a1, .int a2]) (rest := []) C0 hW (c_x4_hire l _ t0 a1 a2 (r := q10.1) (t' := q10.2) hc11) cb_X11_X4_hire_246 4 4 rfl rfl rfl rfl rfl ⟨rfl, rfl⟩ ⟨Nat.le_of_ble_eq_true rfl, Nat.le_of_ble_eq_true rfl⟩ (Nat.le_of_ble_eq_true rfl) hl.1 dX11_guard_30 (hf_of h0 hq10 hEq10)) (fun z12 gm H locs hW => ?_)
      have h0 := mle.trans h0 hq10
      exact J33 gm _ _ ho h0 _ _ _ hW (lv_sub hl [0] rfl)
    · replace ho := ite_f c9 ho
      refine lv_bipush (v := (-2 : Int32)) hx hb dX11_guard_21 (by decide) ?_
      cases ho
      exact rtIa gm C0.1 hW dX11_guard_23
noncomputable def x11_holds (t : St) (a1 : Int32) (a2 : Int32) : Option (Int32 × St) :=
  (x11_noNet t a1).bind (fun q1 => if q1 = 0 then ((x11_outside t a2 (0 : Int32) (((1 : Int32) <<< ((gI t 402) &&& 31)) - (1 : Int32))).bind (fun q5 => if q5 = 0 then (gd a1 (gN t 602) (nm (gA t 602 (a1).toNatClampNeg) (fun x10 : Int32 => if 0 ≤ x10 then (gd a2 (gN t 403) ((x6_isReachedBy t x10 ((65535 : Int32) &&& ((gA t 403 (a2).toNatClampNeg) ^^^ (-1 : Int32)))).bind (fun q13 => if q13.1 = 0 then (some ((1 : Int32), q13.2)) else (some ((0 : Int32), q13.2))))) else (some ((-3 : Int32), t))))) else (some ((-2 : Int32), t)))) else (some ((-2 : Int32), t)))
theorem mm_x11_holds (t : St) (a1 : Int32) (a2 : Int32) : MR (x11_holds t a1 a2) t (fun (a : Int32 × St) => a.2) := by
  unfold x11_holds
  exact MR_bindn (fun q1 => MR_ite (MR_bindn (fun q5 => MR_ite (MR_gd (MR_nm (fun x10 _ => MR_ite (MR_gd (MR_bind (mm_x6_isReachedBy t x10 ((65535 : Int32) &&& ((gA t 403 (a2).toNatClampNeg) ^^^ (-1 : Int32)))) (fun q13 hq13 => MR_ite (MR_some hq13) (MR_some hq13)))) (MR_some mle.rfl)))) (MR_some mle.rfl))) (MR_some mle.rfl))
set_option maxHeartbeats 4000000 in
set_option maxRecDepth 100000 in
theorem c_x11_holds (l : Launch) {D : va_G} {cI cJ cZ cR : ClassId} {am gm : Nat → Nat} {st : Nat} (sz : Nat) (t : St) (a1 : Int32) (a2 : Int32) {r : Int32} {t' : St} (ho : x11_holds t a1 a2 = some (r, t')) : Met l yX11_holds (.code yX11_holds cX11_holds 4 (some .int) :: wsAll) (rmN 3 69) (va_Pc [.ref (am 2011), .int a1, .int a2] (prX D (tyX cI cJ cZ cR) (wX cI cJ cZ cR am gm t) sz st)) (qI r D (tyX cI cJ cZ cR) (wX cI cJ cZ cR am gm t') (va_A (wX cI cJ cZ cR am gm t) sz)) 0 0 (va_A (wX cI cJ cZ cR am gm t) sz) := by
  refine Met.ofW (cc := cX11_holds) (maxL := 4) (ret := (some .int)) (by decide) rfl ?_
  intro p e s m args below meth c s₁ B hml hv
  obtain ⟨rfl, ⟨hsz, hP, hK, hD0⟩, hsx⟩ := hv
  have hx := B.exec
  have hb := B.bytes
  have hts := atoms_spec (ws := (.code yX11_holds cX11_holds 4 (some .int) :: wsAll)) B.pre
  have hta := fun w h => hts w (List.mem_cons_of_mem _ h)
  have hown : s.vm.findClass RX11 = some m.cls := findClass_of_methodNamed B.named
  have hlocks := B.notSynchronized
  subst hsz
  have hD := hD0.self (sz := s.heap.size)
  generalize hAe : va_A (wX cI cJ cZ cR am gm t) s.heap.size = A at hD ⊢
  have hA : ∀ q : Nat, s.heap.size ≤ q → A q := fun q h => by rw [← hAe]; exact Or.inr h
  have C0 : cxX p s m ([.ref (am 2011), .int a1, .int a2].toArray) meth c cX11_holds RX11 4 (some .int) D (tyX cI cJ cZ cR) st A := ⟨⟨hx, hb, B.returns, hml, hown, hta, hlocks, hK, hA⟩, by rw [← hAe]; exact hsx⟩
  have hW : wl D A s (wX cI cJ cZ cR am gm t) s.heap [] := ⟨hP, hD, va_S.rf⟩
  have hl := lv_entry [.ref (am 2011), .int a1, .int a2] (n := 4) (Nat.le_of_ble_eq_true rfl)
  rw [lg_entry_eq]
  generalize (lg_sl [.ref (am 2011), .int a1, .int a2] ++ List.replicate (4 - (lg_sl [.ref (am 2011), .int a1, .int a2]).length) Slot.unset).toArray = ls at hl ⊢
  have hl : lv_has ls 4 [(0, .ref (am 2011)), (1, .int a1), (2, .int a2)] := hl
  unfold x11_holds at ho
  refine lv_iload_n hx hb dX11_holds_0 rfl (lv_at hl 1 rfl) ?_
  obtain ⟨q1, hc2, ho⟩ := bd_some ho
  refine bkZ C0.1 hW (runSX (As := [.int a1]) (rest := []) C0 hW (c_x11_noNet l _ t a1 (r := q1) hc2) cb_X11_X11_noNet_124 rfl rfl ⟨rfl, rfl⟩ ⟨Nat.le_of_ble_eq_true rfl, Nat.le_of_ble_eq_true rfl⟩ (Nat.le_of_ble_eq_true rfl) hl.1 dX11_holds_1 ⟨Nat.le_of_ble_eq_true rfl, Nat.le_of_ble_eq_true rfl⟩) (fun z3 H locs hW => ?_)
  refine lv_if_ne (tgt := 26) hx hb dX11_holds_4 (by decide) (fun c4 => ?_) (fun c4 => ?_)
  · replace ho := ite_f c4 ho
    refine lv_bipush (v := (-2 : Int32)) hx hb dX11_holds_26 (by decide) ?_
    cases ho
    exact rtI C0.1 hW dX11_holds_28
  · replace ho := ite_t c4 ho
    refine lv_iload_n hx hb dX11_holds_7 rfl (lv_at hl 2 rfl) ?_
    refine lv_iconst (v := (0 : Int32)) hx hb dX11_holds_8 (by decide) ?_
    refine lv_iconst (v := (1 : Int32)) hx hb dX11_holds_9 (by decide) ?_
    refine lv_aload_n hx hb dX11_holds_10 rfl (lv_at hl 0 rfl) ?_
    refine xGET_1107 C0 kw_598 hW dX11_holds_11 ?_
    refine xGET_402 C0 kw_442 hW dX11_holds_14 ?_
    refine lv_ishl hx hb dX11_holds_17 ?_
    refine lv_iconst (v := (1 : Int32)) hx hb dX11_holds_18 (by decide) ?_
    refine lv_isub hx hb dX11_holds_19 ?_
    obtain ⟨q5, hc6, ho⟩ := bd_some ho
    refine bkZ C0.1 hW (runSX (As := [.int a2, .int (0 : Int32), .int (((1 : Int32) <<< ((gI t 402) &&& 31)) - (1 : Int32))]) (rest := []) C0 hW (c_x11_outside l _ t a2 (0 : Int32) (((1 : Int32) <<< ((gI t 402) &&& 31)) - (1 : Int32)) (r := q5) hc6) cb_X11_X11_outside_102 rfl rfl ⟨rfl, rfl⟩ ⟨Nat.le_of_ble_eq_true rfl, Nat.le_of_ble_eq_true rfl⟩ (Nat.le_of_ble_eq_true rfl) hl.1 dX11_holds_20 ⟨Nat.le_of_ble_eq_true rfl, Nat.le_of_ble_eq_true rfl⟩) (fun z7 H locs hW => ?_)
    refine lv_if_eq (tgt := 29) hx hb dX11_holds_23 (by decide) (fun c8 => ?_) (fun c8 => ?_)
    · replace ho := ite_t c8 ho
      refine lv_aload_n hx hb dX11_holds_29 rfl (lv_at hl 0 rfl) ?_
      refine xGET_1101 C0 kw_592 hW dX11_holds_30 ?_
      refine xGET_602 C0 kw_184 hW dX11_holds_33 ?_
      refine lv_iload_n hx hb dX11_holds_36 rfl (lv_at hl 1 rfl) ?_
      obtain ⟨g9, ho⟩ := gd_some ho
      refine xLD_602 C0 hW g9 dX11_holds_37 ?_
      refine lv_nmi ho (fun x10 ho => ?_)
      refine lv_istore_n (lv' := [(3, .int x10), (0, .ref (am 2011)), (1, .int a1), (2, .int a2)]) hx hb dX11_holds_38 rfl hl (by decide) rfl (fun ls hl => ?_)
      refine lv_iload_n hx hb dX11_holds_39 rfl (lv_at hl 0 rfl) ?_
      refine lv_if_ge (tgt := 46) hx hb dX11_holds_40 (by decide) (fun c11 => ?_) (fun c11 => ?_)
      · replace ho := ite_t c11 ho
        refine lv_aload_n hx hb dX11_holds_46 rfl (lv_at hl 1 rfl) ?_
        refine xGET_1101 C0 kw_592 hW dX11_holds_47 ?_
        refine lv_iload_n hx hb dX11_holds_50 rfl (lv_at hl 0 rfl) ?_
        refine lv_ldc hx hb hown (hta _ kw_798) dX11_holds_51 ?_
        refine lv_aload_n hx hb dX11_holds_53 rfl (lv_at hl 1 rfl) ?_
        refine xGET_1107 C0 kw_598 hW dX11_holds_54 ?_
        refine xGET_403 C0 kw_444 hW dX11_holds_57 ?_
        refine lv_iload_n hx hb dX11_holds_60 rfl (lv_at hl 3 rfl) ?_
        obtain ⟨g12, ho⟩ := gd_some ho
        refine xLD_403 C0 hW g12 dX11_holds_61 ?_
        refine lv_iconst (v := (-1 : Int32)) hx hb dX11_holds_62 (by decide) ?_
        refine lv_ixor hx hb dX11_holds_63 ?_
        refine lv_iand hx hb dX11_holds_64 ?_
        obtain ⟨q13, hc14, ho⟩ := bd_some ho
        refine bkZ C0.1 hW (runVX (As := [.int x10, .int ((65535 : Int32) &&& ((gA t 403 (a2).toNatClampNeg) ^^^ (-1 : Int32)))]) (rest := []) C0 hW (c_x6_isReachedBy l _ t x10 ((65535 : Int32) &&& ((gA t 403 (a2).toNatClampNeg) ^^^ (-1 : Int32))) (r := q13.1) (t' := q13.2) hc14) cb_X11_X6_isReachedBy_163 6 6 rfl rfl rfl rfl rfl ⟨rfl, rfl⟩ ⟨Nat.le_of_ble_eq_true rfl, Nat.le_of_ble_eq_true rfl⟩ (Nat.le_of_ble_eq_true rfl) hl.1 dX11_holds_65 ⟨Nat.le_of_ble_eq_true rfl, Nat.le_of_ble_eq_true rfl⟩) (fun z15 H locs hW => ?_)
        refine lv_if_eq (tgt := 75) hx hb dX11_holds_68 (by decide) (fun c16 => ?_) (fun c16 => ?_)
        · replace ho := ite_t c16 ho
          refine lv_iconst (v := (1 : Int32)) hx hb dX11_holds_75 (by decide) ?_
          cases ho
          exact rtI C0.1 hW dX11_holds_76
        · replace ho := ite_f c16 ho
          refine lv_iconst (v := (0 : Int32)) hx hb dX11_holds_71 (by decide) ?_
          refine lv_goto (tgt := 76) hx hb dX11_holds_72 (by decide) ?_
          cases ho
          exact rtI C0.1 hW dX11_holds_76
      · replace ho := ite_f c11 ho
        refine lv_bipush (v := (-3 : Int32)) hx hb dX11_holds_43 (by decide) ?_
        cases ho
        exact rtI C0.1 hW dX11_holds_45
    · replace ho := ite_f c8 ho
      refine lv_bipush (v := (-2 : Int32)) hx hb dX11_holds_26 (by decide) ?_
      cases ho
      exact rtI C0.1 hW dX11_holds_28
noncomputable def x4_isCheaper (t : St) (a1 : Int32) (a2 : Int32) : Option (Int32) :=
  gd a1 (gN t 404) (gd a2 (gN t 404) (if (gA t 404 (a1).toNatClampNeg) = (gA t 404 (a2).toNatClampNeg) then ((j6_bitCount_0f7a4 t a1).bind (fun q4 => (j6_bitCount_0f7a4 t a2).bind (fun q6 => if q6 ≤ q4 then (some (0 : Int32)) else (some (1 : Int32))))) else (gd a1 (gN t 404) (gd a2 (gN t 404) (if (gA t 404 (a2).toNatClampNeg) ≤ (gA t 404 (a1).toNatClampNeg) then (some (0 : Int32)) else (some (1 : Int32)))))))
set_option maxHeartbeats 4000000 in
set_option maxRecDepth 100000 in
theorem c_x4_isCheaper (l : Launch) {D : va_G} {cI cJ cZ cR : ClassId} {am gm : Nat → Nat} {st : Nat} (sz : Nat) (t : St) (a1 : Int32) (a2 : Int32) {r : Int32} (ho : x4_isCheaper t a1 a2 = some r) : Met l yX4_isCheaper (.code yX4_isCheaper cX4_isCheaper 3 (some .boolean) :: wsAll) (rmN 1 20) (va_Pc [.ref (am 2004), .int a1, .int a2] (prX D (tyX cI cJ cZ cR) (wX cI cJ cZ cR am gm t) sz st)) (qZ r D (tyX cI cJ cZ cR) (wX cI cJ cZ cR am gm t) (va_A (wX cI cJ cZ cR am gm t) sz)) 0 0 (va_A (wX cI cJ cZ cR am gm t) sz) := by
  refine Met.ofW (cc := cX4_isCheaper) (maxL := 3) (ret := (some .boolean)) (by decide) rfl ?_
  intro p e s m args below meth c s₁ B hml hv
  obtain ⟨rfl, ⟨hsz, hP, hK, hD0⟩, hsx⟩ := hv
  have hx := B.exec
  have hb := B.bytes
  have hts := atoms_spec (ws := (.code yX4_isCheaper cX4_isCheaper 3 (some .boolean) :: wsAll)) B.pre
  have hta := fun w h => hts w (List.mem_cons_of_mem _ h)
  have hown : s.vm.findClass RX4 = some m.cls := findClass_of_methodNamed B.named
  have hlocks := B.notSynchronized
  subst hsz
  have hD := hD0.self (sz := s.heap.size)
  generalize hAe : va_A (wX cI cJ cZ cR am gm t) s.heap.size = A at hD ⊢
  have hA : ∀ q : Nat, s.heap.size ≤ q → A q := fun q h => by rw [← hAe]; exact Or.inr h
  have C0 : cxX p s m ([.ref (am 2004), .int a1, .int a2].toArray) meth c cX4_isCheaper RX4 3 (some .boolean) D (tyX cI cJ cZ cR) st A := ⟨⟨hx, hb, B.returns, hml, hown, hta, hlocks, hK, hA⟩, by rw [← hAe]; exact hsx⟩
  have hW : wl D A s (wX cI cJ cZ cR am gm t) s.heap [] := ⟨hP, hD, va_S.rf⟩
  have hl := lv_entry [.ref (am 2004), .int a1, .int a2] (n := 3) (Nat.le_of_ble_eq_true rfl)
  rw [lg_entry_eq]
  generalize (lg_sl [.ref (am 2004), .int a1, .int a2] ++ List.replicate (3 - (lg_sl [.ref (am 2004), .int a1, .int a2]).length) Slot.unset).toArray = ls at hl ⊢
  have hl : lv_has ls 3 [(0, .ref (am 2004)), (1, .int a1), (2, .int a2)] := hl
  unfold x4_isCheaper at ho
  refine lv_aload_n hx hb dX4_isCheaper_0 rfl (lv_at hl 0 rfl) ?_
  refine xGET_404 C0 kw_445 hW dX4_isCheaper_1 ?_
  refine lv_iload_n hx hb dX4_isCheaper_4 rfl (lv_at hl 1 rfl) ?_
  obtain ⟨g1, ho⟩ := gd_some ho
  refine xLD_404 C0 hW g1 dX4_isCheaper_5 ?_
  refine lv_aload_n hx hb dX4_isCheaper_6 rfl (lv_at hl 0 rfl) ?_
  refine xGET_404 C0 kw_445 hW dX4_isCheaper_7 ?_
  refine lv_iload_n hx hb dX4_isCheaper_10 rfl (lv_at hl 2 rfl) ?_
  obtain ⟨g2, ho⟩ := gd_some ho
  refine xLD_404 C0 hW g2 dX4_isCheaper_11 ?_
  refine lv_icmp_eq (tgt := 36) hx hb dX4_isCheaper_12 (by decide) (fun c3 => ?_) (fun c3 => ?_)
  · replace ho := ite_t c3 ho
    refine lv_iload_n hx hb dX4_isCheaper_36 rfl (lv_at hl 1 rfl) ?_
    obtain ⟨q4, hc5, ho⟩ := bd_some ho
    refine bkI C0.1 hW (runSX (As := [.int a1]) (rest := []) C0 hW (c_j6_bitCount_0f7a4 l _ t a1 (r := q4) hc5) cb_X4_J6_bitCount_0f7a4_78 rfl rfl ⟨rfl, rfl⟩ ⟨Nat.le_of_ble_eq_true rfl, Nat.le_of_ble_eq_true rfl⟩ (Nat.le_of_ble_eq_true rfl) hl.1 dX4_isCheaper_37 ⟨Nat.le_of_ble_eq_true rfl, Nat.le_of_ble_eq_true rfl⟩) (fun H locs hW => ?_)
    refine lv_iload_n hx hb dX4_isCheaper_40 rfl (lv_at hl 2 rfl) ?_
    obtain ⟨q6, hc7, ho⟩ := bd_some ho
    refine bkI C0.1 hW (runSX (As := [.int a2]) (rest := [.int q4]) C0 hW (c_j6_bitCount_0f7a4 l _ t a2 (r := q6) hc7) cb_X4_J6_bitCount_0f7a4_78 rfl rfl ⟨rfl, rfl⟩ ⟨Nat.le_of_ble_eq_true rfl, Nat.le_of_ble_eq_true rfl⟩ (Nat.le_of_ble_eq_true rfl) hl.1 dX4_isCheaper_41 ⟨Nat.le_of_ble_eq_true rfl, Nat.le_of_ble_eq_true rfl⟩) (fun H locs hW => ?_)
    refine lv_icmp_ge (tgt := 51) hx hb dX4_isCheaper_44 (by decide) (fun c8 => ?_) (fun c8 => ?_)
    · replace ho := ite_t c8 ho
      refine lv_iconst (v := (0 : Int32)) hx hb dX4_isCheaper_51 (by decide) ?_
      cases ho
      exact rtZ C0.1 hW (Or.inl (rfl : (0 : Int32) = 0)) dX4_isCheaper_52
    · replace ho := ite_f c8 ho
      refine lv_iconst (v := (1 : Int32)) hx hb dX4_isCheaper_47 (by decide) ?_
      refine lv_goto (tgt := 52) hx hb dX4_isCheaper_48 (by decide) ?_
      cases ho
      exact rtZ C0.1 hW (Or.inr (rfl : (1 : Int32) = 1)) dX4_isCheaper_52
  · replace ho := ite_f c3 ho
    refine lv_aload_n hx hb dX4_isCheaper_15 rfl (lv_at hl 0 rfl) ?_
    refine xGET_404 C0 kw_445 hW dX4_isCheaper_16 ?_
    refine lv_iload_n hx hb dX4_isCheaper_19 rfl (lv_at hl 1 rfl) ?_
    obtain ⟨g9, ho⟩ := gd_some ho
    refine xLD_404 C0 hW g9 dX4_isCheaper_20 ?_
    refine lv_aload_n hx hb dX4_isCheaper_21 rfl (lv_at hl 0 rfl) ?_
    refine xGET_404 C0 kw_445 hW dX4_isCheaper_22 ?_
    refine lv_iload_n hx hb dX4_isCheaper_25 rfl (lv_at hl 2 rfl) ?_
    obtain ⟨g10, ho⟩ := gd_some ho
    refine xLD_404 C0 hW g10 dX4_isCheaper_26 ?_
    refine lv_icmp_ge (tgt := 34) hx hb dX4_isCheaper_27 (by decide) (fun c11 => ?_) (fun c11 => ?_)
    · replace ho := ite_t c11 ho
      refine lv_iconst (v := (0 : Int32)) hx hb dX4_isCheaper_34 (by decide) ?_
      cases ho
      exact rtZ C0.1 hW (Or.inl (rfl : (0 : Int32) = 0)) dX4_isCheaper_35
    · replace ho := ite_f c11 ho
      refine lv_iconst (v := (1 : Int32)) hx hb dX4_isCheaper_30 (by decide) ?_
      refine lv_goto (tgt := 35) hx hb dX4_isCheaper_31 (by decide) ?_
      cases ho
      exact rtZ C0.1 hW (Or.inr (rfl : (1 : Int32) = 1)) dX4_isCheaper_35
noncomputable def x4_leastHolding_J38 (t : St) (v2 : Int32) (v3 : Int32) : Option ((Int32 × Int32) ⊕ (Int32)) :=
  gd v3 (gN t 403) ((x8_narrowed t ((65535 : Int32) &&& ((gA t 403 (v3).toNatClampNeg) ^^^ (-1 : Int32)))).bind (fun q2 => (x8_bit t q2).bind (fun q4 => if q4 = 0 then (nm (v3 + (1 : Int32)) (fun x8 : Int32 => some (.inl (v3, x8)))) else (nm (v3 + (1 : Int32)) (fun x7 : Int32 => some (.inl (v2, x7)))))))
noncomputable def x4_leastHolding_B12 (t : St) (v2 : Int32) (v3 : Int32) : Option ((Int32 × Int32) ⊕ (Int32)) :=
  if ((1 : Int32) <<< ((gI t 402) &&& 31)) ≤ v3 then (some (.inr v2)) else (if v2 < 0 then (x4_leastHolding_J38 t v2 v3) else ((x4_isCheaper t v3 v2).bind (fun q11 => if q11 = 0 then (nm (v3 + (1 : Int32)) (fun x15 : Int32 => some (.inl (v2, x15)))) else (x4_leastHolding_J38 t v2 v3))))
noncomputable def x4_leastHolding_J8 (t : St) : Option (Int32 × St) :=
  (lp (fun x => x4_leastHolding_B12 t x.1 x.2) ((-1 : Int32), (0 : Int32))).bind (fun y16 => some (y16, t))
theorem mm_x4_leastHolding_J8 (t : St) : MR (x4_leastHolding_J8 t) t (fun (a : Int32 × St) => a.2) := by
  unfold x4_leastHolding_J8
  exact MR_bindn (fun y16 => MR_some mle.rfl)
noncomputable def x4_leastHolding (t0 : St) (a1 : Int32) : Option (Int32 × St) :=
  (x8_fillFor t0 a1).bind (fun q19 => x4_leastHolding_J8 q19)
theorem mm_x4_leastHolding (t0 : St) (a1 : Int32) : MR (x4_leastHolding t0 a1) t0 (fun (a : Int32 × St) => a.2) := by
  unfold x4_leastHolding
  exact MR_bind (mm_x8_fillFor t0 a1) (fun q19 hq19 => MR_wk hq19 (mm_x4_leastHolding_J8 q19))
set_option maxHeartbeats 4000000 in
set_option maxRecDepth 100000 in
theorem x4_leastHolding_L12 {p : Program} {l : Launch} {e : Env} {s : State} {m : MethodId} {args : Array Value} {below : List Frame} {meth : Method} {c : Code} {Q : State → Prop} {D : va_G} {cI cJ cZ cR : ClassId} {am gm : Nat → Nat} {st : Nat} {A : Nat → Prop} (C0 : cxX p s m args meth c cX4_leastHolding RX4 4 (some .int) D (tyX cI cJ cZ cR) st A) {t0 t' : St} {cells slots : Nat} (hR : cells ≤ mC t0 t' ∧ slots ≤ mS t0 t') {t : St} {y : Int32} (hK0 : ∀ (H : Heap) (locs : List Loc) (ls : Array Slot), wl D A s (wX cI cJ cZ cR am gm t) H locs → lv_has ls 4 [(0, .ref (am 2004)), (2, .int y)] → W p l e (rmA 4 97 t0 t') s m args below meth c H locs cells slots Q (F0 m 74 ls [])) :
    ∀ (n : Nat) (v2 : Int32) (v3 : Int32), lpn (fun x => x4_leastHolding_B12 t x.1 x.2) n (v2, v3) = some y → ∀ (H : Heap) (locs : List Loc) (ls : Array Slot), wl D A s (wX cI cJ cZ cR am gm t) H locs → lv_has ls 4 [(0, .ref (am 2004)), (2, .int v2), (3, .int v3)] → W p l e (rmA 4 97 t0 t') s m args below meth c H locs cells slots Q (F0 m 12 ls []) := by
  have hx := C0.1.1
  have hb := C0.1.2.1
  have hta := C0.1.2.2.2.2.2.1
  have hown := C0.1.2.2.2.2.1
  intro n
  induction n with
  | zero => intro _ _ h; cases h
  | succ n ih =>
    intro v2 v3 hrun H locs ls hW hl
    obtain ⟨o, ho, hrun⟩ := bd_some hrun
    have J38 : ∀ (v2 : Int32) (v3 : Int32) (_ : x4_leastHolding_J38 t v2 v3 = some o) (H : Heap) (locs : List Loc) (ls : Array Slot), wl D A s (wX cI cJ cZ cR am gm t) H locs → lv_has ls 4 [(0, .ref (am 2004)), (2, .int v2), (3, .int v3)] → W p l e (rmA 4 97 t0 t') s m args below meth c H locs cells slots Q (F0 m 38 ls []) := by
      intro v2 v3 ho H locs ls hW hl
      unfold x4_leastHolding_J38 at ho
      refine lv_aload_n hx hb dX4_leastHolding_38 rfl (lv_at hl 0 rfl) ?_
      refine xGET_400 C0 kw_439 hW dX4_leastHolding_39 ?_
      refine lv_aload_n hx hb dX4_leastHolding_42 rfl (lv_at hl 0 rfl) ?_
      refine xGET_400 C0 kw_439 hW dX4_leastHolding_43 ?_
      refine lv_ldc hx hb hown (hta _ kw_1104) dX4_leastHolding_46 ?_
      refine lv_aload_n hx hb dX4_leastHolding_48 rfl (lv_at hl 0 rfl) ?_
      refine xGET_403 C0 kw_443 hW dX4_leastHolding_49 ?_
      refine lv_iload_n hx hb dX4_leastHolding_52 rfl (lv_at hl 2 rfl) ?_
      obtain ⟨g1, ho⟩ := gd_some ho
      refine xLD_403 C0 hW g1 dX4_leastHolding_53 ?_
      refine lv_iconst (v := (-1 : Int32)) hx hb dX4_leastHolding_54 (by decide) ?_
      refine lv_ixor hx hb dX4_leastHolding_55 ?_
      refine lv_iand hx hb dX4_leastHolding_56 ?_
      obtain ⟨q2, hc3, ho⟩ := bd_some ho
      refine bkI C0.1 hW (runVX (As := [.int ((65535 : Int32) &&& ((gA t 403 (v3).toNatClampNeg) ^^^ (-1 : Int32)))]) (rest := [.ref (am 2008)]) C0 hW (c_x8_narrowed l _ t ((65535 : Int32) &&& ((gA t 403 (v3).toNatClampNeg) ^^^ (-1 : Int32))) (r := q2) hc3) cb_X4_X8_narrowed_71 8 8 rfl rfl rfl rfl rfl ⟨rfl, rfl⟩ ⟨Nat.le_of_ble_eq_true rfl, Nat.le_of_ble_eq_true rfl⟩ (Nat.le_of_ble_eq_true rfl) hl.1 dX4_leastHolding_57 ⟨hR.1, hR.2⟩) (fun H locs hW => ?_)
      obtain ⟨q4, hc5, ho⟩ := bd_some ho
      refine bkI C0.1 hW (runVX (As := [.int q2]) (rest := []) C0 hW (c_x8_bit l _ t q2 (r := q4) hc5) cb_X4_X8_bit_75 8 8 rfl rfl rfl rfl rfl ⟨rfl, rfl⟩ ⟨Nat.le_of_ble_eq_true rfl, Nat.le_of_ble_eq_true rfl⟩ (Nat.le_of_ble_eq_true rfl) hl.1 dX4_leastHolding_60 ⟨hR.1, hR.2⟩) (fun H locs hW => ?_)
      refine lv_if_ne (tgt := 68) hx hb dX4_leastHolding_63 (by decide) (fun c6 => ?_) (fun c6 => ?_)
      · replace ho := ite_f c6 ho
        obtain ⟨x7, ex7, ho⟩ := nm_x ho
        refine lv_iinc (v := x7) (lv' := [(3, .int x7), (0, .ref (am 2004)), (2, .int v2)]) hx hb dX4_leastHolding_68 hl (k := 2) rfl (by rw [ex7]; rfl) (by decide) rfl (fun ls hl => ?_)
        clear ex7
        refine lv_goto (tgt := 12) hx hb dX4_leastHolding_71 (by decide) ?_
        cases ho
        exact ih _ _ hrun _ _ _ hW (lv_sub hl [1, 2, 0] rfl)
      · replace ho := ite_t c6 ho
        refine lv_iload_n hx hb dX4_leastHolding_66 rfl (lv_at hl 2 rfl) ?_
        refine lv_istore_n (lv' := [(2, .int v3), (0, .ref (am 2004)), (3, .int v3)]) hx hb dX4_leastHolding_67 rfl hl (by decide) rfl (fun ls hl => ?_)
        obtain ⟨x8, ex8, ho⟩ := nm_x ho
        refine lv_iinc (v := x8) (lv' := [(3, .int x8), (2, .int v3), (0, .ref (am 2004))]) hx hb dX4_leastHolding_68 hl (k := 2) rfl (by rw [ex8]; rfl) (by decide) rfl (fun ls hl => ?_)
        clear ex8
        refine lv_goto (tgt := 12) hx hb dX4_leastHolding_71 (by decide) ?_
        cases ho
        exact ih _ _ hrun _ _ _ hW (lv_sub hl [2, 1, 0] rfl)
    unfold x4_leastHolding_B12 at ho
    refine lv_iload_n hx hb dX4_leastHolding_12 rfl (lv_at hl 2 rfl) ?_
    refine lv_iconst (v := (1 : Int32)) hx hb dX4_leastHolding_13 (by decide) ?_
    refine lv_aload_n hx hb dX4_leastHolding_14 rfl (lv_at hl 0 rfl) ?_
    refine xGET_402 C0 kw_441 hW dX4_leastHolding_15 ?_
    refine lv_ishl hx hb dX4_leastHolding_18 ?_
    refine lv_icmp_ge (tgt := 74) hx hb dX4_leastHolding_19 (by decide) (fun c9 => ?_) (fun c9 => ?_)
    · replace ho := ite_t c9 ho
      cases ho
      cases hrun
      exact hK0 _ _ _ hW (lv_sub hl [0, 1] rfl)
    · replace ho := ite_f c9 ho
      refine lv_iload_n hx hb dX4_leastHolding_22 rfl (lv_at hl 1 rfl) ?_
      refine lv_if_lt (tgt := 38) hx hb dX4_leastHolding_23 (by decide) (fun c10 => ?_) (fun c10 => ?_)
      · replace ho := ite_t c10 ho
        exact J38 _ _ ho _ _ _ hW (lv_sub hl [0, 1, 2] rfl)
      · replace ho := ite_f c10 ho
        refine lv_aload_n hx hb dX4_leastHolding_26 rfl (lv_at hl 0 rfl) ?_
        refine lv_iload_n hx hb dX4_leastHolding_27 rfl (lv_at hl 2 rfl) ?_
        refine lv_iload_n hx hb dX4_leastHolding_28 rfl (lv_at hl 1 rfl) ?_
        obtain ⟨q11, hc12, ho⟩ := bd_some ho
        refine bkZ C0.1 hW (runVX (As := [.int v3, .int v2]) (rest := []) C0 hW (c_x4_isCheaper l _ t v3 v2 (r := q11) hc12) cb_X4_X4_isCheaper_66 4 4 rfl rfl rfl rfl rfl ⟨rfl, rfl⟩ ⟨Nat.le_of_ble_eq_true rfl, Nat.le_of_ble_eq_true rfl⟩ (Nat.le_of_ble_eq_true rfl) hl.1 dX4_leastHolding_29 ⟨hR.1, hR.2⟩) (fun z13 H locs hW => ?_)
        refine lv_if_ne (tgt := 38) hx hb dX4_leastHolding_32 (by decide) (fun c14 => ?_) (fun c14 => ?_)
        · replace ho := ite_f c14 ho
          exact J38 _ _ ho _ _ _ hW (lv_sub hl [0, 1, 2] rfl)
        · replace ho := ite_t c14 ho
          refine lv_goto (tgt := 68) hx hb dX4_leastHolding_35 (by decide) ?_
          obtain ⟨x15, ex15, ho⟩ := nm_x ho
          refine lv_iinc (v := x15) (lv' := [(3, .int x15), (0, .ref (am 2004)), (2, .int v2)]) hx hb dX4_leastHolding_68 hl (k := 2) rfl (by rw [ex15]; rfl) (by decide) rfl (fun ls hl => ?_)
          clear ex15
          refine lv_goto (tgt := 12) hx hb dX4_leastHolding_71 (by decide) ?_
          cases ho
          exact ih _ _ hrun _ _ _ hW (lv_sub hl [1, 2, 0] rfl)
set_option maxHeartbeats 4000000 in
set_option maxRecDepth 100000 in
theorem c_x4_leastHolding (l : Launch) {D : va_G} {cI cJ cZ cR : ClassId} {am gm : Nat → Nat} {st : Nat} (sz : Nat) (t0 : St) (a1 : Int32) {r : Int32} {t' : St} (ho : x4_leastHolding t0 a1 = some (r, t')) : Met l yX4_leastHolding (.code yX4_leastHolding cX4_leastHolding 4 (some .int) :: wsAll) (rmA 4 97 t0 t') (va_Pc [.ref (am 2004), .int a1] (prX D (tyX cI cJ cZ cR) (wX cI cJ cZ cR am gm t0) sz st)) (qIa r D (tyX cI cJ cZ cR) (fun gm => wX cI cJ cZ cR am gm t') (va_A (wX cI cJ cZ cR am gm t0) sz)) (mC t0 t') (mS t0 t') (va_A (wX cI cJ cZ cR am gm t0) sz) := by
  refine Met.ofW (cc := cX4_leastHolding) (maxL := 4) (ret := (some .int)) (by decide) rfl ?_
  intro p e s m args below meth c s₁ B hml hv
  obtain ⟨rfl, ⟨hsz, hP, hK, hD0⟩, hsx⟩ := hv
  have hx := B.exec
  have hb := B.bytes
  have hts := atoms_spec (ws := (.code yX4_leastHolding cX4_leastHolding 4 (some .int) :: wsAll)) B.pre
  have hta := fun w h => hts w (List.mem_cons_of_mem _ h)
  have hown : s.vm.findClass RX4 = some m.cls := findClass_of_methodNamed B.named
  have hlocks := B.notSynchronized
  subst hsz
  have hD := hD0.self (sz := s.heap.size)
  generalize hAe : va_A (wX cI cJ cZ cR am gm t0) s.heap.size = A at hD ⊢
  have hA : ∀ q : Nat, s.heap.size ≤ q → A q := fun q h => by rw [← hAe]; exact Or.inr h
  have C0 : cxX p s m ([.ref (am 2004), .int a1].toArray) meth c cX4_leastHolding RX4 4 (some .int) D (tyX cI cJ cZ cR) st A := ⟨⟨hx, hb, B.returns, hml, hown, hta, hlocks, hK, hA⟩, by rw [← hAe]; exact hsx⟩
  have hW : wl D A s (wX cI cJ cZ cR am gm t0) s.heap [] := ⟨hP, hD, va_S.rf⟩
  have hl := lv_entry [.ref (am 2004), .int a1] (n := 4) (Nat.le_of_ble_eq_true rfl)
  rw [lg_entry_eq]
  generalize (lg_sl [.ref (am 2004), .int a1] ++ List.replicate (4 - (lg_sl [.ref (am 2004), .int a1]).length) Slot.unset).toArray = ls at hl ⊢
  have hl : lv_has ls 4 [(0, .ref (am 2004)), (1, .int a1)] := hl
  clear hAe hD hP hD0 hts
  have J8 : ∀ (gm : Nat → Nat) (t : St) (_ : x4_leastHolding_J8 t = some (r, t')) (_ : mle t0 t) (H : Heap) (locs : List Loc) (ls : Array Slot), wl D A s (wX cI cJ cZ cR am gm t) H locs → lv_has ls 4 [(0, .ref (am 2004))] → W p l e (rmA 4 97 t0 t') s m ([.ref (am 2004), .int a1].toArray) below meth c H locs (mC t0 t) (mS t0 t) (MQ below (qIa r D (tyX cI cJ cZ cR) (fun gm => wX cI cJ cZ cR am gm t') A) ([.ref (am 2004), .int a1].toArray) s (mC t0 t') (mS t0 t') A) (F0 m 8 ls []) := by
    intro gm t ho h0 H locs ls hW hl
    have hE : mle t t' := (mm_x4_leastHolding_J8 _ _ ho)
    have hR := hR_of (t0 := t0) hE
    unfold x4_leastHolding_J8 at ho
    refine lv_iconst (v := (-1 : Int32)) hx hb dX4_leastHolding_8 (by decide) ?_
    refine lv_istore_n (lv' := [(2, .int (-1 : Int32)), (0, .ref (am 2004))]) hx hb dX4_leastHolding_9 rfl hl (by decide) rfl (fun ls hl => ?_)
    refine lv_iconst (v := (0 : Int32)) hx hb dX4_leastHolding_10 (by decide) ?_
    refine lv_istore_n (lv' := [(3, .int (0 : Int32)), (2, .int (-1 : Int32)), (0, .ref (am 2004))]) hx hb dX4_leastHolding_11 rfl hl (by decide) rfl (fun ls hl => ?_)
    obtain ⟨y16, hc18, ho⟩ := bd_some ho
    obtain ⟨ny16, hc18⟩ := lp_to hc18
    refine x4_leastHolding_L12 C0 hR ?_ ny16 _ _ hc18 _ _ _ hW (lv_sub hl [2, 1, 0] rfl)
    intro H locs ls hW hl
    refine lv_iload_n hx hb dX4_leastHolding_74 rfl (lv_at hl 1 rfl) ?_
    cases ho
    exact rtIa gm C0.1 hW dX4_leastHolding_75
  have hE : mle t0 t' := mm_x4_leastHolding _ _ _ ho
  have hR := hR_of (t0 := t0) hE
  have h0 : mle t0 t0 := mle.rfl
  refine W_0 (t0 := t0) ?_
  unfold x4_leastHolding at ho
  refine lv_aload_n hx hb dX4_leastHolding_0 rfl (lv_at hl 0 rfl) ?_
  refine xGET_400 C0 kw_439 hW dX4_leastHolding_1 ?_
  refine lv_iload_n hx hb dX4_leastHolding_4 rfl (lv_at hl 1 rfl) ?_
  obtain ⟨q19, hc20, ho⟩ := bd_some ho
  have hq19 := mm_x8_fillFor t0 a1 _ hc20
  have hEq19 := (mm_x4_leastHolding_J8 _ _ ho)
  refine bkVa C0.1 hW h0 hq19 (runVX (As := [.int a1]) (rest := []) C0 hW (c_x8_fillFor l _ t0 a1 (t' := q19) hc20) cb_X4_X8_fillFor_60 8 8 rfl rfl rfl rfl rfl ⟨rfl, rfl⟩ ⟨Nat.le_of_ble_eq_true rfl, Nat.le_of_ble_eq_true rfl⟩ (Nat.le_of_ble_eq_true rfl) hl.1 dX4_leastHolding_5 (hf_of h0 hq19 hEq19)) (fun gm H locs hW => ?_)
  have h0 := mle.trans h0 hq19
  exact J8 gm _ ho h0 _ _ _ hW (lv_sub hl [0] rfl)
noncomputable def x11_leastGuards_J37 (t : St) (w0 : Int32) : Option (Int32 × St) :=
  some (w0, t)
theorem mm_x11_leastGuards_J37 (t : St) (w0 : Int32) : MR (x11_leastGuards_J37 t w0) t (fun (a : Int32 × St) => a.2) := by
  unfold x11_leastGuards_J37
  exact MR_some mle.rfl
noncomputable def x11_leastGuards (t0 : St) (a1 : Int32) : Option (Int32 × St) :=
  (x11_noNet t0 a1).bind (fun q1 => if q1 = 0 then (gd a1 (gN t0 602) (nm (gA t0 602 (a1).toNatClampNeg) (fun x6 : Int32 => if 0 ≤ x6 then ((x4_leastHolding t0 x6).bind (fun q8 => x11_leastGuards_J37 q8.2 q8.1)) else (x11_leastGuards_J37 t0 (-3 : Int32))))) else (some ((-2 : Int32), t0)))
theorem mm_x11_leastGuards (t0 : St) (a1 : Int32) : MR (x11_leastGuards t0 a1) t0 (fun (a : Int32 × St) => a.2) := by
  unfold x11_leastGuards
  exact MR_bindn (fun q1 => MR_ite (MR_gd (MR_nm (fun x6 _ => MR_ite (MR_bind (mm_x4_leastHolding t0 x6) (fun q8 hq8 => MR_wk hq8 (mm_x11_leastGuards_J37 q8.2 q8.1))) (MR_wk mle.rfl (mm_x11_leastGuards_J37 t0 (-3 : Int32)))))) (MR_some mle.rfl))
set_option maxHeartbeats 4000000 in
set_option maxRecDepth 100000 in
theorem c_x11_leastGuards (l : Launch) {D : va_G} {cI cJ cZ cR : ClassId} {am gm : Nat → Nat} {st : Nat} (sz : Nat) (t0 : St) (a1 : Int32) {r : Int32} {t' : St} (ho : x11_leastGuards t0 a1 = some (r, t')) : Met l yX11_leastGuards (.code yX11_leastGuards cX11_leastGuards 3 (some .int) :: wsAll) (rmA 5 120 t0 t') (va_Pc [.ref (am 2011), .int a1] (prX D (tyX cI cJ cZ cR) (wX cI cJ cZ cR am gm t0) sz st)) (qIa r D (tyX cI cJ cZ cR) (fun gm => wX cI cJ cZ cR am gm t') (va_A (wX cI cJ cZ cR am gm t0) sz)) (mC t0 t') (mS t0 t') (va_A (wX cI cJ cZ cR am gm t0) sz) := by
  refine Met.ofW (cc := cX11_leastGuards) (maxL := 3) (ret := (some .int)) (by decide) rfl ?_
  intro p e s m args below meth c s₁ B hml hv
  obtain ⟨rfl, ⟨hsz, hP, hK, hD0⟩, hsx⟩ := hv
  have hx := B.exec
  have hb := B.bytes
  have hts := atoms_spec (ws := (.code yX11_leastGuards cX11_leastGuards 3 (some .int) :: wsAll)) B.pre
  have hta := fun w h => hts w (List.mem_cons_of_mem _ h)
  have hown : s.vm.findClass RX11 = some m.cls := findClass_of_methodNamed B.named
  have hlocks := B.notSynchronized
  subst hsz
  have hD := hD0.self (sz := s.heap.size)
  generalize hAe : va_A (wX cI cJ cZ cR am gm t0) s.heap.size = A at hD ⊢
  have hA : ∀ q : Nat, s.heap.size ≤ q → A q := fun q h => by rw [← hAe]; exact Or.inr h
  have C0 : cxX p s m ([.ref (am 2011), .int a1].toArray) meth c cX11_leastGuards RX11 3 (some .int) D (tyX cI cJ cZ cR) st A := ⟨⟨hx, hb, B.returns, hml, hown, hta, hlocks, hK, hA⟩, by rw [← hAe]; exact hsx⟩
  have hW : wl D A s (wX cI cJ cZ cR am gm t0) s.heap [] := ⟨hP, hD, va_S.rf⟩
  have hl := lv_entry [.ref (am 2011), .int a1] (n := 3) (Nat.le_of_ble_eq_true rfl)
  rw [lg_entry_eq]
  generalize (lg_sl [.ref (am 2011), .int a1] ++ List.replicate (3 - (lg_sl [.ref (am 2011), .int a1]).length) Slot.unset).toArray = ls at hl ⊢
  have hl : lv_has ls 3 [(0, .ref (am 2011)), (1, .int a1)] := hl
  clear hAe hD hP hD0 hts
  have J37 : ∀ (gm : Nat → Nat) (t : St) (w0 : Int32) (_ : x11_leastGuards_J37 t w0 = some (r, t')) (_ : mle t0 t) (H : Heap) (locs : List Loc) (ls : Array Slot), wl D A s (wX cI cJ cZ cR am gm t) H locs → lv_has ls 3 [(0, .ref (am 2011))] → W p l e (rmA 5 120 t0 t') s m ([.ref (am 2011), .int a1].toArray) below meth c H locs (mC t0 t) (mS t0 t) (MQ below (qIa r D (tyX cI cJ cZ cR) (fun gm => wX cI cJ cZ cR am gm t') A) ([.ref (am 2011), .int a1].toArray) s (mC t0 t') (mS t0 t') A) (F0 m 37 ls [.int w0]) := by
    intro gm t w0 ho h0 H locs ls hW hl
    have hE : mle t t' := (mm_x11_leastGuards_J37 _ _ _ ho)
    have hR := hR_of (t0 := t0) hE
    unfold x11_leastGuards_J37 at ho
    cases ho
    exact rtIa gm C0.1 hW dX11_leastGuards_37
  have hE : mle t0 t' := mm_x11_leastGuards _ _ _ ho
  have hR := hR_of (t0 := t0) hE
  have h0 : mle t0 t0 := mle.rfl
  refine W_0 (t0 := t0) ?_
  unfold x11_leastGuards at ho
  refine lv_iload_n hx hb dX11_leastGuards_0 rfl (lv_at hl 1 rfl) ?_
  obtain ⟨q1, hc2, ho⟩ := bd_some ho
  refine bkZ C0.1 hW (runSX (As := [.int a1]) (rest := []) C0 hW (c_x11_noNet l _ t0 a1 (r := q1) hc2) cb_X11_X11_noNet_124 rfl rfl ⟨rfl, rfl⟩ ⟨Nat.le_of_ble_eq_true rfl, Nat.le_of_ble_eq_true rfl⟩ (Nat.le_of_ble_eq_true rfl) hl.1 dX11_leastGuards_1 ⟨hR.1, hR.2⟩) (fun z3 H locs hW => ?_)
  refine lv_if_eq (tgt := 10) hx hb dX11_leastGuards_4 (by decide) (fun c4 => ?_) (fun c4 => ?_)
  · replace ho := ite_t c4 ho
    refine lv_aload_n hx hb dX11_leastGuards_10 rfl (lv_at hl 0 rfl) ?_
    refine xGET_1101 C0 kw_592 hW dX11_leastGuards_11 ?_
    refine xGET_602 C0 kw_184 hW dX11_leastGuards_14 ?_
    refine lv_iload_n hx hb dX11_leastGuards_17 rfl (lv_at hl 1 rfl) ?_
    obtain ⟨g5, ho⟩ := gd_some ho
    refine xLD_602 C0 hW g5 dX11_leastGuards_18 ?_
    refine lv_nmi ho (fun x6 ho => ?_)
    refine lv_istore_n (lv' := [(2, .int x6), (0, .ref (am 2011)), (1, .int a1)]) hx hb dX11_leastGuards_19 rfl hl (by decide) rfl (fun ls hl => ?_)
    refine lv_iload_n hx hb dX11_leastGuards_20 rfl (lv_at hl 0 rfl) ?_
    refine lv_if_ge (tgt := 29) hx hb dX11_leastGuards_21 (by decide) (fun c7 => ?_) (fun c7 => ?_)
    · replace ho := ite_t c7 ho
      refine lv_aload_n hx hb dX11_leastGuards_29 rfl (lv_at hl 1 rfl) ?_
      refine xGET_1107 C0 kw_598 hW dX11_leastGuards_30 ?_
      refine lv_iload_n hx hb dX11_leastGuards_33 rfl (lv_at hl 0 rfl) ?_
      obtain ⟨q8, hc9, ho⟩ := bd_some ho
      have hq8 := mm_x4_leastHolding t0 x6 _ hc9
      have hEq8 := (mm_x11_leastGuards_J37 _ _ _ ho)
      refine bkIa C0.1 hW h0 hq8 (runVX (As := [.int x6]) (rest := []) C0 hW (c_x4_leastHolding l _ t0 x6 (r := q8.1) (t' := q8.2) hc9) cb_X11_X4_leastHolding_253 4 4 rfl rfl rfl rfl rfl ⟨rfl, rfl⟩ ⟨Nat.le_of_ble_eq_true rfl, Nat.le_of_ble_eq_true rfl⟩ (Nat.le_of_ble_eq_true rfl) hl.1 dX11_leastGuards_34 (hf_of h0 hq8 hEq8)) (fun gm H locs hW => ?_)
      have h0 := mle.trans h0 hq8
      exact J37 gm _ _ ho h0 _ _ _ hW (lv_sub hl [1] rfl)
    · replace ho := ite_f c7 ho
      refine lv_bipush (v := (-3 : Int32)) hx hb dX11_leastGuards_24 (by decide) ?_
      refine lv_goto (tgt := 37) hx hb dX11_leastGuards_26 (by decide) ?_
      exact J37 gm _ _ ho h0 _ _ _ hW (lv_sub hl [1] rfl)
  · replace ho := ite_f c4 ho
    refine lv_bipush (v := (-2 : Int32)) hx hb dX11_leastGuards_7 (by decide) ?_
    cases ho
    exact rtIa gm C0.1 hW dX11_leastGuards_9
noncomputable def x4_hasIdler_B16 (t : St) (v1 : Int32) (v2 : Int32) (v3 : Int32) : Option ((Int32) ⊕ ((Unit) ⊕ (Unit))) :=
  if (gI t 402) ≤ v3 then (some (.inr (.inr ()))) else (if ((v1 >>> (v3 &&& 31)) &&& (1 : Int32)) = (1 : Int32) then (gd (v1 ^^^ ((1 : Int32) <<< (v3 &&& 31))) (gN t 403) ((x8_narrowed t (gA t 403 ((v1 ^^^ ((1 : Int32) <<< (v3 &&& 31)))).toNatClampNeg)).bind (fun q5 => if q5 = v2 then (some (.inr (.inl ()))) else (nm (v3 + (1 : Int32)) (fun x8 : Int32 => some (.inl x8)))))) else (nm (v3 + (1 : Int32)) (fun x3 : Int32 => some (.inl x3))))
noncomputable def x4_hasIdler (t : St) (a1 : Int32) : Option (Int32) :=
  gd a1 (gN t 403) ((x8_narrowed t (gA t 403 (a1).toNatClampNeg)).bind (fun q10 => (lp (fun x => x4_hasIdler_B16 t a1 q10 x) (0 : Int32)).bind (fun y12 => (Sum.elim (fun u15 => some (1 : Int32)) (fun u15 => some (0 : Int32))) y12)))
set_option maxHeartbeats 4000000 in
set_option maxRecDepth 100000 in
theorem x4_hasIdler_L16 {p : Program} {l : Launch} {e : Env} {s : State} {m : MethodId} {args : Array Value} {below : List Frame} {meth : Method} {c : Code} {Q : State → Prop} {D : va_G} {cI cJ cZ cR : ClassId} {am gm : Nat → Nat} {st : Nat} {A : Nat → Prop} (C0 : cxX p s m args meth c cX4_hasIdler RX4 4 (some .boolean) D (tyX cI cJ cZ cR) st A) {t : St} {v1 : Int32} {v2 : Int32} {y : (Unit) ⊕ (Unit)} (hK0 : ∀ u, y = (.inl u) → ∀ (H : Heap) (locs : List Loc) (ls : Array Slot), wl D A s (wX cI cJ cZ cR am gm t) H locs → lv_has ls 4 [(0, .ref (am 2004))] → W p l e (rmN 1 23) s m args below meth c H locs 0 0 Q (F0 m 54 ls [])) (hK1 : ∀ u, y = (.inr u) → ∀ (H : Heap) (locs : List Loc) (ls : Array Slot), wl D A s (wX cI cJ cZ cR am gm t) H locs → lv_has ls 4 [(0, .ref (am 2004))] → W p l e (rmN 1 23) s m args below meth c H locs 0 0 Q (F0 m 62 ls [])) :
    ∀ (n : Nat) (v3 : Int32), lpn (fun x => x4_hasIdler_B16 t v1 v2 x) n v3 = some y → ∀ (H : Heap) (locs : List Loc) (ls : Array Slot), wl D A s (wX cI cJ cZ cR am gm t) H locs → lv_has ls 4 [(0, .ref (am 2004)), (1, .int v1), (2, .int v2), (3, .int v3)] → W p l e (rmN 1 23) s m args below meth c H locs 0 0 Q (F0 m 16 ls []) := by
  have hx := C0.1.1
  have hb := C0.1.2.1
  have hta := C0.1.2.2.2.2.2.1
  have hown := C0.1.2.2.2.2.1
  intro n
  induction n with
  | zero => intro _ h; cases h
  | succ n ih =>
    intro v3 hrun H locs ls hW hl
    obtain ⟨o, ho, hrun⟩ := bd_some hrun
    unfold x4_hasIdler_B16 at ho
    refine lv_iload_n hx hb dX4_hasIdler_16 rfl (lv_at hl 3 rfl) ?_
    refine lv_aload_n hx hb dX4_hasIdler_17 rfl (lv_at hl 0 rfl) ?_
    refine xGET_402 C0 kw_441 hW dX4_hasIdler_18 ?_
    refine lv_icmp_ge (tgt := 62) hx hb dX4_hasIdler_21 (by decide) (fun c1 => ?_) (fun c1 => ?_)
    · replace ho := ite_t c1 ho
      cases ho
      cases hrun
      exact hK1 _ rfl _ _ _ hW (lv_sub hl [0] rfl)
    · replace ho := ite_f c1 ho
      refine lv_iload_n hx hb dX4_hasIdler_24 rfl (lv_at hl 1 rfl) ?_
      refine lv_iload_n hx hb dX4_hasIdler_25 rfl (lv_at hl 3 rfl) ?_
      refine lv_ishr hx hb dX4_hasIdler_26 ?_
      refine lv_iconst (v := (1 : Int32)) hx hb dX4_hasIdler_27 (by decide) ?_
      refine lv_iand hx hb dX4_hasIdler_28 ?_
      refine lv_iconst (v := (1 : Int32)) hx hb dX4_hasIdler_29 (by decide) ?_
      refine lv_icmp_ne (tgt := 56) hx hb dX4_hasIdler_30 (by decide) (fun c2 => ?_) (fun c2 => ?_)
      · replace ho := ite_f c2 ho
        obtain ⟨x3, ex3, ho⟩ := nm_x ho
        refine lv_iinc (v := x3) (lv' := [(3, .int x3), (0, .ref (am 2004)), (1, .int v1), (2, .int v2)]) hx hb dX4_hasIdler_56 hl (k := 3) rfl (by rw [ex3]; rfl) (by decide) rfl (fun ls hl => ?_)
        clear ex3
        refine lv_goto (tgt := 16) hx hb dX4_hasIdler_59 (by decide) ?_
        cases ho
        exact ih _ hrun _ _ _ hW (lv_sub hl [1, 2, 3, 0] rfl)
      · replace ho := ite_t c2 ho
        refine lv_aload_n hx hb dX4_hasIdler_33 rfl (lv_at hl 0 rfl) ?_
        refine xGET_400 C0 kw_439 hW dX4_hasIdler_34 ?_
        refine lv_aload_n hx hb dX4_hasIdler_37 rfl (lv_at hl 0 rfl) ?_
        refine xGET_403 C0 kw_443 hW dX4_hasIdler_38 ?_
        refine lv_iload_n hx hb dX4_hasIdler_41 rfl (lv_at hl 1 rfl) ?_
        refine lv_iconst (v := (1 : Int32)) hx hb dX4_hasIdler_42 (by decide) ?_
        refine lv_iload_n hx hb dX4_hasIdler_43 rfl (lv_at hl 3 rfl) ?_
        refine lv_ishl hx hb dX4_hasIdler_44 ?_
        refine lv_ixor hx hb dX4_hasIdler_45 ?_
        obtain ⟨g4, ho⟩ := gd_some ho
        refine xLD_403 C0 hW g4 dX4_hasIdler_46 ?_
        obtain ⟨q5, hc6, ho⟩ := bd_some ho
        refine bkI C0.1 hW (runVX (As := [.int (gA t 403 ((v1 ^^^ ((1 : Int32) <<< (v3 &&& 31)))).toNatClampNeg)]) (rest := []) C0 hW (c_x8_narrowed l _ t (gA t 403 ((v1 ^^^ ((1 : Int32) <<< (v3 &&& 31)))).toNatClampNeg) (r := q5) hc6) cb_X4_X8_narrowed_71 8 8 rfl rfl rfl rfl rfl ⟨rfl, rfl⟩ ⟨Nat.le_of_ble_eq_true rfl, Nat.le_of_ble_eq_true rfl⟩ (Nat.le_of_ble_eq_true rfl) hl.1 dX4_hasIdler_47 ⟨Nat.le_of_ble_eq_true rfl, Nat.le_of_ble_eq_true rfl⟩) (fun H locs hW => ?_)
        refine lv_iload_n hx hb dX4_hasIdler_50 rfl (lv_at hl 2 rfl) ?_
        refine lv_icmp_ne (tgt := 56) hx hb dX4_hasIdler_51 (by decide) (fun c7 => ?_) (fun c7 => ?_)
        · replace ho := ite_f c7 ho
          obtain ⟨x8, ex8, ho⟩ := nm_x ho
          refine lv_iinc (v := x8) (lv' := [(3, .int x8), (0, .ref (am 2004)), (1, .int v1), (2, .int v2)]) hx hb dX4_hasIdler_56 hl (k := 3) rfl (by rw [ex8]; rfl) (by decide) rfl (fun ls hl => ?_)
          clear ex8
          refine lv_goto (tgt := 16) hx hb dX4_hasIdler_59 (by decide) ?_
          cases ho
          exact ih _ hrun _ _ _ hW (lv_sub hl [1, 2, 3, 0] rfl)
        · replace ho := ite_t c7 ho
          cases ho
          cases hrun
          exact hK0 _ rfl _ _ _ hW (lv_sub hl [0] rfl)
set_option maxHeartbeats 4000000 in
set_option maxRecDepth 100000 in
theorem c_x4_hasIdler (l : Launch) {D : va_G} {cI cJ cZ cR : ClassId} {am gm : Nat → Nat} {st : Nat} (sz : Nat) (t : St) (a1 : Int32) {r : Int32} (ho : x4_hasIdler t a1 = some r) : Met l yX4_hasIdler (.code yX4_hasIdler cX4_hasIdler 4 (some .boolean) :: wsAll) (rmN 1 23) (va_Pc [.ref (am 2004), .int a1] (prX D (tyX cI cJ cZ cR) (wX cI cJ cZ cR am gm t) sz st)) (qZ r D (tyX cI cJ cZ cR) (wX cI cJ cZ cR am gm t) (va_A (wX cI cJ cZ cR am gm t) sz)) 0 0 (va_A (wX cI cJ cZ cR am gm t) sz) := by
  refine Met.ofW (cc := cX4_hasIdler) (maxL := 4) (ret := (some .boolean)) (by decide) rfl ?_
  intro p e s m args below meth c s₁ B hml hv
  obtain ⟨rfl, ⟨hsz, hP, hK, hD0⟩, hsx⟩ := hv
  have hx := B.exec
  have hb := B.bytes
  have hts := atoms_spec (ws := (.code yX4_hasIdler cX4_hasIdler 4 (some .boolean) :: wsAll)) B.pre
  have hta := fun w h => hts w (List.mem_cons_of_mem _ h)
  have hown : s.vm.findClass RX4 = some m.cls := findClass_of_methodNamed B.named
  have hlocks := B.notSynchronized
  subst hsz
  have hD := hD0.self (sz := s.heap.size)
  generalize hAe : va_A (wX cI cJ cZ cR am gm t) s.heap.size = A at hD ⊢
  have hA : ∀ q : Nat, s.heap.size ≤ q → A q := fun q h => by rw [← hAe]; exact Or.inr h
  have C0 : cxX p s m ([.ref (am 2004), .int a1].toArray) meth c cX4_hasIdler RX4 4 (some .boolean) D (tyX cI cJ cZ cR) st A := ⟨⟨hx, hb, B.returns, hml, hown, hta, hlocks, hK, hA⟩, by rw [← hAe]; exact hsx⟩
  have hW : wl D A s (wX cI cJ cZ cR am gm t) s.heap [] := ⟨hP, hD, va_S.rf⟩
  have hl := lv_entry [.ref (am 2004), .int a1] (n := 4) (Nat.le_of_ble_eq_true rfl)
  rw [lg_entry_eq]
  generalize (lg_sl [.ref (am 2004), .int a1] ++ List.replicate (4 - (lg_sl [.ref (am 2004), .int a1]).length) Slot.unset).toArray = ls at hl ⊢
  have hl : lv_has ls 4 [(0, .ref (am 2004)), (1, .int a1)] := hl
  unfold x4_hasIdler at ho
  refine lv_aload_n hx hb dX4_hasIdler_0 rfl (lv_at hl 0 rfl) ?_
  refine xGET_400 C0 kw_439 hW dX4_hasIdler_1 ?_
  refine lv_aload_n hx hb dX4_hasIdler_4 rfl (lv_at hl 0 rfl) ?_
  refine xGET_403 C0 kw_443 hW dX4_hasIdler_5 ?_
  refine lv_iload_n hx hb dX4_hasIdler_8 rfl (lv_at hl 1 rfl) ?_
  obtain ⟨g9, ho⟩ := gd_some ho
  refine xLD_403 C0 hW g9 dX4_hasIdler_9 ?_
  obtain ⟨q10, hc11, ho⟩ := bd_some ho
  refine bkI C0.1 hW (runVX (As := [.int (gA t 403 (a1).toNatClampNeg)]) (rest := []) C0 hW (c_x8_narrowed l _ t (gA t 403 (a1).toNatClampNeg) (r := q10) hc11) cb_X4_X8_narrowed_71 8 8 rfl rfl rfl rfl rfl ⟨rfl, rfl⟩ ⟨Nat.le_of_ble_eq_true rfl, Nat.le_of_ble_eq_true rfl⟩ (Nat.le_of_ble_eq_true rfl) hl.1 dX4_hasIdler_10 ⟨Nat.le_of_ble_eq_true rfl, Nat.le_of_ble_eq_true rfl⟩) (fun H locs hW => ?_)
  refine lv_istore_n (lv' := [(2, .int q10), (0, .ref (am 2004)), (1, .int a1)]) hx hb dX4_hasIdler_13 rfl hl (by decide) rfl (fun ls hl => ?_)
  refine lv_iconst (v := (0 : Int32)) hx hb dX4_hasIdler_14 (by decide) ?_
  refine lv_istore_n (lv' := [(3, .int (0 : Int32)), (2, .int q10), (0, .ref (am 2004)), (1, .int a1)]) hx hb dX4_hasIdler_15 rfl hl (by decide) rfl (fun ls hl => ?_)
  obtain ⟨y12, hc14, ho⟩ := bd_some ho
  obtain ⟨ny12, hc14⟩ := lp_to hc14
  refine x4_hasIdler_L16 C0 ?_ ?_ ny12 _ hc14 _ _ _ hW (lv_sub hl [2, 3, 1, 0] rfl)
  · intro u15 hy H locs ls hW hl
    subst hy
    replace ho := sum_l ho
    refine lv_iconst (v := (1 : Int32)) hx hb dX4_hasIdler_54 (by decide) ?_
    cases ho
    exact rtZ C0.1 hW (Or.inr (rfl : (1 : Int32) = 1)) dX4_hasIdler_55
  · intro u15 hy H locs ls hW hl
    subst hy
    replace ho := sum_r ho
    refine lv_iconst (v := (0 : Int32)) hx hb dX4_hasIdler_62 (by decide) ?_
    cases ho
    exact rtZ C0.1 hW (Or.inl (rfl : (0 : Int32) = 0)) dX4_hasIdler_63
noncomputable def x4_workChances_J76 (t : St) (v1 : Int32) (v2 : Int32) (v3 : Int32) (w0 : Int32) : Option ((Int32 × Int32 × St) ⊕ (Int32 × St)) :=
  cpk w0 (v3 * (gI t 410)) (gI t 410) (gN t 12) (gN t 405) (nm (sAr t 405 (va_cpy (gA t 12) (gA t 405) (w0).toNatClampNeg ((v3 * (gI t 410))).toNatClampNeg ((gI t 410)).toNatClampNeg)) (fun t2 : St => gd v3 (gN t2 404) (gd v2 (gN t2 407) (nm (sA t2 407 v2 (((gA t2 404 (v3).toNatClampNeg) <<< ((10 : Int32) &&& 31)) ||| v3)) (fun t5 : St => nm (v2 + (1 : Int32)) (fun x6 : Int32 => nm (v3 + (1 : Int32)) (fun x7 : Int32 => some (.inl (x6, x7, t5)))))))))
theorem mm_x4_workChances_J76 (t : St) (v1 : Int32) (v2 : Int32) (v3 : Int32) (w0 : Int32) : MR (x4_workChances_J76 t v1 v2 v3 w0) t (Sum.elim (fun (x : Int32 × Int32 × St) => x.2.2) (fun (y : Int32 × St) => y.2)) := by
  unfold x4_workChances_J76
  exact MR_cpk (MR_nmS mle_sAr (fun t2 ht2 => MR_gd (MR_gd (MR_nmS mle_sA (fun t5 ht5 => MR_nm (fun x6 _ => MR_nm (fun x7 _ => MR_some (mle.trans ht2 ht5))))))))
noncomputable def x4_workChances_B40 (v1 : Int32) (v2 : Int32) (v3 : Int32) (t : St) : Option ((Int32 × Int32 × St) ⊕ (Int32 × St)) :=
  if v1 ≤ v3 then (some (.inr (v2, t))) else ((x4_hasIdler t v3).bind (fun q9 => if q9 = 0 then (gd v3 (gN t 403) ((x0_takeOdds t (gA t 403 (v3).toNatClampNeg)).bind (fun q14 => (x0_work q14).bind (fun q16 => x4_workChances_J76 q16.2 v1 v2 v3 q16.1)))) else (nm (v3 + (1 : Int32)) (fun x18 : Int32 => some (.inl (v2, x18, t))))))
theorem mm_x4_workChances_B40 (v1 : Int32) (v2 : Int32) (v3 : Int32) (t : St) : MR (x4_workChances_B40 v1 v2 v3 t) t (Sum.elim (fun (x : Int32 × Int32 × St) => x.2.2) (fun (y : Int32 × St) => y.2)) := by
  unfold x4_workChances_B40
  exact MR_ite (MR_some mle.rfl) (MR_bindn (fun q9 => MR_ite (MR_gd (MR_bind (mm_x0_takeOdds t (gA t 403 (v3).toNatClampNeg)) (fun q14 hq14 => MR_bind (mm_x0_work q14) (fun q16 hq16 => MR_wk (mle.trans hq14 hq16) (mm_x4_workChances_J76 q16.2 v1 v2 v3 q16.1))))) (MR_nm (fun x18 _ => MR_some mle.rfl))))
theorem mm_x4_workChances_L40 (v1 : Int32) (v2 : Int32) (v3 : Int32) (t : St) : MR (lp (fun x => x4_workChances_B40 v1 x.1 x.2.1 x.2.2) (v2, v3, t)) t (fun (y : Int32 × St) => y.2) := MR_lp (p := (fun (x : Int32 × Int32 × St) => x.2.2)) (q := (fun (y : Int32 × St) => y.2)) (fun x => mm_x4_workChances_B40 v1 x.1 x.2.1 x.2.2) (v2, v3, t)
noncomputable def x4_workChances_J130 (t : St) (v2 : Int32) : Option (Int32 × St) :=
  some (v2, t)
theorem mm_x4_workChances_J130 (t : St) (v2 : Int32) : MR (x4_workChances_J130 t v2) t (fun (a : Int32 × St) => a.2) := by
  unfold x4_workChances_J130
  exact MR_some mle.rfl
noncomputable def x4_workChances_J36 (t : St) (v1 : Int32) : Option (Int32 × St) :=
  (lp (fun x => x4_workChances_B40 v1 x.1 x.2.1 x.2.2) ((0 : Int32), (0 : Int32), t)).bind (fun y19 => x4_workChances_J130 y19.2 y19.1)
theorem mm_x4_workChances_J36 (t : St) (v1 : Int32) : MR (x4_workChances_J36 t v1) t (fun (a : Int32 × St) => a.2) := by
  unfold x4_workChances_J36
  exact MR_bind (mm_x4_workChances_L40 v1 (0 : Int32) (0 : Int32) t) (fun y19 hm20 => MR_wk hm20 (mm_x4_workChances_J130 y19.2 y19.1))
noncomputable def x4_workChances_J24 (t : St) (v1 : Int32) : Option (Int32 × St) :=
  grw t 407 v1 (fun t22 : St => x4_workChances_J36 t22 v1)
theorem mm_x4_workChances_J24 (t : St) (v1 : Int32) : MR (x4_workChances_J24 t v1) t (fun (a : Int32 × St) => a.2) := by
  unfold x4_workChances_J24
  exact MR_grw (fun t22 ht22 => MR_wk ht22 (mm_x4_workChances_J36 t22 v1))
noncomputable def x4_workChances (t0 : St) : Option (Int32 × St) :=
  nm ((1 : Int32) <<< ((gI t0 402) &&& 31)) (fun x24 : Int32 => grw t0 405 (x24 * (gI t0 410)) (fun t25 : St => x4_workChances_J24 t25 x24))
theorem mm_x4_workChances (t0 : St) : MR (x4_workChances t0) t0 (fun (a : Int32 × St) => a.2) := by
  unfold x4_workChances
  exact MR_nm (fun x24 _ => MR_grw (fun t25 ht25 => MR_wk ht25 (mm_x4_workChances_J24 t25 x24)))
set_option maxHeartbeats 4000000 in
set_option maxRecDepth 100000 in
theorem x4_workChances_L40 {p : Program} {l : Launch} {e : Env} {s : State} {m : MethodId} {args : Array Value} {below : List Frame} {meth : Method} {c : Code} {Q : State → Prop} {D : va_G} {cI cJ cZ cR : ClassId} {am gm : Nat → Nat} {st : Nat} {A : Nat → Prop} (C0 : cxX p s m args meth c cX4_workChances RX4 5 (some .int) D (tyX cI cJ cZ cR) st A) {t0 t' : St} {v1 : Int32} {y : Int32 × St} (hK0 : ∀ (gm : Nat → Nat) (H : Heap) (locs : List Loc) (ls : Array Slot), wl D A s (wX cI cJ cZ cR am gm y.2) H locs → lv_has ls 5 [(0, .ref (am 2004)), (2, .int y.1)] → W p l e (rmA 3 71 t0 t') s m args below meth c H locs (mC t0 y.2) (mS t0 y.2) Q (F0 m 130 ls [])) (hyE : mle ((fun (y : Int32 × St) => y.2) y) t') :
    ∀ (n : Nat) (v2 : Int32) (v3 : Int32) (t : St) (gm : Nat → Nat), lpn (fun x => x4_workChances_B40 v1 x.1 x.2.1 x.2.2) n (v2, v3, t) = some y → mle t0 t → ∀ (H : Heap) (locs : List Loc) (ls : Array Slot), wl D A s (wX cI cJ cZ cR am gm t) H locs → lv_has ls 5 [(0, .ref (am 2004)), (1, .int v1), (2, .int v2), (3, .int v3)] → W p l e (rmA 3 71 t0 t') s m args below meth c H locs (mC t0 t) (mS t0 t) Q (F0 m 40 ls []) := by
  have hx := C0.1.1
  have hb := C0.1.2.1
  have hta := C0.1.2.2.2.2.2.1
  have hown := C0.1.2.2.2.2.1
  intro n
  induction n with
  | zero => intro _ _ _ _ h; cases h
  | succ n ih =>
    intro v2 v3 t gm hrun h0 H locs ls hW hl
    have hE : mle t t' := mle.trans ((MR_lpn (p := (fun (x : Int32 × Int32 × St) => x.2.2)) (q := (fun (y : Int32 × St) => y.2)) (fun x => mm_x4_workChances_B40 v1 x.1 x.2.1 x.2.2) _ _ _ hrun)) hyE
    have hR := hR_of (t0 := t0) hE
    have LE : ∀ o, Sum.elim (fun x' => lpn (fun x => x4_workChances_B40 v1 x.1 x.2.1 x.2.2) n x') (fun y => some y) o = some y → mle (Sum.elim (fun (x : Int32 × Int32 × St) => x.2.2) (fun (y : Int32 × St) => y.2) o) t' := by
      intro o ho
      cases o with
      | inl x => exact mle.trans ((MR_lpn (p := (fun (x : Int32 × Int32 × St) => x.2.2)) (q := (fun (y : Int32 × St) => y.2)) (fun x => mm_x4_workChances_B40 v1 x.1 x.2.1 x.2.2) _ _ _ ho)) hyE
      | inr z => cases ho; exact hyE
    obtain ⟨o, ho, hrun⟩ := bd_some hrun
    have J76 : ∀ (gm : Nat → Nat) (t : St) (v2 : Int32) (v3 : Int32) (w0 : Int32) (_ : x4_workChances_J76 t v1 v2 v3 w0 = some o) (_ : mle t0 t) (H : Heap) (locs : List Loc) (ls : Array Slot), wl D A s (wX cI cJ cZ cR am gm t) H locs → lv_has ls 5 [(0, .ref (am 2004)), (1, .int v1), (2, .int v2), (3, .int v3)] → W p l e (rmA 3 71 t0 t') s m args below meth c H locs (mC t0 t) (mS t0 t) Q (F0 m 76 ls [.int w0]) := by
      intro gm t v2 v3 w0 ho h0 H locs ls hW hl
      have hE : mle t t' := (mle.trans (mm_x4_workChances_J76 _ _ _ _ _ _ ho) (LE _ hrun))
      have hR := hR_of (t0 := t0) hE
      unfold x4_workChances_J76 at ho
      refine lv_istore (lv' := [(4, .int w0), (0, .ref (am 2004)), (1, .int v1), (2, .int v2), (3, .int v3)]) hx hb dX4_workChances_76 hl (by decide) rfl (fun ls hl => ?_)
      refine lv_aload_n hx hb dX4_workChances_78 rfl (lv_at hl 1 rfl) ?_
      refine xGET_401 C0 kw_440 hW dX4_workChances_79 ?_
      refine xGET_12 C0 kw_397 hW dX4_workChances_82 ?_
      refine lv_iload hx hb dX4_workChances_85 (lv_at hl 0 rfl) ?_
      refine lv_aload_n hx hb dX4_workChances_87 rfl (lv_at hl 1 rfl) ?_
      refine xGET_405 C0 kw_447 hW dX4_workChances_88 ?_
      refine lv_iload_n hx hb dX4_workChances_91 rfl (lv_at hl 4 rfl) ?_
      refine lv_aload_n hx hb dX4_workChances_92 rfl (lv_at hl 1 rfl) ?_
      refine xGET_410 C0 kw_455 hW dX4_workChances_93 ?_
      refine lv_imul hx hb dX4_workChances_96 ?_
      refine lv_aload_n hx hb dX4_workChances_97 rfl (lv_at hl 1 rfl) ?_
      refine xGET_410 C0 kw_455 hW dX4_workChances_98 ?_
      obtain ⟨g1, ho⟩ := cpk_some ho
      refine xCPY_12_405 (rest := []) C0 kw_1128 kw_752 kw_751 kw_137 hl.1 hW g1 (Nat.le_of_ble_eq_true rfl) (Nat.le_of_ble_eq_true rfl) dX4_workChances_101 (fun H locs hW => ?_)
      obtain ⟨t2, ht2, ho, hW⟩ := nm_wm (P := fun t => wl D A s (wX cI cJ cZ cR am gm t) H locs) mle_sAr ho hW
      refine lv_aload_n hx hb dX4_workChances_104 rfl (lv_at hl 1 rfl) ?_
      refine xGET_407 C0 kw_451 hW dX4_workChances_105 ?_
      refine lv_iload_n hx hb dX4_workChances_108 rfl (lv_at hl 3 rfl) ?_
      refine lv_aload_n hx hb dX4_workChances_109 rfl (lv_at hl 1 rfl) ?_
      refine xGET_404 C0 kw_445 hW dX4_workChances_110 ?_
      refine lv_iload_n hx hb dX4_workChances_113 rfl (lv_at hl 4 rfl) ?_
      obtain ⟨g3, ho⟩ := gd_some ho
      refine xLD_404 C0 hW g3 dX4_workChances_114 ?_
      refine lv_bipush (v := (10 : Int32)) hx hb dX4_workChances_115 (by decide) ?_
      refine lv_ishl hx hb dX4_workChances_117 ?_
      refine lv_iload_n hx hb dX4_workChances_118 rfl (lv_at hl 4 rfl) ?_
      refine lv_ior hx hb dX4_workChances_119 ?_
      obtain ⟨g4, ho⟩ := gd_some ho
      refine xST_407 C0 hW g4 dX4_workChances_120 (fun H locs hW => ?_)
      obtain ⟨t5, ht5, ho, hW⟩ := nm_wm (P := fun t => wl D A s (wX cI cJ cZ cR am gm t) H locs) mle_sA ho hW
      obtain ⟨x6, ex6, ho⟩ := nm_x ho
      refine lv_iinc (v := x6) (lv' := [(2, .int x6), (4, .int w0), (0, .ref (am 2004)), (1, .int v1), (3, .int v3)]) hx hb dX4_workChances_121 hl (k := 3) rfl (by rw [ex6]; rfl) (by decide) rfl (fun ls hl => ?_)
      clear ex6
      obtain ⟨x7, ex7, ho⟩ := nm_x ho
      refine lv_iinc (v := x7) (lv' := [(3, .int x7), (2, .int x6), (4, .int w0), (0, .ref (am 2004)), (1, .int v1)]) hx hb dX4_workChances_124 hl (k := 4) rfl (by rw [ex7]; rfl) (by decide) rfl (fun ls hl => ?_)
      clear ex7
      refine lv_goto (tgt := 40) hx hb dX4_workChances_127 (by decide) ?_
      cases ho
      refine W_up h0 (mle.trans ht2 ht5) ?_
      exact ih _ _ _ gm hrun (mle.trans h0 (mle.trans ht2 ht5)) _ _ _ hW (lv_sub hl [3, 4, 1, 0] rfl)
    unfold x4_workChances_B40 at ho
    refine lv_iload_n hx hb dX4_workChances_40 rfl (lv_at hl 3 rfl) ?_
    refine lv_iload_n hx hb dX4_workChances_41 rfl (lv_at hl 1 rfl) ?_
    refine lv_icmp_ge (tgt := 130) hx hb dX4_workChances_42 (by decide) (fun c8 => ?_) (fun c8 => ?_)
    · replace ho := ite_t c8 ho
      cases ho
      cases hrun
      exact hK0 gm _ _ _ hW (lv_sub hl [0, 2] rfl)
    · replace ho := ite_f c8 ho
      refine lv_aload_n hx hb dX4_workChances_45 rfl (lv_at hl 0 rfl) ?_
      refine lv_iload_n hx hb dX4_workChances_46 rfl (lv_at hl 3 rfl) ?_
      obtain ⟨q9, hc10, ho⟩ := bd_some ho
      refine bkZ C0.1 hW (runVX (As := [.int v3]) (rest := []) C0 hW (c_x4_hasIdler l _ t v3 (r := q9) hc10) cb_X4_X4_hasIdler_112 4 4 rfl rfl rfl rfl rfl ⟨rfl, rfl⟩ ⟨Nat.le_of_ble_eq_true rfl, Nat.le_of_ble_eq_true rfl⟩ (Nat.le_of_ble_eq_true rfl) hl.1 dX4_workChances_47 ⟨hR.1, hR.2⟩) (fun z11 H locs hW => ?_)
      refine lv_if_eq (tgt := 56) hx hb dX4_workChances_50 (by decide) (fun c12 => ?_) (fun c12 => ?_)
      · replace ho := ite_t c12 ho
        refine lv_aload_n hx hb dX4_workChances_56 rfl (lv_at hl 0 rfl) ?_
        refine xGET_401 C0 kw_440 hW dX4_workChances_57 ?_
        refine lv_aload_n hx hb dX4_workChances_60 rfl (lv_at hl 0 rfl) ?_
        refine xGET_403 C0 kw_443 hW dX4_workChances_61 ?_
        refine lv_iload_n hx hb dX4_workChances_64 rfl (lv_at hl 3 rfl) ?_
        obtain ⟨g13, ho⟩ := gd_some ho
        refine xLD_403 C0 hW g13 dX4_workChances_65 ?_
        obtain ⟨q14, hc15, ho⟩ := bd_some ho
        have hq14 := mm_x0_takeOdds t (gA t 403 (v3).toNatClampNeg) _ hc15
        refine bkV C0.1 hW (runVX (As := [.int (gA t 403 (v3).toNatClampNeg)]) (rest := []) C0 hW (c_x0_takeOdds l _ t (gA t 403 (v3).toNatClampNeg) (t' := q14) hc15) cb_X4_X0_takeOdds_116 0 0 rfl rfl rfl rfl rfl ⟨rfl, rfl⟩ ⟨Nat.le_of_ble_eq_true rfl, Nat.le_of_ble_eq_true rfl⟩ (Nat.le_of_ble_eq_true rfl) hl.1 dX4_workChances_66 ⟨hR.1, hR.2⟩) (fun H locs hW => ?_)
        refine lv_aload_n hx hb dX4_workChances_69 rfl (lv_at hl 0 rfl) ?_
        refine xGET_401 C0 kw_440 hW dX4_workChances_70 ?_
        obtain ⟨q16, hc17, ho⟩ := bd_some ho
        have hq16 := mm_x0_work q14 _ hc17
        have hEq16 := (mle.trans (mm_x4_workChances_J76 _ _ _ _ _ _ ho) (LE _ hrun))
        refine W_up h0 hq14 ?_
        have h0 := (mle.trans h0 hq14)
        refine bkIa C0.1 hW h0 hq16 (runVX (As := []) (rest := []) C0 hW (c_x0_work l _ q14 (r := q16.1) (t' := q16.2) hc17) cb_X4_X0_work_119 0 0 rfl rfl rfl rfl rfl ⟨rfl, rfl⟩ ⟨Nat.le_of_ble_eq_true rfl, Nat.le_of_ble_eq_true rfl⟩ (Nat.le_of_ble_eq_true rfl) hl.1 dX4_workChances_73 (hf_of h0 hq16 hEq16)) (fun gm H locs hW => ?_)
        have h0 := mle.trans h0 hq16
        exact J76 gm _ _ _ _ ho h0 _ _ _ hW (lv_sub hl [0, 1, 2, 3] rfl)
      · replace ho := ite_f c12 ho
        refine lv_goto (tgt := 124) hx hb dX4_workChances_53 (by decide) ?_
        obtain ⟨x18, ex18, ho⟩ := nm_x ho
        refine lv_iinc (v := x18) (lv' := [(3, .int x18), (0, .ref (am 2004)), (1, .int v1), (2, .int v2)]) hx hb dX4_workChances_124 hl (k := 3) rfl (by rw [ex18]; rfl) (by decide) rfl (fun ls hl => ?_)
        clear ex18
        refine lv_goto (tgt := 40) hx hb dX4_workChances_127 (by decide) ?_
        cases ho
        exact ih _ _ _ gm hrun h0 _ _ _ hW (lv_sub hl [1, 2, 3, 0] rfl)
set_option maxHeartbeats 4000000 in
set_option maxRecDepth 100000 in
theorem c_x4_workChances (l : Launch) {D : va_G} {cI cJ cZ cR : ClassId} {am gm : Nat → Nat} {st : Nat} (sz : Nat) (t0 : St) {r : Int32} {t' : St} (ho : x4_workChances t0 = some (r, t')) : Met l yX4_workChances (.code yX4_workChances cX4_workChances 5 (some .int) :: wsAll) (rmA 3 71 t0 t') (va_Pc [.ref (am 2004)] (prX D (tyX cI cJ cZ cR) (wX cI cJ cZ cR am gm t0) sz st)) (qIa r D (tyX cI cJ cZ cR) (fun gm => wX cI cJ cZ cR am gm t') (va_A (wX cI cJ cZ cR am gm t0) sz)) (mC t0 t') (mS t0 t') (va_A (wX cI cJ cZ cR am gm t0) sz) := by
  refine Met.ofW (cc := cX4_workChances) (maxL := 5) (ret := (some .int)) (by decide) rfl ?_
  intro p e s m args below meth c s₁ B hml hv
  obtain ⟨rfl, ⟨hsz, hP, hK, hD0⟩, hsx⟩ := hv
  have hx := B.exec
  have hb := B.bytes
  have hts := atoms_spec (ws := (.code yX4_workChances cX4_workChances 5 (some .int) :: wsAll)) B.pre
  have hta := fun w h => hts w (List.mem_cons_of_mem _ h)
  have hown : s.vm.findClass RX4 = some m.cls := findClass_of_methodNamed B.named
  have hlocks := B.notSynchronized
  subst hsz
  have hD := hD0.self (sz := s.heap.size)
  generalize hAe : va_A (wX cI cJ cZ cR am gm t0) s.heap.size = A at hD ⊢
  have hA : ∀ q : Nat, s.heap.size ≤ q → A q := fun q h => by rw [← hAe]; exact Or.inr h
  have C0 : cxX p s m ([.ref (am 2004)].toArray) meth c cX4_workChances RX4 5 (some .int) D (tyX cI cJ cZ cR) st A := ⟨⟨hx, hb, B.returns, hml, hown, hta, hlocks, hK, hA⟩, by rw [← hAe]; exact hsx⟩
  have hW : wl D A s (wX cI cJ cZ cR am gm t0) s.heap [] := ⟨hP, hD, va_S.rf⟩
  have hl := lv_entry [.ref (am 2004)] (n := 5) (Nat.le_of_ble_eq_true rfl)
  rw [lg_entry_eq]
  generalize (lg_sl [.ref (am 2004)] ++ List.replicate (5 - (lg_sl [.ref (am 2004)]).length) Slot.unset).toArray = ls at hl ⊢
  have hl : lv_has ls 5 [(0, .ref (am 2004))] := hl
  clear hAe hD hP hD0 hts
  have J130 : ∀ (gm : Nat → Nat) (t : St) (v2 : Int32) (_ : x4_workChances_J130 t v2 = some (r, t')) (_ : mle t0 t) (H : Heap) (locs : List Loc) (ls : Array Slot), wl D A s (wX cI cJ cZ cR am gm t) H locs → lv_has ls 5 [(0, .ref (am 2004)), (2, .int v2)] → W p l e (rmA 3 71 t0 t') s m ([.ref (am 2004)].toArray) below meth c H locs (mC t0 t) (mS t0 t) (MQ below (qIa r D (tyX cI cJ cZ cR) (fun gm => wX cI cJ cZ cR am gm t') A) ([.ref (am 2004)].toArray) s (mC t0 t') (mS t0 t') A) (F0 m 130 ls []) := by
    intro gm t v2 ho h0 H locs ls hW hl
    have hE : mle t t' := (mm_x4_workChances_J130 _ _ _ ho)
    have hR := hR_of (t0 := t0) hE
    unfold x4_workChances_J130 at ho
    refine lv_iload_n hx hb dX4_workChances_130 rfl (lv_at hl 1 rfl) ?_
    cases ho
    exact rtIa gm C0.1 hW dX4_workChances_131
  have J36 : ∀ (gm : Nat → Nat) (t : St) (v1 : Int32) (_ : x4_workChances_J36 t v1 = some (r, t')) (_ : mle t0 t) (H : Heap) (locs : List Loc) (ls : Array Slot), wl D A s (wX cI cJ cZ cR am gm t) H locs → lv_has ls 5 [(0, .ref (am 2004)), (1, .int v1)] → W p l e (rmA 3 71 t0 t') s m ([.ref (am 2004)].toArray) below meth c H locs (mC t0 t) (mS t0 t) (MQ below (qIa r D (tyX cI cJ cZ cR) (fun gm => wX cI cJ cZ cR am gm t') A) ([.ref (am 2004)].toArray) s (mC t0 t') (mS t0 t') A) (F0 m 36 ls []) := by
    intro gm t v1 ho h0 H locs ls hW hl
    have hE : mle t t' := (mm_x4_workChances_J36 _ _ _ ho)
    have hR := hR_of (t0 := t0) hE
    unfold x4_workChances_J36 at ho
    refine lv_iconst (v := (0 : Int32)) hx hb dX4_workChances_36 (by decide) ?_
    refine lv_istore_n (lv' := [(2, .int (0 : Int32)), (0, .ref (am 2004)), (1, .int v1)]) hx hb dX4_workChances_37 rfl hl (by decide) rfl (fun ls hl => ?_)
    refine lv_iconst (v := (0 : Int32)) hx hb dX4_workChances_38 (by decide) ?_
    refine lv_istore_n (lv' := [(3, .int (0 : Int32)), (2, .int (0 : Int32)), (0, .ref (am 2004)), (1, .int v1)]) hx hb dX4_workChances_39 rfl hl (by decide) rfl (fun ls hl => ?_)
    obtain ⟨y19, hc21, ho⟩ := bd_some ho
    have hm20 := mm_x4_workChances_L40 v1 (0 : Int32) (0 : Int32) t _ hc21
    have hEy19 := (mm_x4_workChances_J130 _ _ _ ho)
    obtain ⟨ny19, hc21⟩ := lp_to hc21
    refine x4_workChances_L40 (gm := gm) C0 ?_ hEy19 ny19 _ _ _ gm hc21 h0 _ _ _ hW (lv_sub hl [2, 3, 1, 0] rfl)
    intro gm H locs ls hW hl
    have h0 := mle.trans h0 hm20
    exact J130 gm _ _ ho h0 _ _ _ hW (lv_sub hl [0, 1] rfl)
  have J24 : ∀ (gm : Nat → Nat) (t : St) (v1 : Int32) (_ : x4_workChances_J24 t v1 = some (r, t')) (_ : mle t0 t) (H : Heap) (locs : List Loc) (ls : Array Slot), wl D A s (wX cI cJ cZ cR am gm t) H locs → lv_has ls 5 [(0, .ref (am 2004)), (1, .int v1)] → W p l e (rmA 3 71 t0 t') s m ([.ref (am 2004)].toArray) below meth c H locs (mC t0 t) (mS t0 t) (MQ below (qIa r D (tyX cI cJ cZ cR) (fun gm => wX cI cJ cZ cR am gm t') A) ([.ref (am 2004)].toArray) s (mC t0 t') (mS t0 t') A) (F0 m 24 ls []) := by
    intro gm t v1 ho h0 H locs ls hW hl
    have hE : mle t t' := (mm_x4_workChances_J24 _ _ _ ho)
    have hR := hR_of (t0 := t0) hE
    unfold x4_workChances_J24 at ho
    refine lv_aload_n hx hb dX4_workChances_24 rfl (lv_at hl 0 rfl) ?_
    refine lv_aload_n hx hb dX4_workChances_25 rfl (lv_at hl 0 rfl) ?_
    refine xGET_407 C0 kw_451 hW dX4_workChances_26 ?_
    refine lv_iload_n hx hb dX4_workChances_29 rfl (lv_at hl 1 rfl) ?_
    obtain ⟨t22, g23, ho⟩ := grw_some ho
    have ht22 := g23.mle
    have hEt22 := (mm_x4_workChances_J36 _ _ _ ho)
    refine xGROW_407 (rest := []) C0 cb_X4_X2_grown_107 kw_451 hl.1 hW g23 h0 hEt22 (Nat.le_of_ble_eq_true rfl) (Nat.le_of_ble_eq_true rfl) (Nat.le_of_ble_eq_true rfl) dX4_workChances_30 dX4_workChances_33 (fun gm H locs hW => ?_)
    have h0 := mle.trans h0 ht22
    exact J36 gm _ _ ho h0 _ _ _ hW (lv_sub hl [0, 1] rfl)
  have hE : mle t0 t' := mm_x4_workChances _ _ ho
  have hR := hR_of (t0 := t0) hE
  have h0 : mle t0 t0 := mle.rfl
  refine W_0 (t0 := t0) ?_
  unfold x4_workChances at ho
  refine lv_iconst (v := (1 : Int32)) hx hb dX4_workChances_0 (by decide) ?_
  refine lv_aload_n hx hb dX4_workChances_1 rfl (lv_at hl 0 rfl) ?_
  refine xGET_402 C0 kw_441 hW dX4_workChances_2 ?_
  refine lv_ishl hx hb dX4_workChances_5 ?_
  refine lv_nmi ho (fun x24 ho => ?_)
  refine lv_istore_n (lv' := [(1, .int x24), (0, .ref (am 2004))]) hx hb dX4_workChances_6 rfl hl (by decide) rfl (fun ls hl => ?_)
  refine lv_aload_n hx hb dX4_workChances_7 rfl (lv_at hl 1 rfl) ?_
  refine lv_aload_n hx hb dX4_workChances_8 rfl (lv_at hl 1 rfl) ?_
  refine xGET_405 C0 kw_447 hW dX4_workChances_9 ?_
  refine lv_iload_n hx hb dX4_workChances_12 rfl (lv_at hl 0 rfl) ?_
  refine lv_aload_n hx hb dX4_workChances_13 rfl (lv_at hl 1 rfl) ?_
  refine xGET_410 C0 kw_455 hW dX4_workChances_14 ?_
  refine lv_imul hx hb dX4_workChances_17 ?_
  obtain ⟨t25, g26, ho⟩ := grw_some ho
  have ht25 := g26.mle
  have hEt25 := (mm_x4_workChances_J24 _ _ _ ho)
  refine xGROW_405 (rest := []) C0 cb_X4_X2_grown_107 kw_447 hl.1 hW g26 h0 hEt25 (Nat.le_of_ble_eq_true rfl) (Nat.le_of_ble_eq_true rfl) (Nat.le_of_ble_eq_true rfl) dX4_workChances_18 dX4_workChances_21 (fun gm H locs hW => ?_)
  have h0 := mle.trans h0 ht25
  exact J24 gm _ _ ho h0 _ _ _ hW (lv_sub hl [1, 0] rfl)
noncomputable def x4_sort_B26 (v1 : Int32) (v2 : Int32) (v3 : Int32) (v4 : Int32) (v5 : Int32) (t : St) : Option ((Int32 × St) ⊕ (Int32 × St)) :=
  if v5 < v2 then (some (.inr (v5, t))) else (gd (v5 - v2) (gN t 407) (if (gA t 407 ((v5 - v2)).toNatClampNeg) ≤ v4 then (some (.inr (v5, t))) else (gd (v5 - v2) (gN t 407) (gd v5 (gN t 407) (nm (sA t 407 v5 (gA t 407 ((v5 - v2)).toNatClampNeg)) (fun t6 : St => nm (v5 - v2) (fun x7 : Int32 => some (.inl (x7, t6)))))))))
theorem mm_x4_sort_B26 (v1 : Int32) (v2 : Int32) (v3 : Int32) (v4 : Int32) (v5 : Int32) (t : St) : MR (x4_sort_B26 v1 v2 v3 v4 v5 t) t (Sum.elim (fun (x : Int32 × St) => x.2) (fun (y : Int32 × St) => y.2)) := by
  unfold x4_sort_B26
  exact MR_ite (MR_some mle.rfl) (MR_gd (MR_ite (MR_some mle.rfl) (MR_gd (MR_gd (MR_nmS mle_sA (fun t6 ht6 => MR_nm (fun x7 _ => MR_some ht6)))))))
theorem mm_x4_sort_L26 (v1 : Int32) (v2 : Int32) (v3 : Int32) (v4 : Int32) (v5 : Int32) (t : St) : MR (lp (fun x => x4_sort_B26 v1 v2 v3 v4 x.1 x.2) (v5, t)) t (fun (y : Int32 × St) => y.2) := MR_lp (p := (fun (x : Int32 × St) => x.2)) (q := (fun (y : Int32 × St) => y.2)) (fun x => mm_x4_sort_B26 v1 v2 v3 v4 x.1 x.2) (v5, t)
noncomputable def x4_sort_B10 (v1 : Int32) (v2 : Int32) (v3 : Int32) (t : St) : Option ((Int32 × St) ⊕ (St)) :=
  if v1 ≤ v3 then (some (.inr t)) else (gd v3 (gN t 407) (nm (gA t 407 (v3).toNatClampNeg) (fun x10 : Int32 => (lp (fun x => x4_sort_B26 v1 v2 v3 x10 x.1 x.2) (v3, t)).bind (fun y11 => gd y11.1 (gN y11.2 407) (nm (sA y11.2 407 y11.1 x10) (fun t15 : St => nm (v3 + (1 : Int32)) (fun x16 : Int32 => some (.inl (x16, t15)))))))))
theorem mm_x4_sort_B10 (v1 : Int32) (v2 : Int32) (v3 : Int32) (t : St) : MR (x4_sort_B10 v1 v2 v3 t) t (Sum.elim (fun (x : Int32 × St) => x.2) (fun (y : St) => y)) := by
  unfold x4_sort_B10
  exact MR_ite (MR_some mle.rfl) (MR_gd (MR_nm (fun x10 _ => MR_bind (mm_x4_sort_L26 v1 v2 v3 x10 v3 t) (fun y11 hm12 => MR_gd (MR_nmS mle_sA (fun t15 ht15 => MR_nm (fun x16 _ => MR_some (mle.trans hm12 ht15))))))))
theorem mm_x4_sort_L10 (v1 : Int32) (v2 : Int32) (v3 : Int32) (t : St) : MR (lp (fun x => x4_sort_B10 v1 v2 x.1 x.2) (v3, t)) t (fun (y : St) => y) := MR_lp (p := (fun (x : Int32 × St) => x.2)) (q := (fun (y : St) => y)) (fun x => mm_x4_sort_B10 v1 v2 x.1 x.2) (v3, t)
noncomputable def x4_sort_B4 (v1 : Int32) (v2 : Int32) (t : St) : Option ((Int32 × St) ⊕ (St)) :=
  if v2 ≤ 0 then (some (.inr t)) else ((lp (fun x => x4_sort_B10 v1 v2 x.1 x.2) (v2, t)).bind (fun y18 => nm (v2 / (2 : Int32)) (fun x21 : Int32 => some (.inl (x21, y18)))))
theorem mm_x4_sort_B4 (v1 : Int32) (v2 : Int32) (t : St) : MR (x4_sort_B4 v1 v2 t) t (Sum.elim (fun (x : Int32 × St) => x.2) (fun (y : St) => y)) := by
  unfold x4_sort_B4
  exact MR_ite (MR_some mle.rfl) (MR_bind (mm_x4_sort_L10 v1 v2 v2 t) (fun y18 hm19 => MR_nm (fun x21 _ => MR_some hm19)))
theorem mm_x4_sort_L4 (v1 : Int32) (v2 : Int32) (t : St) : MR (lp (fun x => x4_sort_B4 v1 x.1 x.2) (v2, t)) t (fun (y : St) => y) := MR_lp (p := (fun (x : Int32 × St) => x.2)) (q := (fun (y : St) => y)) (fun x => mm_x4_sort_B4 v1 x.1 x.2) (v2, t)
noncomputable def x4_sort (t : St) (a1 : Int32) : Option (St) :=
  nm (a1 / (2 : Int32)) (fun x22 : Int32 => (lp (fun x => x4_sort_B4 a1 x.1 x.2) (x22, t)).bind (fun y23 => some y23))
theorem mm_x4_sort (t : St) (a1 : Int32) : MR (x4_sort t a1) t (fun (a : St) => a) := by
  unfold x4_sort
  exact MR_nm (fun x22 _ => MR_bind (mm_x4_sort_L4 a1 x22 t) (fun y23 hm24 => MR_some hm24))
set_option maxHeartbeats 4000000 in
set_option maxRecDepth 100000 in
theorem x4_sort_L26 {p : Program} {l : Launch} {e : Env} {s : State} {m : MethodId} {args : Array Value} {below : List Frame} {meth : Method} {c : Code} {Q : State → Prop} {D : va_G} {cI cJ cZ cR : ClassId} {am gm : Nat → Nat} {st : Nat} {A : Nat → Prop} (C0 : cxX p s m args meth c cX4_sort RX4 6 none D (tyX cI cJ cZ cR) st A) {v1 : Int32} {v2 : Int32} {v3 : Int32} {v4 : Int32} {y : Int32 × St} (hK0 : ∀ (H : Heap) (locs : List Loc) (ls : Array Slot), wl D A s (wX cI cJ cZ cR am gm y.2) H locs → lv_has ls 6 [(0, .ref (am 2004)), (1, .int v1), (2, .int v2), (3, .int v3), (4, .int v4), (5, .int y.1)] → W p l e (rmN 0 0) s m args below meth c H locs 0 0 Q (F0 m 71 ls [])) :
    ∀ (n : Nat) (v5 : Int32) (t : St), lpn (fun x => x4_sort_B26 v1 v2 v3 v4 x.1 x.2) n (v5, t) = some y → ∀ (H : Heap) (locs : List Loc) (ls : Array Slot), wl D A s (wX cI cJ cZ cR am gm t) H locs → lv_has ls 6 [(0, .ref (am 2004)), (1, .int v1), (2, .int v2), (3, .int v3), (4, .int v4), (5, .int v5)] → W p l e (rmN 0 0) s m args below meth c H locs 0 0 Q (F0 m 26 ls []) := by
  have hx := C0.1.1
  have hb := C0.1.2.1
  have hta := C0.1.2.2.2.2.2.1
  have hown := C0.1.2.2.2.2.1
  intro n
  induction n with
  | zero => intro _ _ h; cases h
  | succ n ih =>
    intro v5 t hrun H locs ls hW hl
    obtain ⟨o, ho, hrun⟩ := bd_some hrun
    unfold x4_sort_B26 at ho
    refine lv_iload hx hb dX4_sort_26 (lv_at hl 5 rfl) ?_
    refine lv_iload_n hx hb dX4_sort_28 rfl (lv_at hl 2 rfl) ?_
    refine lv_icmp_lt (tgt := 71) hx hb dX4_sort_29 (by decide) (fun c1 => ?_) (fun c1 => ?_)
    · replace ho := ite_t c1 ho
      cases ho
      cases hrun
      exact hK0 _ _ _ hW (lv_sub hl [0, 1, 2, 3, 4, 5] rfl)
    · replace ho := ite_f c1 ho
      refine lv_aload_n hx hb dX4_sort_32 rfl (lv_at hl 0 rfl) ?_
      refine xGET_407 C0 kw_451 hW dX4_sort_33 ?_
      refine lv_iload hx hb dX4_sort_36 (lv_at hl 5 rfl) ?_
      refine lv_iload_n hx hb dX4_sort_38 rfl (lv_at hl 2 rfl) ?_
      refine lv_isub hx hb dX4_sort_39 ?_
      obtain ⟨g2, ho⟩ := gd_some ho
      refine xLD_407 C0 hW g2 dX4_sort_40 ?_
      refine lv_iload hx hb dX4_sort_41 (lv_at hl 4 rfl) ?_
      refine lv_icmp_le (tgt := 71) hx hb dX4_sort_43 (by decide) (fun c3 => ?_) (fun c3 => ?_)
      · replace ho := ite_t c3 ho
        cases ho
        cases hrun
        exact hK0 _ _ _ hW (lv_sub hl [0, 1, 2, 3, 4, 5] rfl)
      · replace ho := ite_f c3 ho
        refine lv_aload_n hx hb dX4_sort_46 rfl (lv_at hl 0 rfl) ?_
        refine xGET_407 C0 kw_451 hW dX4_sort_47 ?_
        refine lv_iload hx hb dX4_sort_50 (lv_at hl 5 rfl) ?_
        refine lv_aload_n hx hb dX4_sort_52 rfl (lv_at hl 0 rfl) ?_
        refine xGET_407 C0 kw_451 hW dX4_sort_53 ?_
        refine lv_iload hx hb dX4_sort_56 (lv_at hl 5 rfl) ?_
        refine lv_iload_n hx hb dX4_sort_58 rfl (lv_at hl 2 rfl) ?_
        refine lv_isub hx hb dX4_sort_59 ?_
        obtain ⟨g4, ho⟩ := gd_some ho
        refine xLD_407 C0 hW g4 dX4_sort_60 ?_
        obtain ⟨g5, ho⟩ := gd_some ho
        refine xST_407 C0 hW g5 dX4_sort_61 (fun H locs hW => ?_)
        obtain ⟨t6, ho, hW⟩ := nm_w (P := fun t => wl D A s (wX cI cJ cZ cR am gm t) H locs) ho hW
        refine lv_iload hx hb dX4_sort_62 (lv_at hl 5 rfl) ?_
        refine lv_iload_n hx hb dX4_sort_64 rfl (lv_at hl 2 rfl) ?_
        refine lv_isub hx hb dX4_sort_65 ?_
        refine lv_nmi ho (fun x7 ho => ?_)
        refine lv_istore (lv' := [(5, .int x7), (0, .ref (am 2004)), (1, .int v1), (2, .int v2), (3, .int v3), (4, .int v4)]) hx hb dX4_sort_66 hl (by decide) rfl (fun ls hl => ?_)
        refine lv_goto (tgt := 26) hx hb dX4_sort_68 (by decide) ?_
        cases ho
        exact ih _ _ hrun _ _ _ hW (lv_sub hl [1, 2, 3, 4, 5, 0] rfl)
set_option maxHeartbeats 4000000 in
set_option maxRecDepth 100000 in
theorem x4_sort_L10 {p : Program} {l : Launch} {e : Env} {s : State} {m : MethodId} {args : Array Value} {below : List Frame} {meth : Method} {c : Code} {Q : State → Prop} {D : va_G} {cI cJ cZ cR : ClassId} {am gm : Nat → Nat} {st : Nat} {A : Nat → Prop} (C0 : cxX p s m args meth c cX4_sort RX4 6 none D (tyX cI cJ cZ cR) st A) {v1 : Int32} {v2 : Int32} {y : St} (hK0 : ∀ (H : Heap) (locs : List Loc) (ls : Array Slot), wl D A s (wX cI cJ cZ cR am gm y) H locs → lv_has ls 6 [(0, .ref (am 2004)), (1, .int v1), (2, .int v2)] → W p l e (rmN 0 0) s m args below meth c H locs 0 0 Q (F0 m 86 ls [])) :
    ∀ (n : Nat) (v3 : Int32) (t : St), lpn (fun x => x4_sort_B10 v1 v2 x.1 x.2) n (v3, t) = some y → ∀ (H : Heap) (locs : List Loc) (ls : Array Slot), wl D A s (wX cI cJ cZ cR am gm t) H locs → lv_has ls 6 [(0, .ref (am 2004)), (1, .int v1), (2, .int v2), (3, .int v3)] → W p l e (rmN 0 0) s m args below meth c H locs 0 0 Q (F0 m 10 ls []) := by
  have hx := C0.1.1
  have hb := C0.1.2.1
  have hta := C0.1.2.2.2.2.2.1
  have hown := C0.1.2.2.2.2.1
  intro n
  induction n with
  | zero => intro _ _ h; cases h
  | succ n ih =>
    intro v3 t hrun H locs ls hW hl
    obtain ⟨o, ho, hrun⟩ := bd_some hrun
    unfold x4_sort_B10 at ho
    refine lv_iload_n hx hb dX4_sort_10 rfl (lv_at hl 3 rfl) ?_
    refine lv_iload_n hx hb dX4_sort_11 rfl (lv_at hl 1 rfl) ?_
    refine lv_icmp_ge (tgt := 86) hx hb dX4_sort_12 (by decide) (fun c8 => ?_) (fun c8 => ?_)
    · replace ho := ite_t c8 ho
      cases ho
      cases hrun
      exact hK0 _ _ _ hW (lv_sub hl [0, 1, 2] rfl)
    · replace ho := ite_f c8 ho
      refine lv_aload_n hx hb dX4_sort_15 rfl (lv_at hl 0 rfl) ?_
      refine xGET_407 C0 kw_451 hW dX4_sort_16 ?_
      refine lv_iload_n hx hb dX4_sort_19 rfl (lv_at hl 3 rfl) ?_
      obtain ⟨g9, ho⟩ := gd_some ho
      refine xLD_407 C0 hW g9 dX4_sort_20 ?_
      refine lv_nmi ho (fun x10 ho => ?_)
      refine lv_istore (lv' := [(4, .int x10), (0, .ref (am 2004)), (1, .int v1), (2, .int v2), (3, .int v3)]) hx hb dX4_sort_21 hl (by decide) rfl (fun ls hl => ?_)
      refine lv_iload_n hx hb dX4_sort_23 rfl (lv_at hl 4 rfl) ?_
      refine lv_istore (lv' := [(5, .int v3), (4, .int x10), (0, .ref (am 2004)), (1, .int v1), (2, .int v2), (3, .int v3)]) hx hb dX4_sort_24 hl (by decide) rfl (fun ls hl => ?_)
      obtain ⟨y11, hc13, ho⟩ := bd_some ho
      obtain ⟨ny11, hc13⟩ := lp_to hc13
      refine x4_sort_L26 C0 ?_ ny11 _ _ hc13 _ _ _ hW (lv_sub hl [2, 3, 4, 5, 1, 0] rfl)
      intro H locs ls hW hl
      refine lv_aload_n hx hb dX4_sort_71 rfl (lv_at hl 0 rfl) ?_
      refine xGET_407 C0 kw_451 hW dX4_sort_72 ?_
      refine lv_iload hx hb dX4_sort_75 (lv_at hl 5 rfl) ?_
      refine lv_iload hx hb dX4_sort_77 (lv_at hl 4 rfl) ?_
      obtain ⟨g14, ho⟩ := gd_some ho
      refine xST_407 C0 hW g14 dX4_sort_79 (fun H locs hW => ?_)
      obtain ⟨t15, ho, hW⟩ := nm_w (P := fun t => wl D A s (wX cI cJ cZ cR am gm t) H locs) ho hW
      obtain ⟨x16, ex16, ho⟩ := nm_x ho
      refine lv_iinc (v := x16) (lv' := [(3, .int x16), (0, .ref (am 2004)), (1, .int v1), (2, .int v2), (4, .int x10), (5, .int y11.1)]) hx hb dX4_sort_80 hl (k := 3) rfl (by rw [ex16]; rfl) (by decide) rfl (fun ls hl => ?_)
      clear ex16
      refine lv_goto (tgt := 10) hx hb dX4_sort_83 (by decide) ?_
      cases ho
      exact ih _ _ hrun _ _ _ hW (lv_sub hl [1, 2, 3, 0] rfl)
set_option maxHeartbeats 4000000 in
set_option maxRecDepth 100000 in
theorem x4_sort_L4 {p : Program} {l : Launch} {e : Env} {s : State} {m : MethodId} {args : Array Value} {below : List Frame} {meth : Method} {c : Code} {Q : State → Prop} {D : va_G} {cI cJ cZ cR : ClassId} {am gm : Nat → Nat} {st : Nat} {A : Nat → Prop} (C0 : cxX p s m args meth c cX4_sort RX4 6 none D (tyX cI cJ cZ cR) st A) {v1 : Int32} {y : St} (hK0 : ∀ (H : Heap) (locs : List Loc) (ls : Array Slot), wl D A s (wX cI cJ cZ cR am gm y) H locs → lv_has ls 6 [(0, .ref (am 2004))] → W p l e (rmN 0 0) s m args below meth c H locs 0 0 Q (F0 m 93 ls [])) :
    ∀ (n : Nat) (v2 : Int32) (t : St), lpn (fun x => x4_sort_B4 v1 x.1 x.2) n (v2, t) = some y → ∀ (H : Heap) (locs : List Loc) (ls : Array Slot), wl D A s (wX cI cJ cZ cR am gm t) H locs → lv_has ls 6 [(0, .ref (am 2004)), (1, .int v1), (2, .int v2)] → W p l e (rmN 0 0) s m args below meth c H locs 0 0 Q (F0 m 4 ls []) := by
  have hx := C0.1.1
  have hb := C0.1.2.1
  have hta := C0.1.2.2.2.2.2.1
  have hown := C0.1.2.2.2.2.1
  intro n
  induction n with
  | zero => intro _ _ h; cases h
  | succ n ih =>
    intro v2 t hrun H locs ls hW hl
    obtain ⟨o, ho, hrun⟩ := bd_some hrun
    unfold x4_sort_B4 at ho
    refine lv_iload_n hx hb dX4_sort_4 rfl (lv_at hl 2 rfl) ?_
    refine lv_if_le (tgt := 93) hx hb dX4_sort_5 (by decide) (fun c17 => ?_) (fun c17 => ?_)
    · replace ho := ite_t c17 ho
      cases ho
      cases hrun
      exact hK0 _ _ _ hW (lv_sub hl [0] rfl)
    · replace ho := ite_f c17 ho
      refine lv_iload_n hx hb dX4_sort_8 rfl (lv_at hl 2 rfl) ?_
      refine lv_istore_n (lv' := [(3, .int v2), (0, .ref (am 2004)), (1, .int v1), (2, .int v2)]) hx hb dX4_sort_9 rfl hl (by decide) rfl (fun ls hl => ?_)
      obtain ⟨y18, hc20, ho⟩ := bd_some ho
      obtain ⟨ny18, hc20⟩ := lp_to hc20
      refine x4_sort_L10 C0 ?_ ny18 _ _ hc20 _ _ _ hW (lv_sub hl [1, 2, 3, 0] rfl)
      intro H locs ls hW hl
      refine lv_iload_n hx hb dX4_sort_86 rfl (lv_at hl 2 rfl) ?_
      refine lv_iconst (v := (2 : Int32)) hx hb dX4_sort_87 (by decide) ?_
      refine lv_idiv hx hb dX4_sort_88 (by decide) ?_
      refine lv_nmi ho (fun x21 ho => ?_)
      refine lv_istore_n (lv' := [(2, .int x21), (0, .ref (am 2004)), (1, .int v1)]) hx hb dX4_sort_89 rfl hl (by decide) rfl (fun ls hl => ?_)
      refine lv_goto (tgt := 4) hx hb dX4_sort_90 (by decide) ?_
      cases ho
      exact ih _ _ hrun _ _ _ hW (lv_sub hl [1, 2, 0] rfl)
set_option maxHeartbeats 4000000 in
set_option maxRecDepth 100000 in
theorem c_x4_sort (l : Launch) {D : va_G} {cI cJ cZ cR : ClassId} {am gm : Nat → Nat} {st : Nat} (sz : Nat) (t : St) (a1 : Int32) {t' : St} (ho : x4_sort t a1 = some t') : Met l yX4_sort (.code yX4_sort cX4_sort 6 none :: wsAll) (rmN 0 0) (va_Pc [.ref (am 2004), .int a1] (prX D (tyX cI cJ cZ cR) (wX cI cJ cZ cR am gm t) sz st)) (qV D (tyX cI cJ cZ cR) (wX cI cJ cZ cR am gm t') (va_A (wX cI cJ cZ cR am gm t) sz)) 0 0 (va_A (wX cI cJ cZ cR am gm t) sz) := by
  refine Met.ofW (cc := cX4_sort) (maxL := 6) (ret := none) (by decide) rfl ?_
  intro p e s m args below meth c s₁ B hml hv
  obtain ⟨rfl, ⟨hsz, hP, hK, hD0⟩, hsx⟩ := hv
  have hx := B.exec
  have hb := B.bytes
  have hts := atoms_spec (ws := (.code yX4_sort cX4_sort 6 none :: wsAll)) B.pre
  have hta := fun w h => hts w (List.mem_cons_of_mem _ h)
  have hown : s.vm.findClass RX4 = some m.cls := findClass_of_methodNamed B.named
  have hlocks := B.notSynchronized
  subst hsz
  have hD := hD0.self (sz := s.heap.size)
  generalize hAe : va_A (wX cI cJ cZ cR am gm t) s.heap.size = A at hD ⊢
  have hA : ∀ q : Nat, s.heap.size ≤ q → A q := fun q h => by rw [← hAe]; exact Or.inr h
  have C0 : cxX p s m ([.ref (am 2004), .int a1].toArray) meth c cX4_sort RX4 6 none D (tyX cI cJ cZ cR) st A := ⟨⟨hx, hb, B.returns, hml, hown, hta, hlocks, hK, hA⟩, by rw [← hAe]; exact hsx⟩
  have hW : wl D A s (wX cI cJ cZ cR am gm t) s.heap [] := ⟨hP, hD, va_S.rf⟩
  have hl := lv_entry [.ref (am 2004), .int a1] (n := 6) (Nat.le_of_ble_eq_true rfl)
  rw [lg_entry_eq]
  generalize (lg_sl [.ref (am 2004), .int a1] ++ List.replicate (6 - (lg_sl [.ref (am 2004), .int a1]).length) Slot.unset).toArray = ls at hl ⊢
  have hl : lv_has ls 6 [(0, .ref (am 2004)), (1, .int a1)] := hl
  unfold x4_sort at ho
  refine lv_iload_n hx hb dX4_sort_0 rfl (lv_at hl 1 rfl) ?_
  refine lv_iconst (v := (2 : Int32)) hx hb dX4_sort_1 (by decide) ?_
  refine lv_idiv hx hb dX4_sort_2 (by decide) ?_
  refine lv_nmi ho (fun x22 ho => ?_)
  refine lv_istore_n (lv' := [(2, .int x22), (0, .ref (am 2004)), (1, .int a1)]) hx hb dX4_sort_3 rfl hl (by decide) rfl (fun ls hl => ?_)
  obtain ⟨y23, hc25, ho⟩ := bd_some ho
  obtain ⟨ny23, hc25⟩ := lp_to hc25
  refine x4_sort_L4 C0 ?_ ny23 _ _ hc25 _ _ _ hW (lv_sub hl [1, 2, 0] rfl)
  intro H locs ls hW hl
  cases ho
  exact rtV C0.1 hW dX4_sort_93
noncomputable def x2_compareRows_405_B5 (t : St) (v1 : Int32) (v2 : Int32) (v4 : Int32) : Option ((Int32) ⊕ ((Int32) ⊕ (Unit))) :=
  if v4 < 0 then (some (.inr (.inr ()))) else (gd (v1 + v4) (gN t 405) (gd (v2 + v4) (gN t 405) (if (gA t 405 ((v1 + v4)).toNatClampNeg) = (gA t 405 ((v2 + v4)).toNatClampNeg) then (nm (v4 + (-1 : Int32)) (fun x5 : Int32 => some (.inl x5))) else (some (.inr (.inl v4))))))
noncomputable def x2_compareRows_405 (t : St) (a1 : Int32) (a2 : Int32) (a3 : Int32) : Option (Int32) :=
  nm (a3 - (1 : Int32)) (fun x6 : Int32 => (lp (fun x => x2_compareRows_405_B5 t a1 a2 x) x6).bind (fun y7 => (Sum.elim (fun u10 => gd (a1 + u10) (gN t 405) (gd (a2 + u10) (gN t 405) (if (gA t 405 ((a2 + u10)).toNatClampNeg) ≤ (gA t 405 ((a1 + u10)).toNatClampNeg) then (some (1 : Int32)) else (some (-1 : Int32))))) (fun u10 => some (0 : Int32))) y7))
set_option maxHeartbeats 4000000 in
set_option maxRecDepth 100000 in
theorem x2_compareRows_405_L5 {p : Program} {l : Launch} {e : Env} {s : State} {m : MethodId} {args : Array Value} {below : List Frame} {meth : Method} {c : Code} {Q : State → Prop} {D : va_G} {cI cJ cZ cR : ClassId} {am gm : Nat → Nat} {st : Nat} {A : Nat → Prop} (C0 : cxX p s m args meth c cX2_compareRows RX2 5 (some .int) D (tyX cI cJ cZ cR) st A) {t : St} {v1 : Int32} {v2 : Int32} {y : (Int32) ⊕ (Unit)} (hK0 : ∀ u, y = (.inl u) → ∀ (H : Heap) (locs : List Loc) (ls : Array Slot), wl D A s (wX cI cJ cZ cR am gm t) H locs → lv_has ls 5 [(0, .ref (gm 405)), (1, .int v1), (2, .int v2), (4, .int u)] → W p l e (rmN 0 0) s m args below meth c H locs 0 0 Q (F0 m 25 ls [])) (hK1 : ∀ u, y = (.inr u) → ∀ (H : Heap) (locs : List Loc) (ls : Array Slot), wl D A s (wX cI cJ cZ cR am gm t) H locs → lv_has ls 5 [] → W p l e (rmN 0 0) s m args below meth c H locs 0 0 Q (F0 m 52 ls [])) :
    ∀ (n : Nat) (v4 : Int32), lpn (fun x => x2_compareRows_405_B5 t v1 v2 x) n v4 = some y → ∀ (H : Heap) (locs : List Loc) (ls : Array Slot), wl D A s (wX cI cJ cZ cR am gm t) H locs → lv_has ls 5 [(0, .ref (gm 405)), (1, .int v1), (2, .int v2), (4, .int v4)] → W p l e (rmN 0 0) s m args below meth c H locs 0 0 Q (F0 m 5 ls []) := by
  have hx := C0.1.1
  have hb := C0.1.2.1
  have hta := C0.1.2.2.2.2.2.1
  have hown := C0.1.2.2.2.2.1
  intro n
  induction n with
  | zero => intro _ h; cases h
  | succ n ih =>
    intro v4 hrun H locs ls hW hl
    obtain ⟨o, ho, hrun⟩ := bd_some hrun
    unfold x2_compareRows_405_B5 at ho
    refine lv_iload hx hb dX2_compareRows_5 (lv_at hl 3 rfl) ?_
    refine lv_if_lt (tgt := 52) hx hb dX2_compareRows_7 (by decide) (fun c1 => ?_) (fun c1 => ?_)
    · replace ho := ite_t c1 ho
      cases ho
      cases hrun
      exact hK1 _ rfl _ _ _ hW (lv_sub hl [] rfl)
    · replace ho := ite_f c1 ho
      refine lv_aload_n hx hb dX2_compareRows_10 rfl (lv_at hl 0 rfl) ?_
      refine lv_iload_n hx hb dX2_compareRows_11 rfl (lv_at hl 1 rfl) ?_
      refine lv_iload hx hb dX2_compareRows_12 (lv_at hl 3 rfl) ?_
      refine lv_iadd hx hb dX2_compareRows_14 ?_
      obtain ⟨g2, ho⟩ := gd_some ho
      refine xLD_405 C0 hW g2 dX2_compareRows_15 ?_
      refine lv_aload_n hx hb dX2_compareRows_16 rfl (lv_at hl 0 rfl) ?_
      refine lv_iload_n hx hb dX2_compareRows_17 rfl (lv_at hl 2 rfl) ?_
      refine lv_iload hx hb dX2_compareRows_18 (lv_at hl 3 rfl) ?_
      refine lv_iadd hx hb dX2_compareRows_20 ?_
      obtain ⟨g3, ho⟩ := gd_some ho
      refine xLD_405 C0 hW g3 dX2_compareRows_21 ?_
      refine lv_icmp_eq (tgt := 46) hx hb dX2_compareRows_22 (by decide) (fun c4 => ?_) (fun c4 => ?_)
      · replace ho := ite_t c4 ho
        obtain ⟨x5, ex5, ho⟩ := nm_x ho
        refine lv_iinc (v := x5) (lv' := [(4, .int x5), (0, .ref (gm 405)), (1, .int v1), (2, .int v2)]) hx hb dX2_compareRows_46 hl (k := 3) rfl (by rw [ex5]; rfl) (by decide) rfl (fun ls hl => ?_)
        clear ex5
        refine lv_goto (tgt := 5) hx hb dX2_compareRows_49 (by decide) ?_
        cases ho
        exact ih _ hrun _ _ _ hW (lv_sub hl [1, 2, 3, 0] rfl)
      · replace ho := ite_f c4 ho
        cases ho
        cases hrun
        exact hK0 _ rfl _ _ _ hW (lv_sub hl [0, 1, 2, 3] rfl)
set_option maxHeartbeats 4000000 in
set_option maxRecDepth 100000 in
theorem c_x2_compareRows_405 (l : Launch) {D : va_G} {cI cJ cZ cR : ClassId} {am gm : Nat → Nat} {st : Nat} (sz : Nat) (t : St) (a1 : Int32) (a2 : Int32) (a3 : Int32) {r : Int32} (ho : x2_compareRows_405 t a1 a2 a3 = some r) : Met l yX2_compareRows (.code yX2_compareRows cX2_compareRows 5 (some .int) :: wsAll) (rmN 0 0) (va_Pc [.ref (gm 405), .int a1, .int a2, .int a3] (prX D (tyX cI cJ cZ cR) (wX cI cJ cZ cR am gm t) sz st)) (qI r D (tyX cI cJ cZ cR) (wX cI cJ cZ cR am gm t) (va_A (wX cI cJ cZ cR am gm t) sz)) 0 0 (va_A (wX cI cJ cZ cR am gm t) sz) := by
  refine Met.ofW (cc := cX2_compareRows) (maxL := 5) (ret := (some .int)) (by decide) rfl ?_
  intro p e s m args below meth c s₁ B hml hv
  obtain ⟨rfl, ⟨hsz, hP, hK, hD0⟩, hsx⟩ := hv
  have hx := B.exec
  have hb := B.bytes
  have hts := atoms_spec (ws := (.code yX2_compareRows cX2_compareRows 5 (some .int) :: wsAll)) B.pre
  have hta := fun w h => hts w (List.mem_cons_of_mem _ h)
  have hown : s.vm.findClass RX2 = some m.cls := findClass_of_methodNamed B.named
  have hlocks := B.notSynchronized
  subst hsz
  have hD := hD0.self (sz := s.heap.size)
  generalize hAe : va_A (wX cI cJ cZ cR am gm t) s.heap.size = A at hD ⊢
  have hA : ∀ q : Nat, s.heap.size ≤ q → A q := fun q h => by rw [← hAe]; exact Or.inr h
  have C0 : cxX p s m ([.ref (gm 405), .int a1, .int a2, .int a3].toArray) meth c cX2_compareRows RX2 5 (some .int) D (tyX cI cJ cZ cR) st A := ⟨⟨hx, hb, B.returns, hml, hown, hta, hlocks, hK, hA⟩, by rw [← hAe]; exact hsx⟩
  have hW : wl D A s (wX cI cJ cZ cR am gm t) s.heap [] := ⟨hP, hD, va_S.rf⟩
  have hl := lv_entry [.ref (gm 405), .int a1, .int a2, .int a3] (n := 5) (Nat.le_of_ble_eq_true rfl)
  rw [lg_entry_eq]
  generalize (lg_sl [.ref (gm 405), .int a1, .int a2, .int a3] ++ List.replicate (5 - (lg_sl [.ref (gm 405), .int a1, .int a2, .int a3]).length) Slot.unset).toArray = ls at hl ⊢
  have hl : lv_has ls 5 [(0, .ref (gm 405)), (1, .int a1), (2, .int a2), (3, .int a3)] := hl
  unfold x2_compareRows_405 at ho
  refine lv_iload_n hx hb dX2_compareRows_0 rfl (lv_at hl 3 rfl) ?_
  refine lv_iconst (v := (1 : Int32)) hx hb dX2_compareRows_1 (by decide) ?_
  refine lv_isub hx hb dX2_compareRows_2 ?_
  refine lv_nmi ho (fun x6 ho => ?_)
  refine lv_istore (lv' := [(4, .int x6), (0, .ref (gm 405)), (1, .int a1), (2, .int a2), (3, .int a3)]) hx hb dX2_compareRows_3 hl (by decide) rfl (fun ls hl => ?_)
  obtain ⟨y7, hc9, ho⟩ := bd_some ho
  obtain ⟨ny7, hc9⟩ := lp_to hc9
  refine x2_compareRows_405_L5 C0 ?_ ?_ ny7 _ hc9 _ _ _ hW (lv_sub hl [1, 2, 3, 0] rfl)
  · intro u10 hy H locs ls hW hl
    subst hy
    replace ho := sum_l ho
    refine lv_aload_n hx hb dX2_compareRows_25 rfl (lv_at hl 0 rfl) ?_
    refine lv_iload_n hx hb dX2_compareRows_26 rfl (lv_at hl 1 rfl) ?_
    refine lv_iload hx hb dX2_compareRows_27 (lv_at hl 3 rfl) ?_
    refine lv_iadd hx hb dX2_compareRows_29 ?_
    obtain ⟨g11, ho⟩ := gd_some ho
    refine xLD_405 C0 hW g11 dX2_compareRows_30 ?_
    refine lv_aload_n hx hb dX2_compareRows_31 rfl (lv_at hl 0 rfl) ?_
    refine lv_iload_n hx hb dX2_compareRows_32 rfl (lv_at hl 2 rfl) ?_
    refine lv_iload hx hb dX2_compareRows_33 (lv_at hl 3 rfl) ?_
    refine lv_iadd hx hb dX2_compareRows_35 ?_
    obtain ⟨g12, ho⟩ := gd_some ho
    refine xLD_405 C0 hW g12 dX2_compareRows_36 ?_
    refine lv_icmp_ge (tgt := 44) hx hb dX2_compareRows_37 (by decide) (fun c13 => ?_) (fun c13 => ?_)
    · replace ho := ite_t c13 ho
      refine lv_iconst (v := (1 : Int32)) hx hb dX2_compareRows_44 (by decide) ?_
      cases ho
      exact rtI C0.1 hW dX2_compareRows_45
    · replace ho := ite_f c13 ho
      refine lv_iconst (v := (-1 : Int32)) hx hb dX2_compareRows_40 (by decide) ?_
      refine lv_goto (tgt := 45) hx hb dX2_compareRows_41 (by decide) ?_
      cases ho
      exact rtI C0.1 hW dX2_compareRows_45
  · intro u10 hy H locs ls hW hl
    subst hy
    replace ho := sum_r ho
    refine lv_iconst (v := (0 : Int32)) hx hb dX2_compareRows_52 (by decide) ?_
    cases ho
    exact rtI C0.1 hW dX2_compareRows_53
noncomputable def x4_pickFront_J115 (t : St) (v1 : Int32) (v2 : Int32) (v3 : Int32) : Option ((Int32 × St) ⊕ (St)) :=
  gd (gI t 408) (gN t 406) (nm (sA t 406 (gI t 408) v3) (fun t2 : St => nm (sI t2 408 ((gI t2 408) + (1 : Int32))) (fun t3 : St => nm (v2 + (1 : Int32)) (fun x4 : Int32 => some (.inl (x4, t3))))))
theorem mm_x4_pickFront_J115 (t : St) (v1 : Int32) (v2 : Int32) (v3 : Int32) : MR (x4_pickFront_J115 t v1 v2 v3) t (Sum.elim (fun (x : Int32 × St) => x.2) (fun (y : St) => y)) := by
  unfold x4_pickFront_J115
  exact MR_gd (MR_nmS mle_sA (fun t2 ht2 => MR_nmS mle_sI (fun t3 ht3 => MR_nm (fun x4 _ => MR_some (mle.trans ht2 ht3)))))
noncomputable def x4_pickFront_B19 (v1 : Int32) (v2 : Int32) (t : St) : Option ((Int32 × St) ⊕ (St)) :=
  if v1 ≤ v2 then (some (.inr t)) else (gd v2 (gN t 407) (nm ((gA t 407 (v2).toNatClampNeg) &&& (1023 : Int32)) (fun x7 : Int32 => if (gI t 408) ≤ 0 then (x4_pickFront_J115 t v1 v2 x7) else (gd ((gI t 408) - (1 : Int32)) (gN t 406) (nm (gA t 406 (((gI t 408) - (1 : Int32))).toNatClampNeg) (fun x10 : Int32 => nm (x7 * (gI t 410)) (fun x11 : Int32 => (x2_compareRows_405 t x11 (x10 * (gI t 410)) (gI t 410)).bind (fun q12 => if q12 < 0 then (gd x10 (gN t 404) (gd x7 (gN t 404) (if (gA t 404 (x10).toNatClampNeg) = (gA t 404 (x7).toNatClampNeg) then (nm (sI t 408 ((gI t 408) - (1 : Int32))) (fun t18 : St => x4_pickFront_J115 t18 v1 v2 x7)) else (x4_pickFront_J115 t v1 v2 x7)))) else (nm (v2 + (1 : Int32)) (fun x19 : Int32 => some (.inl (x19, t))))))))))))
theorem mm_x4_pickFront_B19 (v1 : Int32) (v2 : Int32) (t : St) : MR (x4_pickFront_B19 v1 v2 t) t (Sum.elim (fun (x : Int32 × St) => x.2) (fun (y : St) => y)) := by
  unfold x4_pickFront_B19
  exact MR_ite (MR_some mle.rfl) (MR_gd (MR_nm (fun x7 _ => MR_ite (MR_wk mle.rfl (mm_x4_pickFront_J115 t v1 v2 x7)) (MR_gd (MR_nm (fun x10 _ => MR_nm (fun x11 _ => MR_bindn (fun q12 => MR_ite (MR_gd (MR_gd (MR_ite (MR_nmS mle_sI (fun t18 ht18 => MR_wk ht18 (mm_x4_pickFront_J115 t18 v1 v2 x7))) (MR_wk mle.rfl (mm_x4_pickFront_J115 t v1 v2 x7))))) (MR_nm (fun x19 _ => MR_some mle.rfl))))))))))
theorem mm_x4_pickFront_L19 (v1 : Int32) (v2 : Int32) (t : St) : MR (lp (fun x => x4_pickFront_B19 v1 x.1 x.2) (v2, t)) t (fun (y : St) => y) := MR_lp (p := (fun (x : Int32 × St) => x.2)) (q := (fun (y : St) => y)) (fun x => mm_x4_pickFront_B19 v1 x.1 x.2) (v2, t)
noncomputable def x4_pickFront_J12 (t : St) (v1 : Int32) : Option (St) :=
  nm (sI t 408 (0 : Int32)) (fun t20 : St => (lp (fun x => x4_pickFront_B19 v1 x.1 x.2) ((0 : Int32), t20)).bind (fun y21 => some y21))
theorem mm_x4_pickFront_J12 (t : St) (v1 : Int32) : MR (x4_pickFront_J12 t v1) t (fun (a : St) => a) := by
  unfold x4_pickFront_J12
  exact MR_nmS mle_sI (fun t20 ht20 => MR_bind (mm_x4_pickFront_L19 v1 (0 : Int32) t20) (fun y21 hm22 => MR_some (mle.trans ht20 hm22)))
noncomputable def x4_pickFront (t0 : St) (a1 : Int32) : Option (St) :=
  grw t0 406 a1 (fun t24 : St => x4_pickFront_J12 t24 a1)
theorem mm_x4_pickFront (t0 : St) (a1 : Int32) : MR (x4_pickFront t0 a1) t0 (fun (a : St) => a) := by
  unfold x4_pickFront
  exact MR_grw (fun t24 ht24 => MR_wk ht24 (mm_x4_pickFront_J12 t24 a1))
set_option maxHeartbeats 4000000 in
set_option maxRecDepth 100000 in
theorem x4_pickFront_L19 {p : Program} {l : Launch} {e : Env} {s : State} {m : MethodId} {args : Array Value} {below : List Frame} {meth : Method} {c : Code} {Q : State → Prop} {D : va_G} {cI cJ cZ cR : ClassId} {am gm : Nat → Nat} {st : Nat} {A : Nat → Prop} (C0 : cxX p s m args meth c cX4_pickFront RX4 6 none D (tyX cI cJ cZ cR) st A) {t0 t' : St} {cells slots : Nat} (hR : cells ≤ mC t0 t' ∧ slots ≤ mS t0 t') {v1 : Int32} {y : St} (hK0 : ∀ (H : Heap) (locs : List Loc) (ls : Array Slot), wl D A s (wX cI cJ cZ cR am gm y) H locs → lv_has ls 6 [(0, .ref (am 2004))] → W p l e (rmA 2 42 t0 t') s m args below meth c H locs cells slots Q (F0 m 141 ls [])) :
    ∀ (n : Nat) (v2 : Int32) (t : St), lpn (fun x => x4_pickFront_B19 v1 x.1 x.2) n (v2, t) = some y → ∀ (H : Heap) (locs : List Loc) (ls : Array Slot), wl D A s (wX cI cJ cZ cR am gm t) H locs → lv_has ls 6 [(0, .ref (am 2004)), (1, .int v1), (2, .int v2)] → W p l e (rmA 2 42 t0 t') s m args below meth c H locs cells slots Q (F0 m 19 ls []) := by
  have hx := C0.1.1
  have hb := C0.1.2.1
  have hta := C0.1.2.2.2.2.2.1
  have hown := C0.1.2.2.2.2.1
  intro n
  induction n with
  | zero => intro _ _ h; cases h
  | succ n ih =>
    intro v2 t hrun H locs ls hW hl
    obtain ⟨o, ho, hrun⟩ := bd_some hrun
    have J115 : ∀ (t : St) (v2 : Int32) (v3 : Int32) (_ : x4_pickFront_J115 t v1 v2 v3 = some o) (H : Heap) (locs : List Loc) (ls : Array Slot), wl D A s (wX cI cJ cZ cR am gm t) H locs → lv_has ls 6 [(0, .ref (am 2004)), (1, .int v1), (2, .int v2), (3, .int v3)] → W p l e (rmA 2 42 t0 t') s m args below meth c H locs cells slots Q (F0 m 115 ls []) := by
      intro t v2 v3 ho H locs ls hW hl
      unfold x4_pickFront_J115 at ho
      refine lv_aload_n hx hb dX4_pickFront_115 rfl (lv_at hl 0 rfl) ?_
      refine xGET_406 C0 kw_449 hW dX4_pickFront_116 ?_
      refine lv_aload_n hx hb dX4_pickFront_119 rfl (lv_at hl 0 rfl) ?_
      refine xGET_408 C0 kw_452 hW dX4_pickFront_120 ?_
      refine lv_iload_n hx hb dX4_pickFront_123 rfl (lv_at hl 3 rfl) ?_
      obtain ⟨g1, ho⟩ := gd_some ho
      refine xST_406 C0 hW g1 dX4_pickFront_124 (fun H locs hW => ?_)
      obtain ⟨t2, ht2, ho, hW⟩ := nm_wm (P := fun t => wl D A s (wX cI cJ cZ cR am gm t) H locs) mle_sA ho hW
      refine lv_aload_n hx hb dX4_pickFront_125 rfl (lv_at hl 0 rfl) ?_
      refine lv_dup hx hb dX4_pickFront_126 rfl ?_
      refine xGET_408 C0 kw_452 hW dX4_pickFront_127 ?_
      refine lv_iconst (v := (1 : Int32)) hx hb dX4_pickFront_130 (by decide) ?_
      refine lv_iadd hx hb dX4_pickFront_131 ?_
      refine xPUT_408 C0 kw_452 hW dX4_pickFront_132 (fun H locs hW => ?_)
      obtain ⟨t3, ht3, ho, hW⟩ := nm_wm (P := fun t => wl D A s (wX cI cJ cZ cR am gm t) H locs) mle_sI ho hW
      obtain ⟨x4, ex4, ho⟩ := nm_x ho
      refine lv_iinc (v := x4) (lv' := [(2, .int x4), (0, .ref (am 2004)), (1, .int v1), (3, .int v3)]) hx hb dX4_pickFront_135 hl (k := 2) rfl (by rw [ex4]; rfl) (by decide) rfl (fun ls hl => ?_)
      clear ex4
      refine lv_goto (tgt := 19) hx hb dX4_pickFront_138 (by decide) ?_
      cases ho
      exact ih _ _ hrun _ _ _ hW (lv_sub hl [1, 2, 0] rfl)
    unfold x4_pickFront_B19 at ho
    refine lv_iload_n hx hb dX4_pickFront_19 rfl (lv_at hl 2 rfl) ?_
    refine lv_iload_n hx hb dX4_pickFront_20 rfl (lv_at hl 1 rfl) ?_
    refine lv_icmp_ge (tgt := 141) hx hb dX4_pickFront_21 (by decide) (fun c5 => ?_) (fun c5 => ?_)
    · replace ho := ite_t c5 ho
      cases ho
      cases hrun
      exact hK0 _ _ _ hW (lv_sub hl [0] rfl)
    · replace ho := ite_f c5 ho
      refine lv_aload_n hx hb dX4_pickFront_24 rfl (lv_at hl 0 rfl) ?_
      refine xGET_407 C0 kw_451 hW dX4_pickFront_25 ?_
      refine lv_iload_n hx hb dX4_pickFront_28 rfl (lv_at hl 2 rfl) ?_
      obtain ⟨g6, ho⟩ := gd_some ho
      refine xLD_407 C0 hW g6 dX4_pickFront_29 ?_
      refine lv_sipush (v := (1023 : Int32)) hx hb dX4_pickFront_30 (by decide) ?_
      refine lv_iand hx hb dX4_pickFront_33 ?_
      refine lv_nmi ho (fun x7 ho => ?_)
      refine lv_istore_n (lv' := [(3, .int x7), (0, .ref (am 2004)), (1, .int v1), (2, .int v2)]) hx hb dX4_pickFront_34 rfl hl (by decide) rfl (fun ls hl => ?_)
      refine lv_aload_n hx hb dX4_pickFront_35 rfl (lv_at hl 1 rfl) ?_
      refine xGET_408 C0 kw_452 hW dX4_pickFront_36 ?_
      refine lv_if_le (tgt := 115) hx hb dX4_pickFront_39 (by decide) (fun c8 => ?_) (fun c8 => ?_)
      · replace ho := ite_t c8 ho
        exact J115 _ _ _ ho _ _ _ hW (lv_sub hl [1, 2, 3, 0] rfl)
      · replace ho := ite_f c8 ho
        refine lv_aload_n hx hb dX4_pickFront_42 rfl (lv_at hl 1 rfl) ?_
        refine xGET_406 C0 kw_449 hW dX4_pickFront_43 ?_
        refine lv_aload_n hx hb dX4_pickFront_46 rfl (lv_at hl 1 rfl) ?_
        refine xGET_408 C0 kw_452 hW dX4_pickFront_47 ?_
        refine lv_iconst (v := (1 : Int32)) hx hb dX4_pickFront_50 (by decide) ?_
        refine lv_isub hx hb dX4_pickFront_51 ?_
        obtain ⟨g9, ho⟩ := gd_some ho
        refine xLD_406 C0 hW g9 dX4_pickFront_52 ?_
        refine lv_nmi ho (fun x10 ho => ?_)
        refine lv_istore (lv' := [(4, .int x10), (3, .int x7), (0, .ref (am 2004)), (1, .int v1), (2, .int v2)]) hx hb dX4_pickFront_53 hl (by decide) rfl (fun ls hl => ?_)
        refine lv_iload_n hx hb dX4_pickFront_55 rfl (lv_at hl 1 rfl) ?_
        refine lv_aload_n hx hb dX4_pickFront_56 rfl (lv_at hl 2 rfl) ?_
        refine xGET_410 C0 kw_455 hW dX4_pickFront_57 ?_
        refine lv_imul hx hb dX4_pickFront_60 ?_
        refine lv_nmi ho (fun x11 ho => ?_)
        refine lv_istore (lv' := [(5, .int x11), (4, .int x10), (3, .int x7), (0, .ref (am 2004)), (1, .int v1), (2, .int v2)]) hx hb dX4_pickFront_61 hl (by decide) rfl (fun ls hl => ?_)
        refine lv_aload_n hx hb dX4_pickFront_63 rfl (lv_at hl 3 rfl) ?_
        refine xGET_405 C0 kw_447 hW dX4_pickFront_64 ?_
        refine lv_iload hx hb dX4_pickFront_67 (lv_at hl 0 rfl) ?_
        refine lv_iload hx hb dX4_pickFront_69 (lv_at hl 1 rfl) ?_
        refine lv_aload_n hx hb dX4_pickFront_71 rfl (lv_at hl 3 rfl) ?_
        refine xGET_410 C0 kw_455 hW dX4_pickFront_72 ?_
        refine lv_imul hx hb dX4_pickFront_75 ?_
        refine lv_aload_n hx hb dX4_pickFront_76 rfl (lv_at hl 3 rfl) ?_
        refine xGET_410 C0 kw_455 hW dX4_pickFront_77 ?_
        obtain ⟨q12, hc13, ho⟩ := bd_some ho
        refine bkI C0.1 hW (runSX (As := [.ref (gm 405), .int x11, .int (x10 * (gI t 410)), .int (gI t 410)]) (rest := []) C0 hW (c_x2_compareRows_405 l _ t x11 (x10 * (gI t 410)) (gI t 410) (r := q12) hc13) cb_X4_X2_compareRows_131 rfl rfl ⟨rfl, rfl⟩ ⟨Nat.le_of_ble_eq_true rfl, Nat.le_of_ble_eq_true rfl⟩ (Nat.le_of_ble_eq_true rfl) hl.1 dX4_pickFront_80 ⟨hR.1, hR.2⟩) (fun H locs hW => ?_)
        refine lv_if_lt (tgt := 89) hx hb dX4_pickFront_83 (by decide) (fun c14 => ?_) (fun c14 => ?_)
        · replace ho := ite_t c14 ho
          refine lv_aload_n hx hb dX4_pickFront_89 rfl (lv_at hl 3 rfl) ?_
          refine xGET_404 C0 kw_445 hW dX4_pickFront_90 ?_
          refine lv_iload hx hb dX4_pickFront_93 (lv_at hl 1 rfl) ?_
          obtain ⟨g15, ho⟩ := gd_some ho
          refine xLD_404 C0 hW g15 dX4_pickFront_95 ?_
          refine lv_aload_n hx hb dX4_pickFront_96 rfl (lv_at hl 3 rfl) ?_
          refine xGET_404 C0 kw_445 hW dX4_pickFront_97 ?_
          refine lv_iload_n hx hb dX4_pickFront_100 rfl (lv_at hl 2 rfl) ?_
          obtain ⟨g16, ho⟩ := gd_some ho
          refine xLD_404 C0 hW g16 dX4_pickFront_101 ?_
          refine lv_icmp_ne (tgt := 115) hx hb dX4_pickFront_102 (by decide) (fun c17 => ?_) (fun c17 => ?_)
          · replace ho := ite_f c17 ho
            exact J115 _ _ _ ho _ _ _ hW (lv_sub hl [3, 4, 5, 2] rfl)
          · replace ho := ite_t c17 ho
            refine lv_aload_n hx hb dX4_pickFront_105 rfl (lv_at hl 3 rfl) ?_
            refine lv_dup hx hb dX4_pickFront_106 rfl ?_
            refine xGET_408 C0 kw_452 hW dX4_pickFront_107 ?_
            refine lv_iconst (v := (1 : Int32)) hx hb dX4_pickFront_110 (by decide) ?_
            refine lv_isub hx hb dX4_pickFront_111 ?_
            refine xPUT_408 C0 kw_452 hW dX4_pickFront_112 (fun H locs hW => ?_)
            obtain ⟨t18, ht18, ho, hW⟩ := nm_wm (P := fun t => wl D A s (wX cI cJ cZ cR am gm t) H locs) mle_sI ho hW
            exact J115 _ _ _ ho _ _ _ hW (lv_sub hl [3, 4, 5, 2] rfl)
        · replace ho := ite_f c14 ho
          refine lv_goto (tgt := 135) hx hb dX4_pickFront_86 (by decide) ?_
          obtain ⟨x19, ex19, ho⟩ := nm_x ho
          refine lv_iinc (v := x19) (lv' := [(2, .int x19), (5, .int x11), (4, .int x10), (3, .int x7), (0, .ref (am 2004)), (1, .int v1)]) hx hb dX4_pickFront_135 hl (k := 5) rfl (by rw [ex19]; rfl) (by decide) rfl (fun ls hl => ?_)
          clear ex19
          refine lv_goto (tgt := 19) hx hb dX4_pickFront_138 (by decide) ?_
          cases ho
          exact ih _ _ hrun _ _ _ hW (lv_sub hl [4, 5, 0] rfl)
set_option maxHeartbeats 4000000 in
set_option maxRecDepth 100000 in
theorem c_x4_pickFront (l : Launch) {D : va_G} {cI cJ cZ cR : ClassId} {am gm : Nat → Nat} {st : Nat} (sz : Nat) (t0 : St) (a1 : Int32) {t' : St} (ho : x4_pickFront t0 a1 = some t') : Met l yX4_pickFront (.code yX4_pickFront cX4_pickFront 6 none :: wsAll) (rmA 2 42 t0 t') (va_Pc [.ref (am 2004), .int a1] (prX D (tyX cI cJ cZ cR) (wX cI cJ cZ cR am gm t0) sz st)) (qVa D (tyX cI cJ cZ cR) (fun gm => wX cI cJ cZ cR am gm t') (va_A (wX cI cJ cZ cR am gm t0) sz)) (mC t0 t') (mS t0 t') (va_A (wX cI cJ cZ cR am gm t0) sz) := by
  refine Met.ofW (cc := cX4_pickFront) (maxL := 6) (ret := none) (by decide) rfl ?_
  intro p e s m args below meth c s₁ B hml hv
  obtain ⟨rfl, ⟨hsz, hP, hK, hD0⟩, hsx⟩ := hv
  have hx := B.exec
  have hb := B.bytes
  have hts := atoms_spec (ws := (.code yX4_pickFront cX4_pickFront 6 none :: wsAll)) B.pre
  have hta := fun w h => hts w (List.mem_cons_of_mem _ h)
  have hown : s.vm.findClass RX4 = some m.cls := findClass_of_methodNamed B.named
  have hlocks := B.notSynchronized
  subst hsz
  have hD := hD0.self (sz := s.heap.size)
  generalize hAe : va_A (wX cI cJ cZ cR am gm t0) s.heap.size = A at hD ⊢
  have hA : ∀ q : Nat, s.heap.size ≤ q → A q := fun q h => by rw [← hAe]; exact Or.inr h
  have C0 : cxX p s m ([.ref (am 2004), .int a1].toArray) meth c cX4_pickFront RX4 6 none D (tyX cI cJ cZ cR) st A := ⟨⟨hx, hb, B.returns, hml, hown, hta, hlocks, hK, hA⟩, by rw [← hAe]; exact hsx⟩
  have hW : wl D A s (wX cI cJ cZ cR am gm t0) s.heap [] := ⟨hP, hD, va_S.rf⟩
  have hl := lv_entry [.ref (am 2004), .int a1] (n := 6) (Nat.le_of_ble_eq_true rfl)
  rw [lg_entry_eq]
  generalize (lg_sl [.ref (am 2004), .int a1] ++ List.replicate (6 - (lg_sl [.ref (am 2004), .int a1]).length) Slot.unset).toArray = ls at hl ⊢
  have hl : lv_has ls 6 [(0, .ref (am 2004)), (1, .int a1)] := hl
  clear hAe hD hP hD0 hts
  have J12 : ∀ (gm : Nat → Nat) (t : St) (v1 : Int32) (_ : x4_pickFront_J12 t v1 = some t') (_ : mle t0 t) (H : Heap) (locs : List Loc) (ls : Array Slot), wl D A s (wX cI cJ cZ cR am gm t) H locs → lv_has ls 6 [(0, .ref (am 2004)), (1, .int v1)] → W p l e (rmA 2 42 t0 t') s m ([.ref (am 2004), .int a1].toArray) below meth c H locs (mC t0 t) (mS t0 t) (MQ below (qVa D (tyX cI cJ cZ cR) (fun gm => wX cI cJ cZ cR am gm t') A) ([.ref (am 2004), .int a1].toArray) s (mC t0 t') (mS t0 t') A) (F0 m 12 ls []) := by
    intro gm t v1 ho h0 H locs ls hW hl
    have hE : mle t t' := (mm_x4_pickFront_J12 _ _ _ ho)
    have hR := hR_of (t0 := t0) hE
    unfold x4_pickFront_J12 at ho
    refine lv_aload_n hx hb dX4_pickFront_12 rfl (lv_at hl 0 rfl) ?_
    refine lv_iconst (v := (0 : Int32)) hx hb dX4_pickFront_13 (by decide) ?_
    refine xPUT_408 C0 kw_452 hW dX4_pickFront_14 (fun H locs hW => ?_)
    obtain ⟨t20, ht20, ho, hW⟩ := nm_wm (P := fun t => wl D A s (wX cI cJ cZ cR am gm t) H locs) mle_sI ho hW
    refine lv_iconst (v := (0 : Int32)) hx hb dX4_pickFront_17 (by decide) ?_
    refine lv_istore_n (lv' := [(2, .int (0 : Int32)), (0, .ref (am 2004)), (1, .int v1)]) hx hb dX4_pickFront_18 rfl hl (by decide) rfl (fun ls hl => ?_)
    obtain ⟨y21, hc23, ho⟩ := bd_some ho
    have hm22 := mm_x4_pickFront_L19 v1 (0 : Int32) t20 _ hc23
    obtain ⟨ny21, hc23⟩ := lp_to hc23
    refine x4_pickFront_L19 C0 hR ?_ ny21 _ _ hc23 _ _ _ hW (lv_sub hl [1, 2, 0] rfl)
    intro H locs ls hW hl
    refine W_up h0 (mle.trans ht20 hm22) ?_
    cases ho
    exact rtVa gm C0.1 hW dX4_pickFront_141
  have hE : mle t0 t' := mm_x4_pickFront _ _ _ ho
  have hR := hR_of (t0 := t0) hE
  have h0 : mle t0 t0 := mle.rfl
  refine W_0 (t0 := t0) ?_
  unfold x4_pickFront at ho
  refine lv_aload_n hx hb dX4_pickFront_0 rfl (lv_at hl 0 rfl) ?_
  refine lv_aload_n hx hb dX4_pickFront_1 rfl (lv_at hl 0 rfl) ?_
  refine xGET_406 C0 kw_449 hW dX4_pickFront_2 ?_
  refine lv_iload_n hx hb dX4_pickFront_5 rfl (lv_at hl 1 rfl) ?_
  obtain ⟨t24, g25, ho⟩ := grw_some ho
  have ht24 := g25.mle
  have hEt24 := (mm_x4_pickFront_J12 _ _ _ ho)
  refine xGROW_406 (rest := []) C0 cb_X4_X2_grown_107 kw_449 hl.1 hW g25 h0 hEt24 (Nat.le_of_ble_eq_true rfl) (Nat.le_of_ble_eq_true rfl) (Nat.le_of_ble_eq_true rfl) dX4_pickFront_6 dX4_pickFront_9 (fun gm H locs hW => ?_)
  have h0 := mle.trans h0 ht24
  exact J12 gm _ _ ho h0 _ _ _ hW (lv_sub hl [0, 1] rfl)
noncomputable def x4_drawFront_J75 (t : St) : Option (Int32 × St) :=
  some ((1 : Int32), t)
theorem mm_x4_drawFront_J75 (t : St) : MR (x4_drawFront_J75 t) t (fun (a : Int32 × St) => a.2) := by
  unfold x4_drawFront_J75
  exact MR_some mle.rfl
noncomputable def x4_drawFront_J64 (t : St) (w0 : Int32) : Option (Int32 × St) :=
  (x4_sort t w0).bind (fun q1 => (x4_pickFront q1 w0).bind (fun q3 => x4_drawFront_J75 q3))
theorem mm_x4_drawFront_J64 (t : St) (w0 : Int32) : MR (x4_drawFront_J64 t w0) t (fun (a : Int32 × St) => a.2) := by
  unfold x4_drawFront_J64
  exact MR_bind (mm_x4_sort t w0) (fun q1 hq1 => MR_bind (mm_x4_pickFront q1 w0) (fun q3 hq3 => MR_wk (mle.trans hq1 hq3) (mm_x4_drawFront_J75 q3)))
noncomputable def x4_drawFront_J18 (t : St) (v1 : Int32) : Option (Int32 × St) :=
  (x0_drawnSize t).bind (fun q5 => if q5 ≤ (400 : Int32) then (nm (sI t 409 v1) (fun t8 : St => nm (sI t8 410 (gI t8 6)) (fun t9 : St => nm (sI t9 411 (gI t9 803)) (fun t10 : St => (x4_workChances t10).bind (fun q11 => x4_drawFront_J64 q11.2 q11.1))))) else (some ((0 : Int32), t)))
theorem mm_x4_drawFront_J18 (t : St) (v1 : Int32) : MR (x4_drawFront_J18 t v1) t (fun (a : Int32 × St) => a.2) := by
  unfold x4_drawFront_J18
  exact MR_bindn (fun q5 => MR_ite (MR_nmS mle_sI (fun t8 ht8 => MR_nmS mle_sI (fun t9 ht9 => MR_nmS mle_sI (fun t10 ht10 => MR_bind (mm_x4_workChances t10) (fun q11 hq11 => MR_wk (mle.trans (mle.trans (mle.trans ht8 ht9) ht10) hq11) (mm_x4_drawFront_J64 q11.2 q11.1)))))) (MR_some mle.rfl))
noncomputable def x4_drawFront (t0 : St) (a1 : Int32) : Option (Int32 × St) :=
  if a1 = (gI t0 409) then (some ((1 : Int32), t0)) else ((x0_draw t0 a1).bind (fun q14 => x4_drawFront_J18 q14 a1))
theorem mm_x4_drawFront (t0 : St) (a1 : Int32) : MR (x4_drawFront t0 a1) t0 (fun (a : Int32 × St) => a.2) := by
  unfold x4_drawFront
  exact MR_ite (MR_some mle.rfl) (MR_bind (mm_x0_draw t0 a1) (fun q14 hq14 => MR_wk hq14 (mm_x4_drawFront_J18 q14 a1)))
set_option maxHeartbeats 4000000 in
set_option maxRecDepth 100000 in
theorem c_x4_drawFront (l : Launch) {D : va_G} {cI cJ cZ cR : ClassId} {am gm : Nat → Nat} {st : Nat} (sz : Nat) (t0 : St) (a1 : Int32) {r : Int32} {t' : St} (ho : x4_drawFront t0 a1 = some (r, t')) : Met l yX4_drawFront (.code yX4_drawFront cX4_drawFront 3 (some .boolean) :: wsAll) (rmA 5 121 t0 t') (va_Pc [.ref (am 2004), .int a1] (prX D (tyX cI cJ cZ cR) (wX cI cJ cZ cR am gm t0) sz st)) (qZa r D (tyX cI cJ cZ cR) (fun gm => wX cI cJ cZ cR am gm t') (va_A (wX cI cJ cZ cR am gm t0) sz)) (mC t0 t') (mS t0 t') (va_A (wX cI cJ cZ cR am gm t0) sz) := by
  refine Met.ofW (cc := cX4_drawFront) (maxL := 3) (ret := (some .boolean)) (by decide) rfl ?_
  intro p e s m args below meth c s₁ B hml hv
  obtain ⟨rfl, ⟨hsz, hP, hK, hD0⟩, hsx⟩ := hv
  have hx := B.exec
  have hb := B.bytes
  have hts := atoms_spec (ws := (.code yX4_drawFront cX4_drawFront 3 (some .boolean) :: wsAll)) B.pre
  have hta := fun w h => hts w (List.mem_cons_of_mem _ h)
  have hown : s.vm.findClass RX4 = some m.cls := findClass_of_methodNamed B.named
  have hlocks := B.notSynchronized
  subst hsz
  have hD := hD0.self (sz := s.heap.size)
  generalize hAe : va_A (wX cI cJ cZ cR am gm t0) s.heap.size = A at hD ⊢
  have hA : ∀ q : Nat, s.heap.size ≤ q → A q := fun q h => by rw [← hAe]; exact Or.inr h
  have C0 : cxX p s m ([.ref (am 2004), .int a1].toArray) meth c cX4_drawFront RX4 3 (some .boolean) D (tyX cI cJ cZ cR) st A := ⟨⟨hx, hb, B.returns, hml, hown, hta, hlocks, hK, hA⟩, by rw [← hAe]; exact hsx⟩
  have hW : wl D A s (wX cI cJ cZ cR am gm t0) s.heap [] := ⟨hP, hD, va_S.rf⟩
  have hl := lv_entry [.ref (am 2004), .int a1] (n := 3) (Nat.le_of_ble_eq_true rfl)
  rw [lg_entry_eq]
  generalize (lg_sl [.ref (am 2004), .int a1] ++ List.replicate (3 - (lg_sl [.ref (am 2004), .int a1]).length) Slot.unset).toArray = ls at hl ⊢
  have hl : lv_has ls 3 [(0, .ref (am 2004)), (1, .int a1)] := hl
  clear hAe hD hP hD0 hts
  have J75 : ∀ (gm : Nat → Nat) (t : St) (_ : x4_drawFront_J75 t = some (r, t')) (_ : mle t0 t) (H : Heap) (locs : List Loc) (ls : Array Slot), wl D A s (wX cI cJ cZ cR am gm t) H locs → lv_has ls 3 [(0, .ref (am 2004))] → W p l e (rmA 5 121 t0 t') s m ([.ref (am 2004), .int a1].toArray) below meth c H locs (mC t0 t) (mS t0 t) (MQ below (qZa r D (tyX cI cJ cZ cR) (fun gm => wX cI cJ cZ cR am gm t') A) ([.ref (am 2004), .int a1].toArray) s (mC t0 t') (mS t0 t') A) (F0 m 75 ls []) := by
    intro gm t ho h0 H locs ls hW hl
    have hE : mle t t' := (mm_x4_drawFront_J75 _ _ ho)
    have hR := hR_of (t0 := t0) hE
    unfold x4_drawFront_J75 at ho
    refine lv_iconst (v := (1 : Int32)) hx hb dX4_drawFront_75 (by decide) ?_
    cases ho
    exact rtZa gm C0.1 hW (Or.inr (rfl : (1 : Int32) = 1)) dX4_drawFront_76
  have J64 : ∀ (gm : Nat → Nat) (t : St) (w0 : Int32) (_ : x4_drawFront_J64 t w0 = some (r, t')) (_ : mle t0 t) (H : Heap) (locs : List Loc) (ls : Array Slot), wl D A s (wX cI cJ cZ cR am gm t) H locs → lv_has ls 3 [(0, .ref (am 2004))] → W p l e (rmA 5 121 t0 t') s m ([.ref (am 2004), .int a1].toArray) below meth c H locs (mC t0 t) (mS t0 t) (MQ below (qZa r D (tyX cI cJ cZ cR) (fun gm => wX cI cJ cZ cR am gm t') A) ([.ref (am 2004), .int a1].toArray) s (mC t0 t') (mS t0 t') A) (F0 m 64 ls [.int w0]) := by
    intro gm t w0 ho h0 H locs ls hW hl
    have hE : mle t t' := (mm_x4_drawFront_J64 _ _ _ ho)
    have hR := hR_of (t0 := t0) hE
    unfold x4_drawFront_J64 at ho
    refine lv_istore_n (lv' := [(2, .int w0), (0, .ref (am 2004))]) hx hb dX4_drawFront_64 rfl hl (by decide) rfl (fun ls hl => ?_)
    refine lv_aload_n hx hb dX4_drawFront_65 rfl (lv_at hl 1 rfl) ?_
    refine lv_iload_n hx hb dX4_drawFront_66 rfl (lv_at hl 0 rfl) ?_
    obtain ⟨q1, hc2, ho⟩ := bd_some ho
    have hq1 := mm_x4_sort t w0 _ hc2
    refine bkV C0.1 hW (runVX (As := [.int w0]) (rest := []) C0 hW (c_x4_sort l _ t w0 (t' := q1) hc2) cb_X4_X4_sort_101 4 4 rfl rfl rfl rfl rfl ⟨rfl, rfl⟩ ⟨Nat.le_of_ble_eq_true rfl, Nat.le_of_ble_eq_true rfl⟩ (Nat.le_of_ble_eq_true rfl) hl.1 dX4_drawFront_67 ⟨hR.1, hR.2⟩) (fun H locs hW => ?_)
    refine lv_aload_n hx hb dX4_drawFront_70 rfl (lv_at hl 1 rfl) ?_
    refine lv_iload_n hx hb dX4_drawFront_71 rfl (lv_at hl 0 rfl) ?_
    obtain ⟨q3, hc4, ho⟩ := bd_some ho
    have hq3 := mm_x4_pickFront q1 w0 _ hc4
    have hEq3 := (mm_x4_drawFront_J75 _ _ ho)
    refine W_up h0 hq1 ?_
    have h0 := (mle.trans h0 hq1)
    refine bkVa C0.1 hW h0 hq3 (runVX (As := [.int w0]) (rest := []) C0 hW (c_x4_pickFront l _ q1 w0 (t' := q3) hc4) cb_X4_X4_pickFront_104 4 4 rfl rfl rfl rfl rfl ⟨rfl, rfl⟩ ⟨Nat.le_of_ble_eq_true rfl, Nat.le_of_ble_eq_true rfl⟩ (Nat.le_of_ble_eq_true rfl) hl.1 dX4_drawFront_72 (hf_of h0 hq3 hEq3)) (fun gm H locs hW => ?_)
    have h0 := mle.trans h0 hq3
    exact J75 gm _ ho h0 _ _ _ hW (lv_sub hl [1] rfl)
  have J18 : ∀ (gm : Nat → Nat) (t : St) (v1 : Int32) (_ : x4_drawFront_J18 t v1 = some (r, t')) (_ : mle t0 t) (H : Heap) (locs : List Loc) (ls : Array Slot), wl D A s (wX cI cJ cZ cR am gm t) H locs → lv_has ls 3 [(0, .ref (am 2004)), (1, .int v1)] → W p l e (rmA 5 121 t0 t') s m ([.ref (am 2004), .int a1].toArray) below meth c H locs (mC t0 t) (mS t0 t) (MQ below (qZa r D (tyX cI cJ cZ cR) (fun gm => wX cI cJ cZ cR am gm t') A) ([.ref (am 2004), .int a1].toArray) s (mC t0 t') (mS t0 t') A) (F0 m 18 ls []) := by
    intro gm t v1 ho h0 H locs ls hW hl
    have hE : mle t t' := (mm_x4_drawFront_J18 _ _ _ ho)
    have hR := hR_of (t0 := t0) hE
    unfold x4_drawFront_J18 at ho
    refine lv_aload_n hx hb dX4_drawFront_18 rfl (lv_at hl 0 rfl) ?_
    refine xGET_401 C0 kw_440 hW dX4_drawFront_19 ?_
    obtain ⟨q5, hc6, ho⟩ := bd_some ho
    refine bkI C0.1 hW (runVX (As := []) (rest := []) C0 hW (c_x0_drawnSize l _ t (r := q5) hc6) cb_X4_X0_drawnSize_88 0 0 rfl rfl rfl rfl rfl ⟨rfl, rfl⟩ ⟨Nat.le_of_ble_eq_true rfl, Nat.le_of_ble_eq_true rfl⟩ (Nat.le_of_ble_eq_true rfl) hl.1 dX4_drawFront_22 ⟨hR.1, hR.2⟩) (fun H locs hW => ?_)
    refine lv_sipush (v := (400 : Int32)) hx hb dX4_drawFront_25 (by decide) ?_
    refine lv_icmp_le (tgt := 33) hx hb dX4_drawFront_28 (by decide) (fun c7 => ?_) (fun c7 => ?_)
    · replace ho := ite_t c7 ho
      refine lv_aload_n hx hb dX4_drawFront_33 rfl (lv_at hl 0 rfl) ?_
      refine lv_iload_n hx hb dX4_drawFront_34 rfl (lv_at hl 1 rfl) ?_
      refine xPUT_409 C0 kw_454 hW dX4_drawFront_35 (fun H locs hW => ?_)
      obtain ⟨t8, ht8, ho, hW⟩ := nm_wm (P := fun t => wl D A s (wX cI cJ cZ cR am gm t) H locs) mle_sI ho hW
      refine lv_aload_n hx hb dX4_drawFront_38 rfl (lv_at hl 0 rfl) ?_
      refine lv_aload_n hx hb dX4_drawFront_39 rfl (lv_at hl 0 rfl) ?_
      refine xGET_401 C0 kw_440 hW dX4_drawFront_40 ?_
      refine xGET_6 C0 kw_389 hW dX4_drawFront_43 ?_
      refine xPUT_410 C0 kw_455 hW dX4_drawFront_46 (fun H locs hW => ?_)
      obtain ⟨t9, ht9, ho, hW⟩ := nm_wm (P := fun t => wl D A s (wX cI cJ cZ cR am gm t) H locs) mle_sI ho hW
      refine lv_aload_n hx hb dX4_drawFront_49 rfl (lv_at hl 0 rfl) ?_
      refine lv_aload_n hx hb dX4_drawFront_50 rfl (lv_at hl 0 rfl) ?_
      refine xGET_400 C0 kw_439 hW dX4_drawFront_51 ?_
      refine xGET_803 C0 kw_276 hW dX4_drawFront_54 ?_
      refine xPUT_411 C0 kw_457 hW dX4_drawFront_57 (fun H locs hW => ?_)
      obtain ⟨t10, ht10, ho, hW⟩ := nm_wm (P := fun t => wl D A s (wX cI cJ cZ cR am gm t) H locs) mle_sI ho hW
      refine lv_aload_n hx hb dX4_drawFront_60 rfl (lv_at hl 0 rfl) ?_
      obtain ⟨q11, hc12, ho⟩ := bd_some ho
      have hq11 := mm_x4_workChances t10 _ hc12
      have hEq11 := (mm_x4_drawFront_J64 _ _ _ ho)
      refine W_up h0 (mle.trans (mle.trans ht8 ht9) ht10) ?_
      have h0 := (mle.trans h0 (mle.trans (mle.trans ht8 ht9) ht10))
      refine bkIa C0.1 hW h0 hq11 (runVX (As := []) (rest := []) C0 hW (c_x4_workChances l _ t10 (r := q11.1) (t' := q11.2) hc12) cb_X4_X4_workChances_98 4 4 rfl rfl rfl rfl rfl ⟨rfl, rfl⟩ ⟨Nat.le_of_ble_eq_true rfl, Nat.le_of_ble_eq_true rfl⟩ (Nat.le_of_ble_eq_true rfl) hl.1 dX4_drawFront_61 (hf_of h0 hq11 hEq11)) (fun gm H locs hW => ?_)
      have h0 := mle.trans h0 hq11
      exact J64 gm _ _ ho h0 _ _ _ hW (lv_sub hl [0] rfl)
    · replace ho := ite_f c7 ho
      refine lv_iconst (v := (0 : Int32)) hx hb dX4_drawFront_31 (by decide) ?_
      cases ho
      exact rtZa gm C0.1 hW (Or.inl (rfl : (0 : Int32) = 0)) dX4_drawFront_32
  have hE : mle t0 t' := mm_x4_drawFront _ _ _ ho
  have hR := hR_of (t0 := t0) hE
  have h0 : mle t0 t0 := mle.rfl
  refine W_0 (t0 := t0) ?_
  unfold x4_drawFront at ho
  refine lv_iload_n hx hb dX4_drawFront_0 rfl (lv_at hl 1 rfl) ?_
  refine lv_aload_n hx hb dX4_drawFront_1 rfl (lv_at hl 0 rfl) ?_
  refine xGET_409 C0 kw_454 hW dX4_drawFront_2 ?_
  refine lv_icmp_ne (tgt := 10) hx hb dX4_drawFront_5 (by decide) (fun c13 => ?_) (fun c13 => ?_)
  · replace ho := ite_f c13 ho
    refine lv_aload_n hx hb dX4_drawFront_10 rfl (lv_at hl 0 rfl) ?_
    refine xGET_401 C0 kw_440 hW dX4_drawFront_11 ?_
    refine lv_iload_n hx hb dX4_drawFront_14 rfl (lv_at hl 1 rfl) ?_
    obtain ⟨q14, hc15, ho⟩ := bd_some ho
    have hq14 := mm_x0_draw t0 a1 _ hc15
    have hEq14 := (mm_x4_drawFront_J18 _ _ _ ho)
    refine bkVa C0.1 hW h0 hq14 (runVX (As := [.int a1]) (rest := []) C0 hW (c_x0_draw l _ t0 a1 (t' := q14) hc15) cb_X4_X0_draw_83 0 0 rfl rfl rfl rfl rfl ⟨rfl, rfl⟩ ⟨Nat.le_of_ble_eq_true rfl, Nat.le_of_ble_eq_true rfl⟩ (Nat.le_of_ble_eq_true rfl) hl.1 dX4_drawFront_15 (hf_of h0 hq14 hEq14)) (fun gm H locs hW => ?_)
    have h0 := mle.trans h0 hq14
    exact J18 gm _ _ ho h0 _ _ _ hW (lv_sub hl [0, 1] rfl)
  · replace ho := ite_t c13 ho
    refine lv_iconst (v := (1 : Int32)) hx hb dX4_drawFront_8 (by decide) ?_
    cases ho
    exact rtZa gm C0.1 hW (Or.inr (rfl : (1 : Int32) = 1)) dX4_drawFront_9
noncomputable def x11_front_J35 (t : St) (w0 : Int32) : Option (Int32 × St) :=
  if w0 = 0 then (some ((-5 : Int32), t)) else (some ((gI t 408), t))
theorem mm_x11_front_J35 (t : St) (w0 : Int32) : MR (x11_front_J35 t w0) t (fun (a : Int32 × St) => a.2) := by
  unfold x11_front_J35
  exact MR_ite (MR_some mle.rfl) (MR_some mle.rfl)
noncomputable def x11_front (t0 : St) (a1 : Int32) : Option (Int32 × St) :=
  (x11_noNet t0 a1).bind (fun q2 => if q2 = 0 then (gd a1 (gN t0 602) (nm (gA t0 602 (a1).toNatClampNeg) (fun x7 : Int32 => if 0 ≤ x7 then ((x4_drawFront t0 x7).bind (fun q9 => x11_front_J35 q9.2 q9.1)) else (some ((-3 : Int32), t0))))) else (some ((-2 : Int32), t0)))
theorem mm_x11_front (t0 : St) (a1 : Int32) : MR (x11_front t0 a1) t0 (fun (a : Int32 × St) => a.2) := by
  unfold x11_front
  exact MR_bindn (fun q2 => MR_ite (MR_gd (MR_nm (fun x7 _ => MR_ite (MR_bind (mm_x4_drawFront t0 x7) (fun q9 hq9 => MR_wk hq9 (mm_x11_front_J35 q9.2 q9.1))) (MR_some mle.rfl)))) (MR_some mle.rfl))
set_option maxHeartbeats 4000000 in
set_option maxRecDepth 100000 in
theorem c_x11_front (l : Launch) {D : va_G} {cI cJ cZ cR : ClassId} {am gm : Nat → Nat} {st : Nat} (sz : Nat) (t0 : St) (a1 : Int32) {r : Int32} {t' : St} (ho : x11_front t0 a1 = some (r, t')) : Met l yX11_front (.code yX11_front cX11_front 3 (some .int) :: wsAll) (rmA 6 143 t0 t') (va_Pc [.ref (am 2011), .int a1] (prX D (tyX cI cJ cZ cR) (wX cI cJ cZ cR am gm t0) sz st)) (qIa r D (tyX cI cJ cZ cR) (fun gm => wX cI cJ cZ cR am gm t') (va_A (wX cI cJ cZ cR am gm t0) sz)) (mC t0 t') (mS t0 t') (va_A (wX cI cJ cZ cR am gm t0) sz) := by
  refine Met.ofW (cc := cX11_front) (maxL := 3) (ret := (some .int)) (by decide) rfl ?_
  intro p e s m args below meth c s₁ B hml hv
  obtain ⟨rfl, ⟨hsz, hP, hK, hD0⟩, hsx⟩ := hv
  have hx := B.exec
  have hb := B.bytes
  have hts := atoms_spec (ws := (.code yX11_front cX11_front 3 (some .int) :: wsAll)) B.pre
  have hta := fun w h => hts w (List.mem_cons_of_mem _ h)
  have hown : s.vm.findClass RX11 = some m.cls := findClass_of_methodNamed B.named
  have hlocks := B.notSynchronized
  subst hsz
  have hD := hD0.self (sz := s.heap.size)
  generalize hAe : va_A (wX cI cJ cZ cR am gm t0) s.heap.size = A at hD ⊢
  have hA : ∀ q : Nat, s.heap.size ≤ q → A q := fun q h => by rw [← hAe]; exact Or.inr h
  have C0 : cxX p s m ([.ref (am 2011), .int a1].toArray) meth c cX11_front RX11 3 (some .int) D (tyX cI cJ cZ cR) st A := ⟨⟨hx, hb, B.returns, hml, hown, hta, hlocks, hK, hA⟩, by rw [← hAe]; exact hsx⟩
  have hW : wl D A s (wX cI cJ cZ cR am gm t0) s.heap [] := ⟨hP, hD, va_S.rf⟩
  have hl := lv_entry [.ref (am 2011), .int a1] (n := 3) (Nat.le_of_ble_eq_true rfl)
  rw [lg_entry_eq]
  generalize (lg_sl [.ref (am 2011), .int a1] ++ List.replicate (3 - (lg_sl [.ref (am 2011), .int a1]).length) Slot.unset).toArray = ls at hl ⊢
  have hl : lv_has ls 3 [(0, .ref (am 2011)), (1, .int a1)] := hl
  clear hAe hD hP hD0 hts
  have J35 : ∀ (gm : Nat → Nat) (t : St) (w0 : Int32) (_ : x11_front_J35 t w0 = some (r, t')) (_ : mle t0 t) (H : Heap) (locs : List Loc) (ls : Array Slot), wl D A s (wX cI cJ cZ cR am gm t) H locs → lv_has ls 3 [(0, .ref (am 2011))] → W p l e (rmA 6 143 t0 t') s m ([.ref (am 2011), .int a1].toArray) below meth c H locs (mC t0 t) (mS t0 t) (MQ below (qIa r D (tyX cI cJ cZ cR) (fun gm => wX cI cJ cZ cR am gm t') A) ([.ref (am 2011), .int a1].toArray) s (mC t0 t') (mS t0 t') A) (F0 m 35 ls [.int w0]) := by
    intro gm t w0 ho h0 H locs ls hW hl
    have hE : mle t t' := (mm_x11_front_J35 _ _ _ ho)
    have hR := hR_of (t0 := t0) hE
    unfold x11_front_J35 at ho
    refine lv_if_eq (tgt := 48) hx hb dX11_front_35 (by decide) (fun c1 => ?_) (fun c1 => ?_)
    · replace ho := ite_t c1 ho
      refine lv_bipush (v := (-5 : Int32)) hx hb dX11_front_48 (by decide) ?_
      cases ho
      exact rtIa gm C0.1 hW dX11_front_50
    · replace ho := ite_f c1 ho
      refine lv_aload_n hx hb dX11_front_38 rfl (lv_at hl 0 rfl) ?_
      refine xGET_1107 C0 kw_598 hW dX11_front_39 ?_
      refine xGET_408 C0 kw_453 hW dX11_front_42 ?_
      refine lv_goto (tgt := 50) hx hb dX11_front_45 (by decide) ?_
      cases ho
      exact rtIa gm C0.1 hW dX11_front_50
  have hE : mle t0 t' := mm_x11_front _ _ _ ho
  have hR := hR_of (t0 := t0) hE
  have h0 : mle t0 t0 := mle.rfl
  refine W_0 (t0 := t0) ?_
  unfold x11_front at ho
  refine lv_iload_n hx hb dX11_front_0 rfl (lv_at hl 1 rfl) ?_
  obtain ⟨q2, hc3, ho⟩ := bd_some ho
  refine bkZ C0.1 hW (runSX (As := [.int a1]) (rest := []) C0 hW (c_x11_noNet l _ t0 a1 (r := q2) hc3) cb_X11_X11_noNet_124 rfl rfl ⟨rfl, rfl⟩ ⟨Nat.le_of_ble_eq_true rfl, Nat.le_of_ble_eq_true rfl⟩ (Nat.le_of_ble_eq_true rfl) hl.1 dX11_front_1 ⟨hR.1, hR.2⟩) (fun z4 H locs hW => ?_)
  refine lv_if_eq (tgt := 10) hx hb dX11_front_4 (by decide) (fun c5 => ?_) (fun c5 => ?_)
  · replace ho := ite_t c5 ho
    refine lv_aload_n hx hb dX11_front_10 rfl (lv_at hl 0 rfl) ?_
    refine xGET_1101 C0 kw_592 hW dX11_front_11 ?_
    refine xGET_602 C0 kw_184 hW dX11_front_14 ?_
    refine lv_iload_n hx hb dX11_front_17 rfl (lv_at hl 1 rfl) ?_
    obtain ⟨g6, ho⟩ := gd_some ho
    refine xLD_602 C0 hW g6 dX11_front_18 ?_
    refine lv_nmi ho (fun x7 ho => ?_)
    refine lv_istore_n (lv' := [(2, .int x7), (0, .ref (am 2011)), (1, .int a1)]) hx hb dX11_front_19 rfl hl (by decide) rfl (fun ls hl => ?_)
    refine lv_iload_n hx hb dX11_front_20 rfl (lv_at hl 0 rfl) ?_
    refine lv_if_ge (tgt := 27) hx hb dX11_front_21 (by decide) (fun c8 => ?_) (fun c8 => ?_)
    · replace ho := ite_t c8 ho
      refine lv_aload_n hx hb dX11_front_27 rfl (lv_at hl 1 rfl) ?_
      refine xGET_1107 C0 kw_598 hW dX11_front_28 ?_
      refine lv_iload_n hx hb dX11_front_31 rfl (lv_at hl 0 rfl) ?_
      obtain ⟨q9, hc10, ho⟩ := bd_some ho
      have hq9 := mm_x4_drawFront t0 x7 _ hc10
      have hEq9 := (mm_x11_front_J35 _ _ _ ho)
      refine bkZa C0.1 hW h0 hq9 (runVX (As := [.int x7]) (rest := []) C0 hW (c_x4_drawFront l _ t0 x7 (r := q9.1) (t' := q9.2) hc10) cb_X11_X4_drawFront_256 4 4 rfl rfl rfl rfl rfl ⟨rfl, rfl⟩ ⟨Nat.le_of_ble_eq_true rfl, Nat.le_of_ble_eq_true rfl⟩ (Nat.le_of_ble_eq_true rfl) hl.1 dX11_front_32 (hf_of h0 hq9 hEq9)) (fun z11 gm H locs hW => ?_)
      have h0 := mle.trans h0 hq9
      exact J35 gm _ _ ho h0 _ _ _ hW (lv_sub hl [1] rfl)
    · replace ho := ite_f c8 ho
      refine lv_bipush (v := (-3 : Int32)) hx hb dX11_front_24 (by decide) ?_
      cases ho
      exact rtIa gm C0.1 hW dX11_front_26
  · replace ho := ite_f c5 ho
    refine lv_bipush (v := (-2 : Int32)) hx hb dX11_front_7 (by decide) ?_
    cases ho
    exact rtIa gm C0.1 hW dX11_front_9
