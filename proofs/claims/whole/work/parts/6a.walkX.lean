noncomputable def x11_outside (t : St) (a0 : Int32) (a1 : Int32) (a2 : Int32) : Option (Int32) :=
  if a0 < a1 then (some (1 : Int32)) else (if a0 ≤ a2 then (some (0 : Int32)) else (some (1 : Int32)))
set_option maxHeartbeats 4000000 in
set_option maxRecDepth 100000 in
theorem c_x11_outside (l : Launch) {D : va_G} {cI cJ cZ cR : ClassId} {am gm : Nat → Nat} {st : Nat} (sz : Nat) (t : St) (a0 : Int32) (a1 : Int32) (a2 : Int32) {r : Int32} (ho : x11_outside t a0 a1 a2 = some r) : Met l yX11_outside (.code yX11_outside cX11_outside 3 (some .boolean) :: wsAll) (rmN 0 0) (va_Pc [.int a0, .int a1, .int a2] (prX D (tyX cI cJ cZ cR) (wX cI cJ cZ cR am gm t) sz st)) (qZ r D (tyX cI cJ cZ cR) (wX cI cJ cZ cR am gm t) (va_A (wX cI cJ cZ cR am gm t) sz)) 0 0 (va_A (wX cI cJ cZ cR am gm t) sz) := by
  refine Met.ofW (cc := cX11_outside) (maxL := 3) (ret := (some .boolean)) (by decide) rfl ?_
  intro p e s m args below meth c s₁ B hml hv
  obtain ⟨rfl, ⟨hsz, hP, hK, hD0⟩, hsx⟩ := hv
  have hx := B.exec
  have hb := B.bytes
  have hts := atoms_spec (ws := (.code yX11_outside cX11_outside 3 (some .boolean) :: wsAll)) B.pre
  have hta := fun w h => hts w (List.mem_cons_of_mem _ h)
  have hown : s.vm.findClass RX11 = some m.cls := findClass_of_methodNamed B.named
  have hlocks := B.notSynchronized
  subst hsz
  have hD := hD0.self (sz := s.heap.size)
  generalize hAe : va_A (wX cI cJ cZ cR am gm t) s.heap.size = A at hD ⊢
  have hA : ∀ q : Nat, s.heap.size ≤ q → A q := fun q h => by rw [← hAe]; exact Or.inr h
  have C0 : cxX p s m ([.int a0, .int a1, .int a2].toArray) meth c cX11_outside RX11 3 (some .boolean) D (tyX cI cJ cZ cR) st A := ⟨⟨hx, hb, B.returns, hml, hown, hta, hlocks, hK, hA⟩, by rw [← hAe]; exact hsx⟩
  have hW : wl D A s (wX cI cJ cZ cR am gm t) s.heap [] := ⟨hP, hD, va_S.rf⟩
  have hl := lv_entry [.int a0, .int a1, .int a2] (n := 3) (Nat.le_of_ble_eq_true rfl)
  rw [lg_entry_eq]
  generalize (lg_sl [.int a0, .int a1, .int a2] ++ List.replicate (3 - (lg_sl [.int a0, .int a1, .int a2]).length) Slot.unset).toArray = ls at hl ⊢
  have hl : lv_has ls 3 [(0, .int a0), (1, .int a1), (2, .int a2)] := hl
  unfold x11_outside at ho
  refine lv_iload_n hx hb dX11_outside_0 rfl (lv_at hl 0 rfl) ?_
  refine lv_iload_n hx hb dX11_outside_1 rfl (lv_at hl 1 rfl) ?_
  refine lv_icmp_lt (tgt := 10) hx hb dX11_outside_2 (by decide) (fun c1 => ?_) (fun c1 => ?_)
  · replace ho := ite_t c1 ho
    refine lv_iconst (v := (1 : Int32)) hx hb dX11_outside_10 (by decide) ?_
    refine lv_goto (tgt := 15) hx hb dX11_outside_11 (by decide) ?_
    cases ho
    exact rtZ C0.1 hW (Or.inr (rfl : (1 : Int32) = 1)) dX11_outside_15
  · replace ho := ite_f c1 ho
    refine lv_iload_n hx hb dX11_outside_5 rfl (lv_at hl 0 rfl) ?_
    refine lv_iload_n hx hb dX11_outside_6 rfl (lv_at hl 2 rfl) ?_
    refine lv_icmp_le (tgt := 14) hx hb dX11_outside_7 (by decide) (fun c2 => ?_) (fun c2 => ?_)
    · replace ho := ite_t c2 ho
      refine lv_iconst (v := (0 : Int32)) hx hb dX11_outside_14 (by decide) ?_
      cases ho
      exact rtZ C0.1 hW (Or.inl (rfl : (0 : Int32) = 0)) dX11_outside_15
    · replace ho := ite_f c2 ho
      refine lv_iconst (v := (1 : Int32)) hx hb dX11_outside_10 (by decide) ?_
      refine lv_goto (tgt := 15) hx hb dX11_outside_11 (by decide) ?_
      cases ho
      exact rtZ C0.1 hW (Or.inr (rfl : (1 : Int32) = 1)) dX11_outside_15
noncomputable def x11_noStep (t : St) (a0 : Int32) : Option (Int32) :=
  (x11_outside t a0 (0 : Int32) (15 : Int32)).bind (fun q1 => some q1)
set_option maxHeartbeats 4000000 in
set_option maxRecDepth 100000 in
theorem c_x11_noStep (l : Launch) {D : va_G} {cI cJ cZ cR : ClassId} {am gm : Nat → Nat} {st : Nat} (sz : Nat) (t : St) (a0 : Int32) {r : Int32} (ho : x11_noStep t a0 = some r) : Met l yX11_noStep (.code yX11_noStep cX11_noStep 1 (some .boolean) :: wsAll) (rmN 1 22) (va_Pc [.int a0] (prX D (tyX cI cJ cZ cR) (wX cI cJ cZ cR am gm t) sz st)) (qZ r D (tyX cI cJ cZ cR) (wX cI cJ cZ cR am gm t) (va_A (wX cI cJ cZ cR am gm t) sz)) 0 0 (va_A (wX cI cJ cZ cR am gm t) sz) := by
  refine Met.ofW (cc := cX11_noStep) (maxL := 1) (ret := (some .boolean)) (by decide) rfl ?_
  intro p e s m args below meth c s₁ B hml hv
  obtain ⟨rfl, ⟨hsz, hP, hK, hD0⟩, hsx⟩ := hv
  have hx := B.exec
  have hb := B.bytes
  have hts := atoms_spec (ws := (.code yX11_noStep cX11_noStep 1 (some .boolean) :: wsAll)) B.pre
  have hta := fun w h => hts w (List.mem_cons_of_mem _ h)
  have hown : s.vm.findClass RX11 = some m.cls := findClass_of_methodNamed B.named
  have hlocks := B.notSynchronized
  subst hsz
  have hD := hD0.self (sz := s.heap.size)
  generalize hAe : va_A (wX cI cJ cZ cR am gm t) s.heap.size = A at hD ⊢
  have hA : ∀ q : Nat, s.heap.size ≤ q → A q := fun q h => by rw [← hAe]; exact Or.inr h
  have C0 : cxX p s m ([.int a0].toArray) meth c cX11_noStep RX11 1 (some .boolean) D (tyX cI cJ cZ cR) st A := ⟨⟨hx, hb, B.returns, hml, hown, hta, hlocks, hK, hA⟩, by rw [← hAe]; exact hsx⟩
  have hW : wl D A s (wX cI cJ cZ cR am gm t) s.heap [] := ⟨hP, hD, va_S.rf⟩
  have hl := lv_entry [.int a0] (n := 1) (Nat.le_of_ble_eq_true rfl)
  rw [lg_entry_eq]
  generalize (lg_sl [.int a0] ++ List.replicate (1 - (lg_sl [.int a0]).length) Slot.unset).toArray = ls at hl ⊢
  have hl : lv_has ls 1 [(0, .int a0)] := hl
  unfold x11_noStep at ho
  refine lv_iload_n hx hb dX11_noStep_0 rfl (lv_at hl 0 rfl) ?_
  refine lv_iconst (v := (0 : Int32)) hx hb dX11_noStep_1 (by decide) ?_
  refine lv_bipush (v := (15 : Int32)) hx hb dX11_noStep_2 (by decide) ?_
  obtain ⟨q1, hc2, ho⟩ := bd_some ho
  refine bkZ C0.1 hW (runSX (As := [.int a0, .int (0 : Int32), .int (15 : Int32)]) (rest := []) C0 hW (c_x11_outside l _ t a0 (0 : Int32) (15 : Int32) (r := q1) hc2) cb_X11_X11_outside_102 rfl rfl ⟨rfl, rfl⟩ ⟨Nat.le_of_ble_eq_true rfl, Nat.le_of_ble_eq_true rfl⟩ (Nat.le_of_ble_eq_true rfl) hl.1 dX11_noStep_4 ⟨Nat.le_of_ble_eq_true rfl, Nat.le_of_ble_eq_true rfl⟩) (fun z3 H locs hW => ?_)
  cases ho
  exact rtZ C0.1 hW z3 dX11_noStep_7
noncomputable def x5_put (t : St) (a1 : Int32) (a2 : Int32) (a3 : Int32) : Option (St) :=
  gd ((a1 * (5 : Int32)) + a2) (gN t 500) (nm (sA t 500 ((a1 * (5 : Int32)) + a2) a3) (fun t2 : St => some t2))
theorem mm_x5_put (t : St) (a1 : Int32) (a2 : Int32) (a3 : Int32) : MR (x5_put t a1 a2 a3) t (fun (a : St) => a) := by
  unfold x5_put
  exact MR_gd (MR_nmS mle_sA (fun t2 ht2 => MR_some ht2))
set_option maxHeartbeats 4000000 in
set_option maxRecDepth 100000 in
theorem c_x5_put (l : Launch) {D : va_G} {cI cJ cZ cR : ClassId} {am gm : Nat → Nat} {st : Nat} (sz : Nat) (t : St) (a1 : Int32) (a2 : Int32) (a3 : Int32) {t' : St} (ho : x5_put t a1 a2 a3 = some t') : Met l yX5_put (.code yX5_put cX5_put 4 none :: wsAll) (rmN 0 0) (va_Pc [.ref (am 2005), .int a1, .int a2, .int a3] (prX D (tyX cI cJ cZ cR) (wX cI cJ cZ cR am gm t) sz st)) (qV D (tyX cI cJ cZ cR) (wX cI cJ cZ cR am gm t') (va_A (wX cI cJ cZ cR am gm t) sz)) 0 0 (va_A (wX cI cJ cZ cR am gm t) sz) := by
  refine Met.ofW (cc := cX5_put) (maxL := 4) (ret := none) (by decide) rfl ?_
  intro p e s m args below meth c s₁ B hml hv
  obtain ⟨rfl, ⟨hsz, hP, hK, hD0⟩, hsx⟩ := hv
  have hx := B.exec
  have hb := B.bytes
  have hts := atoms_spec (ws := (.code yX5_put cX5_put 4 none :: wsAll)) B.pre
  have hta := fun w h => hts w (List.mem_cons_of_mem _ h)
  have hown : s.vm.findClass RX5 = some m.cls := findClass_of_methodNamed B.named
  have hlocks := B.notSynchronized
  subst hsz
  have hD := hD0.self (sz := s.heap.size)
  generalize hAe : va_A (wX cI cJ cZ cR am gm t) s.heap.size = A at hD ⊢
  have hA : ∀ q : Nat, s.heap.size ≤ q → A q := fun q h => by rw [← hAe]; exact Or.inr h
  have C0 : cxX p s m ([.ref (am 2005), .int a1, .int a2, .int a3].toArray) meth c cX5_put RX5 4 none D (tyX cI cJ cZ cR) st A := ⟨⟨hx, hb, B.returns, hml, hown, hta, hlocks, hK, hA⟩, by rw [← hAe]; exact hsx⟩
  have hW : wl D A s (wX cI cJ cZ cR am gm t) s.heap [] := ⟨hP, hD, va_S.rf⟩
  have hl := lv_entry [.ref (am 2005), .int a1, .int a2, .int a3] (n := 4) (Nat.le_of_ble_eq_true rfl)
  rw [lg_entry_eq]
  generalize (lg_sl [.ref (am 2005), .int a1, .int a2, .int a3] ++ List.replicate (4 - (lg_sl [.ref (am 2005), .int a1, .int a2, .int a3]).length) Slot.unset).toArray = ls at hl ⊢
  have hl : lv_has ls 4 [(0, .ref (am 2005)), (1, .int a1), (2, .int a2), (3, .int a3)] := hl
  unfold x5_put at ho
  refine lv_aload_n hx hb dX5_put_0 rfl (lv_at hl 0 rfl) ?_
  refine xGET_500 C0 kw_156 hW dX5_put_1 ?_
  refine lv_iload_n hx hb dX5_put_4 rfl (lv_at hl 1 rfl) ?_
  refine lv_iconst (v := (5 : Int32)) hx hb dX5_put_5 (by decide) ?_
  refine lv_imul hx hb dX5_put_6 ?_
  refine lv_iload_n hx hb dX5_put_7 rfl (lv_at hl 2 rfl) ?_
  refine lv_iadd hx hb dX5_put_8 ?_
  refine lv_iload_n hx hb dX5_put_9 rfl (lv_at hl 3 rfl) ?_
  obtain ⟨g1, ho⟩ := gd_some ho
  refine xST_500 C0 hW g1 dX5_put_10 (fun H locs hW => ?_)
  obtain ⟨t2, ho, hW⟩ := nm_w (P := fun t => wl D A s (wX cI cJ cZ cR am gm t) H locs) ho hW
  cases ho
  exact rtV C0.1 hW dX5_put_11
noncomputable def x4_forgetFront (t : St) : Option (St) :=
  nm (sI t 409 (-1 : Int32)) (fun t1 : St => some t1)
theorem mm_x4_forgetFront (t : St) : MR (x4_forgetFront t) t (fun (a : St) => a) := by
  unfold x4_forgetFront
  exact MR_nmS mle_sI (fun t1 ht1 => MR_some ht1)
set_option maxHeartbeats 4000000 in
set_option maxRecDepth 100000 in
theorem c_x4_forgetFront (l : Launch) {D : va_G} {cI cJ cZ cR : ClassId} {am gm : Nat → Nat} {st : Nat} (sz : Nat) (t : St) {t' : St} (ho : x4_forgetFront t = some t') : Met l yX4_forgetFront (.code yX4_forgetFront cX4_forgetFront 1 none :: wsAll) (rmN 0 0) (va_Pc [.ref (am 2004)] (prX D (tyX cI cJ cZ cR) (wX cI cJ cZ cR am gm t) sz st)) (qV D (tyX cI cJ cZ cR) (wX cI cJ cZ cR am gm t') (va_A (wX cI cJ cZ cR am gm t) sz)) 0 0 (va_A (wX cI cJ cZ cR am gm t) sz) := by
  refine Met.ofW (cc := cX4_forgetFront) (maxL := 1) (ret := none) (by decide) rfl ?_
  intro p e s m args below meth c s₁ B hml hv
  obtain ⟨rfl, ⟨hsz, hP, hK, hD0⟩, hsx⟩ := hv
  have hx := B.exec
  have hb := B.bytes
  have hts := atoms_spec (ws := (.code yX4_forgetFront cX4_forgetFront 1 none :: wsAll)) B.pre
  have hta := fun w h => hts w (List.mem_cons_of_mem _ h)
  have hown : s.vm.findClass RX4 = some m.cls := findClass_of_methodNamed B.named
  have hlocks := B.notSynchronized
  subst hsz
  have hD := hD0.self (sz := s.heap.size)
  generalize hAe : va_A (wX cI cJ cZ cR am gm t) s.heap.size = A at hD ⊢
  have hA : ∀ q : Nat, s.heap.size ≤ q → A q := fun q h => by rw [← hAe]; exact Or.inr h
  have C0 : cxX p s m ([.ref (am 2004)].toArray) meth c cX4_forgetFront RX4 1 none D (tyX cI cJ cZ cR) st A := ⟨⟨hx, hb, B.returns, hml, hown, hta, hlocks, hK, hA⟩, by rw [← hAe]; exact hsx⟩
  have hW : wl D A s (wX cI cJ cZ cR am gm t) s.heap [] := ⟨hP, hD, va_S.rf⟩
  have hl := lv_entry [.ref (am 2004)] (n := 1) (Nat.le_of_ble_eq_true rfl)
  rw [lg_entry_eq]
  generalize (lg_sl [.ref (am 2004)] ++ List.replicate (1 - (lg_sl [.ref (am 2004)]).length) Slot.unset).toArray = ls at hl ⊢
  have hl : lv_has ls 1 [(0, .ref (am 2004))] := hl
  unfold x4_forgetFront at ho
  refine lv_aload_n hx hb dX4_forgetFront_0 rfl (lv_at hl 0 rfl) ?_
  refine lv_iconst (v := (-1 : Int32)) hx hb dX4_forgetFront_1 (by decide) ?_
  refine xPUT_409 C0 kw_454 hW dX4_forgetFront_2 (fun H locs hW => ?_)
  obtain ⟨t1, ho, hW⟩ := nm_w (P := fun t => wl D A s (wX cI cJ cZ cR am gm t) H locs) ho hW
  cases ho
  exact rtV C0.1 hW dX4_forgetFront_5
noncomputable def x11_step (t : St) (a1 : Int32) (a2 : Int32) (a3 : Int32) (a4 : Int32) : Option (Int32 × St) :=
  (x11_noStep t a1).bind (fun q1 => if q1 = 0 then ((x11_outside t a2 (0 : Int32) (1000 : Int32)).bind (fun q5 => if q5 = 0 then ((x11_outside t a3 (1 : Int32) (50 : Int32)).bind (fun q9 => if q9 = 0 then ((x11_outside t a4 (0 : Int32) (1000 : Int32)).bind (fun q13 => if q13 = 0 then ((x5_put t a1 (0 : Int32) a2).bind (fun q17 => (x5_put q17 a1 (1 : Int32) a3).bind (fun q19 => (x5_put q19 a1 (2 : Int32) a4).bind (fun q21 => (x4_forgetFront q21).bind (fun q23 => some ((1 : Int32), q23)))))) else (some ((-2 : Int32), t)))) else (some ((-2 : Int32), t)))) else (some ((-2 : Int32), t)))) else (some ((-2 : Int32), t)))
theorem mm_x11_step (t : St) (a1 : Int32) (a2 : Int32) (a3 : Int32) (a4 : Int32) : MR (x11_step t a1 a2 a3 a4) t (fun (a : Int32 × St) => a.2) := by
  unfold x11_step
  exact MR_bindn (fun q1 => MR_ite (MR_bindn (fun q5 => MR_ite (MR_bindn (fun q9 => MR_ite (MR_bindn (fun q13 => MR_ite (MR_bind (mm_x5_put t a1 (0 : Int32) a2) (fun q17 hq17 => MR_bind (mm_x5_put q17 a1 (1 : Int32) a3) (fun q19 hq19 => MR_bind (mm_x5_put q19 a1 (2 : Int32) a4) (fun q21 hq21 => MR_bind (mm_x4_forgetFront q21) (fun q23 hq23 => MR_some (mle.trans (mle.trans (mle.trans hq17 hq19) hq21) hq23)))))) (MR_some mle.rfl))) (MR_some mle.rfl))) (MR_some mle.rfl))) (MR_some mle.rfl))
set_option maxHeartbeats 4000000 in
set_option maxRecDepth 100000 in
theorem c_x11_step (l : Launch) {D : va_G} {cI cJ cZ cR : ClassId} {am gm : Nat → Nat} {st : Nat} (sz : Nat) (t : St) (a1 : Int32) (a2 : Int32) (a3 : Int32) (a4 : Int32) {r : Int32} {t' : St} (ho : x11_step t a1 a2 a3 a4 = some (r, t')) : Met l yX11_step (.code yX11_step cX11_step 5 (some .int) :: wsAll) (rmN 2 42) (va_Pc [.ref (am 2011), .int a1, .int a2, .int a3, .int a4] (prX D (tyX cI cJ cZ cR) (wX cI cJ cZ cR am gm t) sz st)) (qI r D (tyX cI cJ cZ cR) (wX cI cJ cZ cR am gm t') (va_A (wX cI cJ cZ cR am gm t) sz)) 0 0 (va_A (wX cI cJ cZ cR am gm t) sz) := by
  refine Met.ofW (cc := cX11_step) (maxL := 5) (ret := (some .int)) (by decide) rfl ?_
  intro p e s m args below meth c s₁ B hml hv
  obtain ⟨rfl, ⟨hsz, hP, hK, hD0⟩, hsx⟩ := hv
  have hx := B.exec
  have hb := B.bytes
  have hts := atoms_spec (ws := (.code yX11_step cX11_step 5 (some .int) :: wsAll)) B.pre
  have hta := fun w h => hts w (List.mem_cons_of_mem _ h)
  have hown : s.vm.findClass RX11 = some m.cls := findClass_of_methodNamed B.named
  have hlocks := B.notSynchronized
  subst hsz
  have hD := hD0.self (sz := s.heap.size)
  generalize hAe : va_A (wX cI cJ cZ cR am gm t) s.heap.size = A at hD ⊢
  have hA : ∀ q : Nat, s.heap.size ≤ q → A q := fun q h => by rw [← hAe]; exact Or.inr h
  have C0 : cxX p s m ([.ref (am 2011), .int a1, .int a2, .int a3, .int a4].toArray) meth c cX11_step RX11 5 (some .int) D (tyX cI cJ cZ cR) st A := ⟨⟨hx, hb, B.returns, hml, hown, hta, hlocks, hK, hA⟩, by rw [← hAe]; exact hsx⟩
  have hW : wl D A s (wX cI cJ cZ cR am gm t) s.heap [] := ⟨hP, hD, va_S.rf⟩
  have hl := lv_entry [.ref (am 2011), .int a1, .int a2, .int a3, .int a4] (n := 5) (Nat.le_of_ble_eq_true rfl)
  rw [lg_entry_eq]
  generalize (lg_sl [.ref (am 2011), .int a1, .int a2, .int a3, .int a4] ++ List.replicate (5 - (lg_sl [.ref (am 2011), .int a1, .int a2, .int a3, .int a4]).length) Slot.unset).toArray = ls at hl ⊢
  have hl : lv_has ls 5 [(0, .ref (am 2011)), (1, .int a1), (2, .int a2), (3, .int a3), (4, .int a4)] := hl
  unfold x11_step at ho
  refine lv_iload_n hx hb dX11_step_0 rfl (lv_at hl 1 rfl) ?_
  obtain ⟨q1, hc2, ho⟩ := bd_some ho
  refine bkZ C0.1 hW (runSX (As := [.int a1]) (rest := []) C0 hW (c_x11_noStep l _ t a1 (r := q1) hc2) cb_X11_X11_noStep_98 rfl rfl ⟨rfl, rfl⟩ ⟨Nat.le_of_ble_eq_true rfl, Nat.le_of_ble_eq_true rfl⟩ (Nat.le_of_ble_eq_true rfl) hl.1 dX11_step_1 ⟨Nat.le_of_ble_eq_true rfl, Nat.le_of_ble_eq_true rfl⟩) (fun z3 H locs hW => ?_)
  refine lv_if_ne (tgt := 18) hx hb dX11_step_4 (by decide) (fun c4 => ?_) (fun c4 => ?_)
  · replace ho := ite_f c4 ho
    refine lv_bipush (v := (-2 : Int32)) hx hb dX11_step_18 (by decide) ?_
    cases ho
    exact rtI C0.1 hW dX11_step_20
  · replace ho := ite_t c4 ho
    refine lv_iload_n hx hb dX11_step_7 rfl (lv_at hl 2 rfl) ?_
    refine lv_iconst (v := (0 : Int32)) hx hb dX11_step_8 (by decide) ?_
    refine lv_sipush (v := (1000 : Int32)) hx hb dX11_step_9 (by decide) ?_
    obtain ⟨q5, hc6, ho⟩ := bd_some ho
    refine bkZ C0.1 hW (runSX (As := [.int a2, .int (0 : Int32), .int (1000 : Int32)]) (rest := []) C0 hW (c_x11_outside l _ t a2 (0 : Int32) (1000 : Int32) (r := q5) hc6) cb_X11_X11_outside_102 rfl rfl ⟨rfl, rfl⟩ ⟨Nat.le_of_ble_eq_true rfl, Nat.le_of_ble_eq_true rfl⟩ (Nat.le_of_ble_eq_true rfl) hl.1 dX11_step_12 ⟨Nat.le_of_ble_eq_true rfl, Nat.le_of_ble_eq_true rfl⟩) (fun z7 H locs hW => ?_)
    refine lv_if_eq (tgt := 21) hx hb dX11_step_15 (by decide) (fun c8 => ?_) (fun c8 => ?_)
    · replace ho := ite_t c8 ho
      refine lv_iload_n hx hb dX11_step_21 rfl (lv_at hl 3 rfl) ?_
      refine lv_iconst (v := (1 : Int32)) hx hb dX11_step_22 (by decide) ?_
      refine lv_bipush (v := (50 : Int32)) hx hb dX11_step_23 (by decide) ?_
      obtain ⟨q9, hc10, ho⟩ := bd_some ho
      refine bkZ C0.1 hW (runSX (As := [.int a3, .int (1 : Int32), .int (50 : Int32)]) (rest := []) C0 hW (c_x11_outside l _ t a3 (1 : Int32) (50 : Int32) (r := q9) hc10) cb_X11_X11_outside_102 rfl rfl ⟨rfl, rfl⟩ ⟨Nat.le_of_ble_eq_true rfl, Nat.le_of_ble_eq_true rfl⟩ (Nat.le_of_ble_eq_true rfl) hl.1 dX11_step_25 ⟨Nat.le_of_ble_eq_true rfl, Nat.le_of_ble_eq_true rfl⟩) (fun z11 H locs hW => ?_)
      refine lv_if_ne (tgt := 43) hx hb dX11_step_28 (by decide) (fun c12 => ?_) (fun c12 => ?_)
      · replace ho := ite_f c12 ho
        refine lv_bipush (v := (-2 : Int32)) hx hb dX11_step_43 (by decide) ?_
        cases ho
        exact rtI C0.1 hW dX11_step_45
      · replace ho := ite_t c12 ho
        refine lv_iload hx hb dX11_step_31 (lv_at hl 4 rfl) ?_
        refine lv_iconst (v := (0 : Int32)) hx hb dX11_step_33 (by decide) ?_
        refine lv_sipush (v := (1000 : Int32)) hx hb dX11_step_34 (by decide) ?_
        obtain ⟨q13, hc14, ho⟩ := bd_some ho
        refine bkZ C0.1 hW (runSX (As := [.int a4, .int (0 : Int32), .int (1000 : Int32)]) (rest := []) C0 hW (c_x11_outside l _ t a4 (0 : Int32) (1000 : Int32) (r := q13) hc14) cb_X11_X11_outside_102 rfl rfl ⟨rfl, rfl⟩ ⟨Nat.le_of_ble_eq_true rfl, Nat.le_of_ble_eq_true rfl⟩ (Nat.le_of_ble_eq_true rfl) hl.1 dX11_step_37 ⟨Nat.le_of_ble_eq_true rfl, Nat.le_of_ble_eq_true rfl⟩) (fun z15 H locs hW => ?_)
        refine lv_if_eq (tgt := 46) hx hb dX11_step_40 (by decide) (fun c16 => ?_) (fun c16 => ?_)
        · replace ho := ite_t c16 ho
          refine lv_aload_n hx hb dX11_step_46 rfl (lv_at hl 0 rfl) ?_
          refine xGET_1100 C0 kw_591 hW dX11_step_47 ?_
          refine lv_iload_n hx hb dX11_step_50 rfl (lv_at hl 1 rfl) ?_
          refine lv_iconst (v := (0 : Int32)) hx hb dX11_step_51 (by decide) ?_
          refine lv_iload_n hx hb dX11_step_52 rfl (lv_at hl 2 rfl) ?_
          obtain ⟨q17, hc18, ho⟩ := bd_some ho
          refine bkV C0.1 hW (runVX (As := [.int a1, .int (0 : Int32), .int a2]) (rest := []) C0 hW (c_x5_put l _ t a1 (0 : Int32) a2 (t' := q17) hc18) cb_X11_X5_put_106 5 5 rfl rfl rfl rfl rfl ⟨rfl, rfl⟩ ⟨Nat.le_of_ble_eq_true rfl, Nat.le_of_ble_eq_true rfl⟩ (Nat.le_of_ble_eq_true rfl) hl.1 dX11_step_53 ⟨Nat.le_of_ble_eq_true rfl, Nat.le_of_ble_eq_true rfl⟩) (fun H locs hW => ?_)
          refine lv_aload_n hx hb dX11_step_56 rfl (lv_at hl 0 rfl) ?_
          refine xGET_1100 C0 kw_591 hW dX11_step_57 ?_
          refine lv_iload_n hx hb dX11_step_60 rfl (lv_at hl 1 rfl) ?_
          refine lv_iconst (v := (1 : Int32)) hx hb dX11_step_61 (by decide) ?_
          refine lv_iload_n hx hb dX11_step_62 rfl (lv_at hl 3 rfl) ?_
          obtain ⟨q19, hc20, ho⟩ := bd_some ho
          refine bkV C0.1 hW (runVX (As := [.int a1, .int (1 : Int32), .int a3]) (rest := []) C0 hW (c_x5_put l _ q17 a1 (1 : Int32) a3 (t' := q19) hc20) cb_X11_X5_put_106 5 5 rfl rfl rfl rfl rfl ⟨rfl, rfl⟩ ⟨Nat.le_of_ble_eq_true rfl, Nat.le_of_ble_eq_true rfl⟩ (Nat.le_of_ble_eq_true rfl) hl.1 dX11_step_63 ⟨Nat.le_of_ble_eq_true rfl, Nat.le_of_ble_eq_true rfl⟩) (fun H locs hW => ?_)
          refine lv_aload_n hx hb dX11_step_66 rfl (lv_at hl 0 rfl) ?_
          refine xGET_1100 C0 kw_591 hW dX11_step_67 ?_
          refine lv_iload_n hx hb dX11_step_70 rfl (lv_at hl 1 rfl) ?_
          refine lv_iconst (v := (2 : Int32)) hx hb dX11_step_71 (by decide) ?_
          refine lv_iload hx hb dX11_step_72 (lv_at hl 4 rfl) ?_
          obtain ⟨q21, hc22, ho⟩ := bd_some ho
          refine bkV C0.1 hW (runVX (As := [.int a1, .int (2 : Int32), .int a4]) (rest := []) C0 hW (c_x5_put l _ q19 a1 (2 : Int32) a4 (t' := q21) hc22) cb_X11_X5_put_106 5 5 rfl rfl rfl rfl rfl ⟨rfl, rfl⟩ ⟨Nat.le_of_ble_eq_true rfl, Nat.le_of_ble_eq_true rfl⟩ (Nat.le_of_ble_eq_true rfl) hl.1 dX11_step_74 ⟨Nat.le_of_ble_eq_true rfl, Nat.le_of_ble_eq_true rfl⟩) (fun H locs hW => ?_)
          refine lv_aload_n hx hb dX11_step_77 rfl (lv_at hl 0 rfl) ?_
          refine xGET_1107 C0 kw_598 hW dX11_step_78 ?_
          obtain ⟨q23, hc24, ho⟩ := bd_some ho
          refine bkV C0.1 hW (runVX (As := []) (rest := []) C0 hW (c_x4_forgetFront l _ q21 (t' := q23) hc24) cb_X11_X4_forgetFront_110 4 4 rfl rfl rfl rfl rfl ⟨rfl, rfl⟩ ⟨Nat.le_of_ble_eq_true rfl, Nat.le_of_ble_eq_true rfl⟩ (Nat.le_of_ble_eq_true rfl) hl.1 dX11_step_81 ⟨Nat.le_of_ble_eq_true rfl, Nat.le_of_ble_eq_true rfl⟩) (fun H locs hW => ?_)
          refine lv_iconst (v := (1 : Int32)) hx hb dX11_step_84 (by decide) ?_
          cases ho
          exact rtI C0.1 hW dX11_step_85
        · replace ho := ite_f c16 ho
          refine lv_bipush (v := (-2 : Int32)) hx hb dX11_step_43 (by decide) ?_
          cases ho
          exact rtI C0.1 hW dX11_step_45
    · replace ho := ite_f c8 ho
      refine lv_bipush (v := (-2 : Int32)) hx hb dX11_step_18 (by decide) ?_
      cases ho
      exact rtI C0.1 hW dX11_step_20
noncomputable def x11_trace (t : St) (a1 : Int32) (a2 : Int32) (a3 : Int32) : Option (Int32 × St) :=
  (x11_noStep t a1).bind (fun q1 => if q1 = 0 then ((x11_outside t a2 (0 : Int32) (255 : Int32)).bind (fun q5 => if q5 = 0 then ((x11_outside t a3 (0 : Int32) (7 : Int32)).bind (fun q9 => if q9 = 0 then ((x5_put t a1 (3 : Int32) a2).bind (fun q13 => (x5_put q13 a1 (4 : Int32) a3).bind (fun q15 => some ((1 : Int32), q15)))) else (some ((-2 : Int32), t)))) else (some ((-2 : Int32), t)))) else (some ((-2 : Int32), t)))
theorem mm_x11_trace (t : St) (a1 : Int32) (a2 : Int32) (a3 : Int32) : MR (x11_trace t a1 a2 a3) t (fun (a : Int32 × St) => a.2) := by
  unfold x11_trace
  exact MR_bindn (fun q1 => MR_ite (MR_bindn (fun q5 => MR_ite (MR_bindn (fun q9 => MR_ite (MR_bind (mm_x5_put t a1 (3 : Int32) a2) (fun q13 hq13 => MR_bind (mm_x5_put q13 a1 (4 : Int32) a3) (fun q15 hq15 => MR_some (mle.trans hq13 hq15)))) (MR_some mle.rfl))) (MR_some mle.rfl))) (MR_some mle.rfl))
set_option maxHeartbeats 4000000 in
set_option maxRecDepth 100000 in
theorem c_x11_trace (l : Launch) {D : va_G} {cI cJ cZ cR : ClassId} {am gm : Nat → Nat} {st : Nat} (sz : Nat) (t : St) (a1 : Int32) (a2 : Int32) (a3 : Int32) {r : Int32} {t' : St} (ho : x11_trace t a1 a2 a3 = some (r, t')) : Met l yX11_trace (.code yX11_trace cX11_trace 4 (some .int) :: wsAll) (rmN 2 42) (va_Pc [.ref (am 2011), .int a1, .int a2, .int a3] (prX D (tyX cI cJ cZ cR) (wX cI cJ cZ cR am gm t) sz st)) (qI r D (tyX cI cJ cZ cR) (wX cI cJ cZ cR am gm t') (va_A (wX cI cJ cZ cR am gm t) sz)) 0 0 (va_A (wX cI cJ cZ cR am gm t) sz) := by
  refine Met.ofW (cc := cX11_trace) (maxL := 4) (ret := (some .int)) (by decide) rfl ?_
  intro p e s m args below meth c s₁ B hml hv
  obtain ⟨rfl, ⟨hsz, hP, hK, hD0⟩, hsx⟩ := hv
  have hx := B.exec
  have hb := B.bytes
  have hts := atoms_spec (ws := (.code yX11_trace cX11_trace 4 (some .int) :: wsAll)) B.pre
  have hta := fun w h => hts w (List.mem_cons_of_mem _ h)
  have hown : s.vm.findClass RX11 = some m.cls := findClass_of_methodNamed B.named
  have hlocks := B.notSynchronized
  subst hsz
  have hD := hD0.self (sz := s.heap.size)
  generalize hAe : va_A (wX cI cJ cZ cR am gm t) s.heap.size = A at hD ⊢
  have hA : ∀ q : Nat, s.heap.size ≤ q → A q := fun q h => by rw [← hAe]; exact Or.inr h
  have C0 : cxX p s m ([.ref (am 2011), .int a1, .int a2, .int a3].toArray) meth c cX11_trace RX11 4 (some .int) D (tyX cI cJ cZ cR) st A := ⟨⟨hx, hb, B.returns, hml, hown, hta, hlocks, hK, hA⟩, by rw [← hAe]; exact hsx⟩
  have hW : wl D A s (wX cI cJ cZ cR am gm t) s.heap [] := ⟨hP, hD, va_S.rf⟩
  have hl := lv_entry [.ref (am 2011), .int a1, .int a2, .int a3] (n := 4) (Nat.le_of_ble_eq_true rfl)
  rw [lg_entry_eq]
  generalize (lg_sl [.ref (am 2011), .int a1, .int a2, .int a3] ++ List.replicate (4 - (lg_sl [.ref (am 2011), .int a1, .int a2, .int a3]).length) Slot.unset).toArray = ls at hl ⊢
  have hl : lv_has ls 4 [(0, .ref (am 2011)), (1, .int a1), (2, .int a2), (3, .int a3)] := hl
  unfold x11_trace at ho
  refine lv_iload_n hx hb dX11_trace_0 rfl (lv_at hl 1 rfl) ?_
  obtain ⟨q1, hc2, ho⟩ := bd_some ho
  refine bkZ C0.1 hW (runSX (As := [.int a1]) (rest := []) C0 hW (c_x11_noStep l _ t a1 (r := q1) hc2) cb_X11_X11_noStep_98 rfl rfl ⟨rfl, rfl⟩ ⟨Nat.le_of_ble_eq_true rfl, Nat.le_of_ble_eq_true rfl⟩ (Nat.le_of_ble_eq_true rfl) hl.1 dX11_trace_1 ⟨Nat.le_of_ble_eq_true rfl, Nat.le_of_ble_eq_true rfl⟩) (fun z3 H locs hW => ?_)
  refine lv_if_ne (tgt := 28) hx hb dX11_trace_4 (by decide) (fun c4 => ?_) (fun c4 => ?_)
  · replace ho := ite_f c4 ho
    refine lv_bipush (v := (-2 : Int32)) hx hb dX11_trace_28 (by decide) ?_
    cases ho
    exact rtI C0.1 hW dX11_trace_30
  · replace ho := ite_t c4 ho
    refine lv_iload_n hx hb dX11_trace_7 rfl (lv_at hl 2 rfl) ?_
    refine lv_iconst (v := (0 : Int32)) hx hb dX11_trace_8 (by decide) ?_
    refine lv_sipush (v := (255 : Int32)) hx hb dX11_trace_9 (by decide) ?_
    obtain ⟨q5, hc6, ho⟩ := bd_some ho
    refine bkZ C0.1 hW (runSX (As := [.int a2, .int (0 : Int32), .int (255 : Int32)]) (rest := []) C0 hW (c_x11_outside l _ t a2 (0 : Int32) (255 : Int32) (r := q5) hc6) cb_X11_X11_outside_102 rfl rfl ⟨rfl, rfl⟩ ⟨Nat.le_of_ble_eq_true rfl, Nat.le_of_ble_eq_true rfl⟩ (Nat.le_of_ble_eq_true rfl) hl.1 dX11_trace_12 ⟨Nat.le_of_ble_eq_true rfl, Nat.le_of_ble_eq_true rfl⟩) (fun z7 H locs hW => ?_)
    refine lv_if_ne (tgt := 28) hx hb dX11_trace_15 (by decide) (fun c8 => ?_) (fun c8 => ?_)
    · replace ho := ite_f c8 ho
      refine lv_bipush (v := (-2 : Int32)) hx hb dX11_trace_28 (by decide) ?_
      cases ho
      exact rtI C0.1 hW dX11_trace_30
    · replace ho := ite_t c8 ho
      refine lv_iload_n hx hb dX11_trace_18 rfl (lv_at hl 3 rfl) ?_
      refine lv_iconst (v := (0 : Int32)) hx hb dX11_trace_19 (by decide) ?_
      refine lv_bipush (v := (7 : Int32)) hx hb dX11_trace_20 (by decide) ?_
      obtain ⟨q9, hc10, ho⟩ := bd_some ho
      refine bkZ C0.1 hW (runSX (As := [.int a3, .int (0 : Int32), .int (7 : Int32)]) (rest := []) C0 hW (c_x11_outside l _ t a3 (0 : Int32) (7 : Int32) (r := q9) hc10) cb_X11_X11_outside_102 rfl rfl ⟨rfl, rfl⟩ ⟨Nat.le_of_ble_eq_true rfl, Nat.le_of_ble_eq_true rfl⟩ (Nat.le_of_ble_eq_true rfl) hl.1 dX11_trace_22 ⟨Nat.le_of_ble_eq_true rfl, Nat.le_of_ble_eq_true rfl⟩) (fun z11 H locs hW => ?_)
      refine lv_if_eq (tgt := 31) hx hb dX11_trace_25 (by decide) (fun c12 => ?_) (fun c12 => ?_)
      · replace ho := ite_t c12 ho
        refine lv_aload_n hx hb dX11_trace_31 rfl (lv_at hl 0 rfl) ?_
        refine xGET_1100 C0 kw_591 hW dX11_trace_32 ?_
        refine lv_iload_n hx hb dX11_trace_35 rfl (lv_at hl 1 rfl) ?_
        refine lv_iconst (v := (3 : Int32)) hx hb dX11_trace_36 (by decide) ?_
        refine lv_iload_n hx hb dX11_trace_37 rfl (lv_at hl 2 rfl) ?_
        obtain ⟨q13, hc14, ho⟩ := bd_some ho
        refine bkV C0.1 hW (runVX (As := [.int a1, .int (3 : Int32), .int a2]) (rest := []) C0 hW (c_x5_put l _ t a1 (3 : Int32) a2 (t' := q13) hc14) cb_X11_X5_put_106 5 5 rfl rfl rfl rfl rfl ⟨rfl, rfl⟩ ⟨Nat.le_of_ble_eq_true rfl, Nat.le_of_ble_eq_true rfl⟩ (Nat.le_of_ble_eq_true rfl) hl.1 dX11_trace_38 ⟨Nat.le_of_ble_eq_true rfl, Nat.le_of_ble_eq_true rfl⟩) (fun H locs hW => ?_)
        refine lv_aload_n hx hb dX11_trace_41 rfl (lv_at hl 0 rfl) ?_
        refine xGET_1100 C0 kw_591 hW dX11_trace_42 ?_
        refine lv_iload_n hx hb dX11_trace_45 rfl (lv_at hl 1 rfl) ?_
        refine lv_iconst (v := (4 : Int32)) hx hb dX11_trace_46 (by decide) ?_
        refine lv_iload_n hx hb dX11_trace_47 rfl (lv_at hl 3 rfl) ?_
        obtain ⟨q15, hc16, ho⟩ := bd_some ho
        refine bkV C0.1 hW (runVX (As := [.int a1, .int (4 : Int32), .int a3]) (rest := []) C0 hW (c_x5_put l _ q13 a1 (4 : Int32) a3 (t' := q15) hc16) cb_X11_X5_put_106 5 5 rfl rfl rfl rfl rfl ⟨rfl, rfl⟩ ⟨Nat.le_of_ble_eq_true rfl, Nat.le_of_ble_eq_true rfl⟩ (Nat.le_of_ble_eq_true rfl) hl.1 dX11_trace_48 ⟨Nat.le_of_ble_eq_true rfl, Nat.le_of_ble_eq_true rfl⟩) (fun H locs hW => ?_)
        refine lv_iconst (v := (1 : Int32)) hx hb dX11_trace_51 (by decide) ?_
        cases ho
        exact rtI C0.1 hW dX11_trace_52
      · replace ho := ite_f c12 ho
        refine lv_bipush (v := (-2 : Int32)) hx hb dX11_trace_28 (by decide) ?_
        cases ho
        exact rtI C0.1 hW dX11_trace_30
noncomputable def x5_get (t : St) (a1 : Int32) (a2 : Int32) : Option (Int32) :=
  gd ((a1 * (5 : Int32)) + a2) (gN t 500) (some (gA t 500 (((a1 * (5 : Int32)) + a2)).toNatClampNeg))
set_option maxHeartbeats 4000000 in
set_option maxRecDepth 100000 in
theorem c_x5_get (l : Launch) {D : va_G} {cI cJ cZ cR : ClassId} {am gm : Nat → Nat} {st : Nat} (sz : Nat) (t : St) (a1 : Int32) (a2 : Int32) {r : Int32} (ho : x5_get t a1 a2 = some r) : Met l yX5_get (.code yX5_get cX5_get 3 (some .int) :: wsAll) (rmN 0 0) (va_Pc [.ref (am 2005), .int a1, .int a2] (prX D (tyX cI cJ cZ cR) (wX cI cJ cZ cR am gm t) sz st)) (qI r D (tyX cI cJ cZ cR) (wX cI cJ cZ cR am gm t) (va_A (wX cI cJ cZ cR am gm t) sz)) 0 0 (va_A (wX cI cJ cZ cR am gm t) sz) := by
  refine Met.ofW (cc := cX5_get) (maxL := 3) (ret := (some .int)) (by decide) rfl ?_
  intro p e s m args below meth c s₁ B hml hv
  obtain ⟨rfl, ⟨hsz, hP, hK, hD0⟩, hsx⟩ := hv
  have hx := B.exec
  have hb := B.bytes
  have hts := atoms_spec (ws := (.code yX5_get cX5_get 3 (some .int) :: wsAll)) B.pre
  have hta := fun w h => hts w (List.mem_cons_of_mem _ h)
  have hown : s.vm.findClass RX5 = some m.cls := findClass_of_methodNamed B.named
  have hlocks := B.notSynchronized
  subst hsz
  have hD := hD0.self (sz := s.heap.size)
  generalize hAe : va_A (wX cI cJ cZ cR am gm t) s.heap.size = A at hD ⊢
  have hA : ∀ q : Nat, s.heap.size ≤ q → A q := fun q h => by rw [← hAe]; exact Or.inr h
  have C0 : cxX p s m ([.ref (am 2005), .int a1, .int a2].toArray) meth c cX5_get RX5 3 (some .int) D (tyX cI cJ cZ cR) st A := ⟨⟨hx, hb, B.returns, hml, hown, hta, hlocks, hK, hA⟩, by rw [← hAe]; exact hsx⟩
  have hW : wl D A s (wX cI cJ cZ cR am gm t) s.heap [] := ⟨hP, hD, va_S.rf⟩
  have hl := lv_entry [.ref (am 2005), .int a1, .int a2] (n := 3) (Nat.le_of_ble_eq_true rfl)
  rw [lg_entry_eq]
  generalize (lg_sl [.ref (am 2005), .int a1, .int a2] ++ List.replicate (3 - (lg_sl [.ref (am 2005), .int a1, .int a2]).length) Slot.unset).toArray = ls at hl ⊢
  have hl : lv_has ls 3 [(0, .ref (am 2005)), (1, .int a1), (2, .int a2)] := hl
  unfold x5_get at ho
  refine lv_aload_n hx hb dX5_get_0 rfl (lv_at hl 0 rfl) ?_
  refine xGET_500 C0 kw_156 hW dX5_get_1 ?_
  refine lv_iload_n hx hb dX5_get_4 rfl (lv_at hl 1 rfl) ?_
  refine lv_iconst (v := (5 : Int32)) hx hb dX5_get_5 (by decide) ?_
  refine lv_imul hx hb dX5_get_6 ?_
  refine lv_iload_n hx hb dX5_get_7 rfl (lv_at hl 2 rfl) ?_
  refine lv_iadd hx hb dX5_get_8 ?_
  obtain ⟨g1, ho⟩ := gd_some ho
  refine xLD_500 C0 hW g1 dX5_get_9 ?_
  cases ho
  exact rtI C0.1 hW dX5_get_10
noncomputable def x11_about (t : St) (a1 : Int32) (a2 : Int32) : Option (Int32) :=
  (x11_noStep t a1).bind (fun q1 => if q1 = 0 then ((x11_outside t a2 (0 : Int32) (4 : Int32)).bind (fun q5 => if q5 = 0 then ((x5_get t a1 a2).bind (fun q9 => some q9)) else (some (-2 : Int32)))) else (some (-2 : Int32)))
set_option maxHeartbeats 4000000 in
set_option maxRecDepth 100000 in
theorem c_x11_about (l : Launch) {D : va_G} {cI cJ cZ cR : ClassId} {am gm : Nat → Nat} {st : Nat} (sz : Nat) (t : St) (a1 : Int32) (a2 : Int32) {r : Int32} (ho : x11_about t a1 a2 = some r) : Met l yX11_about (.code yX11_about cX11_about 3 (some .int) :: wsAll) (rmN 2 42) (va_Pc [.ref (am 2011), .int a1, .int a2] (prX D (tyX cI cJ cZ cR) (wX cI cJ cZ cR am gm t) sz st)) (qI r D (tyX cI cJ cZ cR) (wX cI cJ cZ cR am gm t) (va_A (wX cI cJ cZ cR am gm t) sz)) 0 0 (va_A (wX cI cJ cZ cR am gm t) sz) := by
  refine Met.ofW (cc := cX11_about) (maxL := 3) (ret := (some .int)) (by decide) rfl ?_
  intro p e s m args below meth c s₁ B hml hv
  obtain ⟨rfl, ⟨hsz, hP, hK, hD0⟩, hsx⟩ := hv
  have hx := B.exec
  have hb := B.bytes
  have hts := atoms_spec (ws := (.code yX11_about cX11_about 3 (some .int) :: wsAll)) B.pre
  have hta := fun w h => hts w (List.mem_cons_of_mem _ h)
  have hown : s.vm.findClass RX11 = some m.cls := findClass_of_methodNamed B.named
  have hlocks := B.notSynchronized
  subst hsz
  have hD := hD0.self (sz := s.heap.size)
  generalize hAe : va_A (wX cI cJ cZ cR am gm t) s.heap.size = A at hD ⊢
  have hA : ∀ q : Nat, s.heap.size ≤ q → A q := fun q h => by rw [← hAe]; exact Or.inr h
  have C0 : cxX p s m ([.ref (am 2011), .int a1, .int a2].toArray) meth c cX11_about RX11 3 (some .int) D (tyX cI cJ cZ cR) st A := ⟨⟨hx, hb, B.returns, hml, hown, hta, hlocks, hK, hA⟩, by rw [← hAe]; exact hsx⟩
  have hW : wl D A s (wX cI cJ cZ cR am gm t) s.heap [] := ⟨hP, hD, va_S.rf⟩
  have hl := lv_entry [.ref (am 2011), .int a1, .int a2] (n := 3) (Nat.le_of_ble_eq_true rfl)
  rw [lg_entry_eq]
  generalize (lg_sl [.ref (am 2011), .int a1, .int a2] ++ List.replicate (3 - (lg_sl [.ref (am 2011), .int a1, .int a2]).length) Slot.unset).toArray = ls at hl ⊢
  have hl : lv_has ls 3 [(0, .ref (am 2011)), (1, .int a1), (2, .int a2)] := hl
  unfold x11_about at ho
  refine lv_iload_n hx hb dX11_about_0 rfl (lv_at hl 1 rfl) ?_
  obtain ⟨q1, hc2, ho⟩ := bd_some ho
  refine bkZ C0.1 hW (runSX (As := [.int a1]) (rest := []) C0 hW (c_x11_noStep l _ t a1 (r := q1) hc2) cb_X11_X11_noStep_98 rfl rfl ⟨rfl, rfl⟩ ⟨Nat.le_of_ble_eq_true rfl, Nat.le_of_ble_eq_true rfl⟩ (Nat.le_of_ble_eq_true rfl) hl.1 dX11_about_1 ⟨Nat.le_of_ble_eq_true rfl, Nat.le_of_ble_eq_true rfl⟩) (fun z3 H locs hW => ?_)
  refine lv_if_ne (tgt := 16) hx hb dX11_about_4 (by decide) (fun c4 => ?_) (fun c4 => ?_)
  · replace ho := ite_f c4 ho
    refine lv_bipush (v := (-2 : Int32)) hx hb dX11_about_16 (by decide) ?_
    cases ho
    exact rtI C0.1 hW dX11_about_18
  · replace ho := ite_t c4 ho
    refine lv_iload_n hx hb dX11_about_7 rfl (lv_at hl 2 rfl) ?_
    refine lv_iconst (v := (0 : Int32)) hx hb dX11_about_8 (by decide) ?_
    refine lv_iconst (v := (4 : Int32)) hx hb dX11_about_9 (by decide) ?_
    obtain ⟨q5, hc6, ho⟩ := bd_some ho
    refine bkZ C0.1 hW (runSX (As := [.int a2, .int (0 : Int32), .int (4 : Int32)]) (rest := []) C0 hW (c_x11_outside l _ t a2 (0 : Int32) (4 : Int32) (r := q5) hc6) cb_X11_X11_outside_102 rfl rfl ⟨rfl, rfl⟩ ⟨Nat.le_of_ble_eq_true rfl, Nat.le_of_ble_eq_true rfl⟩ (Nat.le_of_ble_eq_true rfl) hl.1 dX11_about_10 ⟨Nat.le_of_ble_eq_true rfl, Nat.le_of_ble_eq_true rfl⟩) (fun z7 H locs hW => ?_)
    refine lv_if_eq (tgt := 19) hx hb dX11_about_13 (by decide) (fun c8 => ?_) (fun c8 => ?_)
    · replace ho := ite_t c8 ho
      refine lv_aload_n hx hb dX11_about_19 rfl (lv_at hl 0 rfl) ?_
      refine xGET_1100 C0 kw_591 hW dX11_about_20 ?_
      refine lv_iload_n hx hb dX11_about_23 rfl (lv_at hl 1 rfl) ?_
      refine lv_iload_n hx hb dX11_about_24 rfl (lv_at hl 2 rfl) ?_
      obtain ⟨q9, hc10, ho⟩ := bd_some ho
      refine bkI C0.1 hW (runVX (As := [.int a1, .int a2]) (rest := []) C0 hW (c_x5_get l _ t a1 a2 (r := q9) hc10) cb_X11_X5_get_113 5 5 rfl rfl rfl rfl rfl ⟨rfl, rfl⟩ ⟨Nat.le_of_ble_eq_true rfl, Nat.le_of_ble_eq_true rfl⟩ (Nat.le_of_ble_eq_true rfl) hl.1 dX11_about_25 ⟨Nat.le_of_ble_eq_true rfl, Nat.le_of_ble_eq_true rfl⟩) (fun H locs hW => ?_)
      cases ho
      exact rtI C0.1 hW dX11_about_28
    · replace ho := ite_f c8 ho
      refine lv_bipush (v := (-2 : Int32)) hx hb dX11_about_16 (by decide) ?_
      cases ho
      exact rtI C0.1 hW dX11_about_18
noncomputable def x6_append (t : St) (a1 : Int32) : Option (Int32 × St) :=
  if (gI t 601) < (80 : Int32) then (gd (gI t 601) (gN t 600) (nm (sA t 600 (gI t 601) a1) (fun t3 : St => nm (sI t3 601 ((gI t3 601) + (1 : Int32))) (fun t4 : St => some ((1 : Int32), t4))))) else (some ((0 : Int32), t))
theorem mm_x6_append (t : St) (a1 : Int32) : MR (x6_append t a1) t (fun (a : Int32 × St) => a.2) := by
  unfold x6_append
  exact MR_ite (MR_gd (MR_nmS mle_sA (fun t3 ht3 => MR_nmS mle_sI (fun t4 ht4 => MR_some (mle.trans ht3 ht4))))) (MR_some mle.rfl)
set_option maxHeartbeats 4000000 in
set_option maxRecDepth 100000 in
theorem c_x6_append (l : Launch) {D : va_G} {cI cJ cZ cR : ClassId} {am gm : Nat → Nat} {st : Nat} (sz : Nat) (t : St) (a1 : Int32) {r : Int32} {t' : St} (ho : x6_append t a1 = some (r, t')) : Met l yX6_append (.code yX6_append cX6_append 2 (some .boolean) :: wsAll) (rmN 0 0) (va_Pc [.ref (am 2006), .int a1] (prX D (tyX cI cJ cZ cR) (wX cI cJ cZ cR am gm t) sz st)) (qZ r D (tyX cI cJ cZ cR) (wX cI cJ cZ cR am gm t') (va_A (wX cI cJ cZ cR am gm t) sz)) 0 0 (va_A (wX cI cJ cZ cR am gm t) sz) := by
  refine Met.ofW (cc := cX6_append) (maxL := 2) (ret := (some .boolean)) (by decide) rfl ?_
  intro p e s m args below meth c s₁ B hml hv
  obtain ⟨rfl, ⟨hsz, hP, hK, hD0⟩, hsx⟩ := hv
  have hx := B.exec
  have hb := B.bytes
  have hts := atoms_spec (ws := (.code yX6_append cX6_append 2 (some .boolean) :: wsAll)) B.pre
  have hta := fun w h => hts w (List.mem_cons_of_mem _ h)
  have hown : s.vm.findClass RX6 = some m.cls := findClass_of_methodNamed B.named
  have hlocks := B.notSynchronized
  subst hsz
  have hD := hD0.self (sz := s.heap.size)
  generalize hAe : va_A (wX cI cJ cZ cR am gm t) s.heap.size = A at hD ⊢
  have hA : ∀ q : Nat, s.heap.size ≤ q → A q := fun q h => by rw [← hAe]; exact Or.inr h
  have C0 : cxX p s m ([.ref (am 2006), .int a1].toArray) meth c cX6_append RX6 2 (some .boolean) D (tyX cI cJ cZ cR) st A := ⟨⟨hx, hb, B.returns, hml, hown, hta, hlocks, hK, hA⟩, by rw [← hAe]; exact hsx⟩
  have hW : wl D A s (wX cI cJ cZ cR am gm t) s.heap [] := ⟨hP, hD, va_S.rf⟩
  have hl := lv_entry [.ref (am 2006), .int a1] (n := 2) (Nat.le_of_ble_eq_true rfl)
  rw [lg_entry_eq]
  generalize (lg_sl [.ref (am 2006), .int a1] ++ List.replicate (2 - (lg_sl [.ref (am 2006), .int a1]).length) Slot.unset).toArray = ls at hl ⊢
  have hl : lv_has ls 2 [(0, .ref (am 2006)), (1, .int a1)] := hl
  unfold x6_append at ho
  refine lv_aload_n hx hb dX6_append_0 rfl (lv_at hl 0 rfl) ?_
  refine xGET_601 C0 kw_180 hW dX6_append_1 ?_
  refine lv_bipush (v := (80 : Int32)) hx hb dX6_append_4 (by decide) ?_
  refine lv_icmp_lt (tgt := 11) hx hb dX6_append_6 (by decide) (fun c1 => ?_) (fun c1 => ?_)
  · replace ho := ite_t c1 ho
    refine lv_aload_n hx hb dX6_append_11 rfl (lv_at hl 0 rfl) ?_
    refine xGET_600 C0 kw_178 hW dX6_append_12 ?_
    refine lv_aload_n hx hb dX6_append_15 rfl (lv_at hl 0 rfl) ?_
    refine xGET_601 C0 kw_180 hW dX6_append_16 ?_
    refine lv_iload_n hx hb dX6_append_19 rfl (lv_at hl 1 rfl) ?_
    obtain ⟨g2, ho⟩ := gd_some ho
    refine xST_600 C0 hW g2 dX6_append_20 (fun H locs hW => ?_)
    obtain ⟨t3, ho, hW⟩ := nm_w (P := fun t => wl D A s (wX cI cJ cZ cR am gm t) H locs) ho hW
    refine lv_aload_n hx hb dX6_append_21 rfl (lv_at hl 0 rfl) ?_
    refine lv_dup hx hb dX6_append_22 rfl ?_
    refine xGET_601 C0 kw_180 hW dX6_append_23 ?_
    refine lv_iconst (v := (1 : Int32)) hx hb dX6_append_26 (by decide) ?_
    refine lv_iadd hx hb dX6_append_27 ?_
    refine xPUT_601 C0 kw_180 hW dX6_append_28 (fun H locs hW => ?_)
    obtain ⟨t4, ho, hW⟩ := nm_w (P := fun t => wl D A s (wX cI cJ cZ cR am gm t) H locs) ho hW
    refine lv_iconst (v := (1 : Int32)) hx hb dX6_append_31 (by decide) ?_
    cases ho
    exact rtZ C0.1 hW (Or.inr (rfl : (1 : Int32) = 1)) dX6_append_32
  · replace ho := ite_f c1 ho
    refine lv_iconst (v := (0 : Int32)) hx hb dX6_append_9 (by decide) ?_
    cases ho
    exact rtZ C0.1 hW (Or.inl (rfl : (0 : Int32) = 0)) dX6_append_10
noncomputable def x11_write (t : St) (a1 : Int32) : Option (Int32 × St) :=
  (x11_outside t a1 (0 : Int32) (127 : Int32)).bind (fun q1 => if q1 = 0 then ((x6_append t a1).bind (fun q5 => if q5.1 = 0 then (some ((-4 : Int32), q5.2)) else (some ((gI q5.2 601), q5.2)))) else (some ((-2 : Int32), t)))
theorem mm_x11_write (t : St) (a1 : Int32) : MR (x11_write t a1) t (fun (a : Int32 × St) => a.2) := by
  unfold x11_write
  exact MR_bindn (fun q1 => MR_ite (MR_bind (mm_x6_append t a1) (fun q5 hq5 => MR_ite (MR_some hq5) (MR_some hq5))) (MR_some mle.rfl))
set_option maxHeartbeats 4000000 in
set_option maxRecDepth 100000 in
theorem c_x11_write (l : Launch) {D : va_G} {cI cJ cZ cR : ClassId} {am gm : Nat → Nat} {st : Nat} (sz : Nat) (t : St) (a1 : Int32) {r : Int32} {t' : St} (ho : x11_write t a1 = some (r, t')) : Met l yX11_write (.code yX11_write cX11_write 2 (some .int) :: wsAll) (rmN 1 22) (va_Pc [.ref (am 2011), .int a1] (prX D (tyX cI cJ cZ cR) (wX cI cJ cZ cR am gm t) sz st)) (qI r D (tyX cI cJ cZ cR) (wX cI cJ cZ cR am gm t') (va_A (wX cI cJ cZ cR am gm t) sz)) 0 0 (va_A (wX cI cJ cZ cR am gm t) sz) := by
  refine Met.ofW (cc := cX11_write) (maxL := 2) (ret := (some .int)) (by decide) rfl ?_
  intro p e s m args below meth c s₁ B hml hv
  obtain ⟨rfl, ⟨hsz, hP, hK, hD0⟩, hsx⟩ := hv
  have hx := B.exec
  have hb := B.bytes
  have hts := atoms_spec (ws := (.code yX11_write cX11_write 2 (some .int) :: wsAll)) B.pre
  have hta := fun w h => hts w (List.mem_cons_of_mem _ h)
  have hown : s.vm.findClass RX11 = some m.cls := findClass_of_methodNamed B.named
  have hlocks := B.notSynchronized
  subst hsz
  have hD := hD0.self (sz := s.heap.size)
  generalize hAe : va_A (wX cI cJ cZ cR am gm t) s.heap.size = A at hD ⊢
  have hA : ∀ q : Nat, s.heap.size ≤ q → A q := fun q h => by rw [← hAe]; exact Or.inr h
  have C0 : cxX p s m ([.ref (am 2011), .int a1].toArray) meth c cX11_write RX11 2 (some .int) D (tyX cI cJ cZ cR) st A := ⟨⟨hx, hb, B.returns, hml, hown, hta, hlocks, hK, hA⟩, by rw [← hAe]; exact hsx⟩
  have hW : wl D A s (wX cI cJ cZ cR am gm t) s.heap [] := ⟨hP, hD, va_S.rf⟩
  have hl := lv_entry [.ref (am 2011), .int a1] (n := 2) (Nat.le_of_ble_eq_true rfl)
  rw [lg_entry_eq]
  generalize (lg_sl [.ref (am 2011), .int a1] ++ List.replicate (2 - (lg_sl [.ref (am 2011), .int a1]).length) Slot.unset).toArray = ls at hl ⊢
  have hl : lv_has ls 2 [(0, .ref (am 2011)), (1, .int a1)] := hl
  unfold x11_write at ho
  refine lv_iload_n hx hb dX11_write_0 rfl (lv_at hl 1 rfl) ?_
  refine lv_iconst (v := (0 : Int32)) hx hb dX11_write_1 (by decide) ?_
  refine lv_bipush (v := (127 : Int32)) hx hb dX11_write_2 (by decide) ?_
  obtain ⟨q1, hc2, ho⟩ := bd_some ho
  refine bkZ C0.1 hW (runSX (As := [.int a1, .int (0 : Int32), .int (127 : Int32)]) (rest := []) C0 hW (c_x11_outside l _ t a1 (0 : Int32) (127 : Int32) (r := q1) hc2) cb_X11_X11_outside_102 rfl rfl ⟨rfl, rfl⟩ ⟨Nat.le_of_ble_eq_true rfl, Nat.le_of_ble_eq_true rfl⟩ (Nat.le_of_ble_eq_true rfl) hl.1 dX11_write_4 ⟨Nat.le_of_ble_eq_true rfl, Nat.le_of_ble_eq_true rfl⟩) (fun z3 H locs hW => ?_)
  refine lv_if_eq (tgt := 13) hx hb dX11_write_7 (by decide) (fun c4 => ?_) (fun c4 => ?_)
  · replace ho := ite_t c4 ho
    refine lv_aload_n hx hb dX11_write_13 rfl (lv_at hl 0 rfl) ?_
    refine xGET_1101 C0 kw_592 hW dX11_write_14 ?_
    refine lv_iload_n hx hb dX11_write_17 rfl (lv_at hl 1 rfl) ?_
    obtain ⟨q5, hc6, ho⟩ := bd_some ho
    refine bkZ C0.1 hW (runVX (As := [.int a1]) (rest := []) C0 hW (c_x6_append l _ t a1 (r := q5.1) (t' := q5.2) hc6) cb_X11_X6_append_117 6 6 rfl rfl rfl rfl rfl ⟨rfl, rfl⟩ ⟨Nat.le_of_ble_eq_true rfl, Nat.le_of_ble_eq_true rfl⟩ (Nat.le_of_ble_eq_true rfl) hl.1 dX11_write_18 ⟨Nat.le_of_ble_eq_true rfl, Nat.le_of_ble_eq_true rfl⟩) (fun z7 H locs hW => ?_)
    refine lv_if_eq (tgt := 34) hx hb dX11_write_21 (by decide) (fun c8 => ?_) (fun c8 => ?_)
    · replace ho := ite_t c8 ho
      refine lv_bipush (v := (-4 : Int32)) hx hb dX11_write_34 (by decide) ?_
      cases ho
      exact rtI C0.1 hW dX11_write_36
    · replace ho := ite_f c8 ho
      refine lv_aload_n hx hb dX11_write_24 rfl (lv_at hl 0 rfl) ?_
      refine xGET_1101 C0 kw_592 hW dX11_write_25 ?_
      refine xGET_601 C0 kw_182 hW dX11_write_28 ?_
      refine lv_goto (tgt := 36) hx hb dX11_write_31 (by decide) ?_
      cases ho
      exact rtI C0.1 hW dX11_write_36
  · replace ho := ite_f c4 ho
    refine lv_bipush (v := (-2 : Int32)) hx hb dX11_write_10 (by decide) ?_
    cases ho
    exact rtI C0.1 hW dX11_write_12
noncomputable def x11_erase (t : St) : Option (Int32 × St) :=
  nm (gI t 601) (fun x1 : Int32 => nm (sI t 601 (0 : Int32)) (fun t2 : St => some (x1, t2)))
theorem mm_x11_erase (t : St) : MR (x11_erase t) t (fun (a : Int32 × St) => a.2) := by
  unfold x11_erase
  exact MR_nm (fun x1 _ => MR_nmS mle_sI (fun t2 ht2 => MR_some ht2))
set_option maxHeartbeats 4000000 in
set_option maxRecDepth 100000 in
theorem c_x11_erase (l : Launch) {D : va_G} {cI cJ cZ cR : ClassId} {am gm : Nat → Nat} {st : Nat} (sz : Nat) (t : St) {r : Int32} {t' : St} (ho : x11_erase t = some (r, t')) : Met l yX11_erase (.code yX11_erase cX11_erase 2 (some .int) :: wsAll) (rmN 0 0) (va_Pc [.ref (am 2011)] (prX D (tyX cI cJ cZ cR) (wX cI cJ cZ cR am gm t) sz st)) (qI r D (tyX cI cJ cZ cR) (wX cI cJ cZ cR am gm t') (va_A (wX cI cJ cZ cR am gm t) sz)) 0 0 (va_A (wX cI cJ cZ cR am gm t) sz) := by
  refine Met.ofW (cc := cX11_erase) (maxL := 2) (ret := (some .int)) (by decide) rfl ?_
  intro p e s m args below meth c s₁ B hml hv
  obtain ⟨rfl, ⟨hsz, hP, hK, hD0⟩, hsx⟩ := hv
  have hx := B.exec
  have hb := B.bytes
  have hts := atoms_spec (ws := (.code yX11_erase cX11_erase 2 (some .int) :: wsAll)) B.pre
  have hta := fun w h => hts w (List.mem_cons_of_mem _ h)
  have hown : s.vm.findClass RX11 = some m.cls := findClass_of_methodNamed B.named
  have hlocks := B.notSynchronized
  subst hsz
  have hD := hD0.self (sz := s.heap.size)
  generalize hAe : va_A (wX cI cJ cZ cR am gm t) s.heap.size = A at hD ⊢
  have hA : ∀ q : Nat, s.heap.size ≤ q → A q := fun q h => by rw [← hAe]; exact Or.inr h
  have C0 : cxX p s m ([.ref (am 2011)].toArray) meth c cX11_erase RX11 2 (some .int) D (tyX cI cJ cZ cR) st A := ⟨⟨hx, hb, B.returns, hml, hown, hta, hlocks, hK, hA⟩, by rw [← hAe]; exact hsx⟩
  have hW : wl D A s (wX cI cJ cZ cR am gm t) s.heap [] := ⟨hP, hD, va_S.rf⟩
  have hl := lv_entry [.ref (am 2011)] (n := 2) (Nat.le_of_ble_eq_true rfl)
  rw [lg_entry_eq]
  generalize (lg_sl [.ref (am 2011)] ++ List.replicate (2 - (lg_sl [.ref (am 2011)]).length) Slot.unset).toArray = ls at hl ⊢
  have hl : lv_has ls 2 [(0, .ref (am 2011))] := hl
  unfold x11_erase at ho
  refine lv_aload_n hx hb dX11_erase_0 rfl (lv_at hl 0 rfl) ?_
  refine xGET_1101 C0 kw_592 hW dX11_erase_1 ?_
  refine xGET_601 C0 kw_182 hW dX11_erase_4 ?_
  refine lv_nmi ho (fun x1 ho => ?_)
  refine lv_istore_n (lv' := [(1, .int x1), (0, .ref (am 2011))]) hx hb dX11_erase_7 rfl hl (by decide) rfl (fun ls hl => ?_)
  refine lv_aload_n hx hb dX11_erase_8 rfl (lv_at hl 1 rfl) ?_
  refine xGET_1101 C0 kw_592 hW dX11_erase_9 ?_
  refine lv_iconst (v := (0 : Int32)) hx hb dX11_erase_12 (by decide) ?_
  refine xPUT_601 C0 kw_182 hW dX11_erase_13 (fun H locs hW => ?_)
  obtain ⟨t2, ho, hW⟩ := nm_w (P := fun t => wl D A s (wX cI cJ cZ cR am gm t) H locs) ho hW
  refine lv_iload_n hx hb dX11_erase_16 rfl (lv_at hl 0 rfl) ?_
  cases ho
  exact rtI C0.1 hW dX11_erase_17
noncomputable def x11_noNet (t : St) (a0 : Int32) : Option (Int32) :=
  (x11_outside t a0 (0 : Int32) (9 : Int32)).bind (fun q1 => some q1)
set_option maxHeartbeats 4000000 in
set_option maxRecDepth 100000 in
theorem c_x11_noNet (l : Launch) {D : va_G} {cI cJ cZ cR : ClassId} {am gm : Nat → Nat} {st : Nat} (sz : Nat) (t : St) (a0 : Int32) {r : Int32} (ho : x11_noNet t a0 = some r) : Met l yX11_noNet (.code yX11_noNet cX11_noNet 1 (some .boolean) :: wsAll) (rmN 1 22) (va_Pc [.int a0] (prX D (tyX cI cJ cZ cR) (wX cI cJ cZ cR am gm t) sz st)) (qZ r D (tyX cI cJ cZ cR) (wX cI cJ cZ cR am gm t) (va_A (wX cI cJ cZ cR am gm t) sz)) 0 0 (va_A (wX cI cJ cZ cR am gm t) sz) := by
  refine Met.ofW (cc := cX11_noNet) (maxL := 1) (ret := (some .boolean)) (by decide) rfl ?_
  intro p e s m args below meth c s₁ B hml hv
  obtain ⟨rfl, ⟨hsz, hP, hK, hD0⟩, hsx⟩ := hv
  have hx := B.exec
  have hb := B.bytes
  have hts := atoms_spec (ws := (.code yX11_noNet cX11_noNet 1 (some .boolean) :: wsAll)) B.pre
  have hta := fun w h => hts w (List.mem_cons_of_mem _ h)
  have hown : s.vm.findClass RX11 = some m.cls := findClass_of_methodNamed B.named
  have hlocks := B.notSynchronized
  subst hsz
  have hD := hD0.self (sz := s.heap.size)
  generalize hAe : va_A (wX cI cJ cZ cR am gm t) s.heap.size = A at hD ⊢
  have hA : ∀ q : Nat, s.heap.size ≤ q → A q := fun q h => by rw [← hAe]; exact Or.inr h
  have C0 : cxX p s m ([.int a0].toArray) meth c cX11_noNet RX11 1 (some .boolean) D (tyX cI cJ cZ cR) st A := ⟨⟨hx, hb, B.returns, hml, hown, hta, hlocks, hK, hA⟩, by rw [← hAe]; exact hsx⟩
  have hW : wl D A s (wX cI cJ cZ cR am gm t) s.heap [] := ⟨hP, hD, va_S.rf⟩
  have hl := lv_entry [.int a0] (n := 1) (Nat.le_of_ble_eq_true rfl)
  rw [lg_entry_eq]
  generalize (lg_sl [.int a0] ++ List.replicate (1 - (lg_sl [.int a0]).length) Slot.unset).toArray = ls at hl ⊢
  have hl : lv_has ls 1 [(0, .int a0)] := hl
  unfold x11_noNet at ho
  refine lv_iload_n hx hb dX11_noNet_0 rfl (lv_at hl 0 rfl) ?_
  refine lv_iconst (v := (0 : Int32)) hx hb dX11_noNet_1 (by decide) ?_
  refine lv_bipush (v := (9 : Int32)) hx hb dX11_noNet_2 (by decide) ?_
  obtain ⟨q1, hc2, ho⟩ := bd_some ho
  refine bkZ C0.1 hW (runSX (As := [.int a0, .int (0 : Int32), .int (9 : Int32)]) (rest := []) C0 hW (c_x11_outside l _ t a0 (0 : Int32) (9 : Int32) (r := q1) hc2) cb_X11_X11_outside_102 rfl rfl ⟨rfl, rfl⟩ ⟨Nat.le_of_ble_eq_true rfl, Nat.le_of_ble_eq_true rfl⟩ (Nat.le_of_ble_eq_true rfl) hl.1 dX11_noNet_4 ⟨Nat.le_of_ble_eq_true rfl, Nat.le_of_ble_eq_true rfl⟩) (fun z3 H locs hW => ?_)
  cases ho
  exact rtZ C0.1 hW z3 dX11_noNet_7
noncomputable def x7_next_B0 (t : St) : Option ((St) ⊕ (St)) :=
  if (gI t 601) ≤ (gI t 703) then (some (.inr t)) else (gd (gI t 703) (gN t 600) (if (gA t 600 ((gI t 703)).toNatClampNeg) = (32 : Int32) then (nm (sI t 703 ((gI t 703) + (1 : Int32))) (fun t4 : St => some (.inl t4))) else (some (.inr t))))
theorem mm_x7_next_B0 (t : St) : MR (x7_next_B0 t) t (Sum.elim (fun (x : St) => x) (fun (y : St) => y)) := by
  unfold x7_next_B0
  exact MR_ite (MR_some mle.rfl) (MR_gd (MR_ite (MR_nmS mle_sI (fun t4 ht4 => MR_some ht4)) (MR_some mle.rfl)))
theorem mm_x7_next_L0 (t : St) : MR (lp (fun x => x7_next_B0 x) t) t (fun (y : St) => y) := MR_lp (p := (fun (x : St) => x)) (q := (fun (y : St) => y)) (fun x => mm_x7_next_B0 x) t
noncomputable def x7_next (t : St) : Option (Int32 × St) :=
  (lp (fun x => x7_next_B0 x) t).bind (fun y5 => if (gI y5 601) ≤ (gI y5 703) then (some ((-1 : Int32), y5)) else (gd (gI y5 703) (gN y5 600) (some ((gA y5 600 ((gI y5 703)).toNatClampNeg), y5))))
theorem mm_x7_next (t : St) : MR (x7_next t) t (fun (a : Int32 × St) => a.2) := by
  unfold x7_next
  exact MR_bind (mm_x7_next_L0 t) (fun y5 hm6 => MR_ite (MR_some hm6) (MR_gd (MR_some hm6)))
set_option maxHeartbeats 4000000 in
set_option maxRecDepth 100000 in
theorem x7_next_L0 {p : Program} {l : Launch} {e : Env} {s : State} {m : MethodId} {args : Array Value} {below : List Frame} {meth : Method} {c : Code} {Q : State → Prop} {D : va_G} {cI cJ cZ cR : ClassId} {am gm : Nat → Nat} {st : Nat} {A : Nat → Prop} (C0 : cxX p s m args meth c cX7_next RX7 1 (some .int) D (tyX cI cJ cZ cR) st A) {y : St} (hK0 : ∀ (H : Heap) (locs : List Loc) (ls : Array Slot), wl D A s (wX cI cJ cZ cR am gm y) H locs → lv_has ls 1 [(0, .ref (am 2007))] → W p l e (rmN 0 0) s m args below meth c H locs 0 0 Q (F0 m 44 ls [])) :
    ∀ (n : Nat) (t : St), lpn (fun x => x7_next_B0 x) n t = some y → ∀ (H : Heap) (locs : List Loc) (ls : Array Slot), wl D A s (wX cI cJ cZ cR am gm t) H locs → lv_has ls 1 [(0, .ref (am 2007))] → W p l e (rmN 0 0) s m args below meth c H locs 0 0 Q (F0 m 0 ls []) := by
  have hx := C0.1.1
  have hb := C0.1.2.1
  have hta := C0.1.2.2.2.2.2.1
  have hown := C0.1.2.2.2.2.1
  intro n
  induction n with
  | zero => intro _ h; cases h
  | succ n ih =>
    intro t hrun H locs ls hW hl
    obtain ⟨o, ho, hrun⟩ := bd_some hrun
    unfold x7_next_B0 at ho
    refine lv_aload_n hx hb dX7_next_0 rfl (lv_at hl 0 rfl) ?_
    refine xGET_703 C0 kw_249 hW dX7_next_1 ?_
    refine lv_aload_n hx hb dX7_next_4 rfl (lv_at hl 0 rfl) ?_
    refine xGET_700 C0 kw_246 hW dX7_next_5 ?_
    refine xGET_601 C0 kw_181 hW dX7_next_8 ?_
    refine lv_icmp_ge (tgt := 44) hx hb dX7_next_11 (by decide) (fun c1 => ?_) (fun c1 => ?_)
    · replace ho := ite_t c1 ho
      cases ho
      cases hrun
      exact hK0 _ _ _ hW (lv_sub hl [0] rfl)
    · replace ho := ite_f c1 ho
      refine lv_aload_n hx hb dX7_next_14 rfl (lv_at hl 0 rfl) ?_
      refine xGET_700 C0 kw_246 hW dX7_next_15 ?_
      refine xGET_600 C0 kw_179 hW dX7_next_18 ?_
      refine lv_aload_n hx hb dX7_next_21 rfl (lv_at hl 0 rfl) ?_
      refine xGET_703 C0 kw_249 hW dX7_next_22 ?_
      obtain ⟨g2, ho⟩ := gd_some ho
      refine xLD_600 C0 hW g2 dX7_next_25 ?_
      refine lv_bipush (v := (32 : Int32)) hx hb dX7_next_26 (by decide) ?_
      refine lv_icmp_ne (tgt := 44) hx hb dX7_next_28 (by decide) (fun c3 => ?_) (fun c3 => ?_)
      · replace ho := ite_f c3 ho
        cases ho
        cases hrun
        exact hK0 _ _ _ hW (lv_sub hl [0] rfl)
      · replace ho := ite_t c3 ho
        refine lv_aload_n hx hb dX7_next_31 rfl (lv_at hl 0 rfl) ?_
        refine lv_dup hx hb dX7_next_32 rfl ?_
        refine xGET_703 C0 kw_249 hW dX7_next_33 ?_
        refine lv_iconst (v := (1 : Int32)) hx hb dX7_next_36 (by decide) ?_
        refine lv_iadd hx hb dX7_next_37 ?_
        refine xPUT_703 C0 kw_249 hW dX7_next_38 (fun H locs hW => ?_)
        obtain ⟨t4, ho, hW⟩ := nm_w (P := fun t => wl D A s (wX cI cJ cZ cR am gm t) H locs) ho hW
        refine lv_goto (tgt := 0) hx hb dX7_next_41 (by decide) ?_
        cases ho
        exact ih _ hrun _ _ _ hW (lv_sub hl [0] rfl)
set_option maxHeartbeats 4000000 in
set_option maxRecDepth 100000 in
theorem c_x7_next (l : Launch) {D : va_G} {cI cJ cZ cR : ClassId} {am gm : Nat → Nat} {st : Nat} (sz : Nat) (t : St) {r : Int32} {t' : St} (ho : x7_next t = some (r, t')) : Met l yX7_next (.code yX7_next cX7_next 1 (some .int) :: wsAll) (rmN 0 0) (va_Pc [.ref (am 2007)] (prX D (tyX cI cJ cZ cR) (wX cI cJ cZ cR am gm t) sz st)) (qI r D (tyX cI cJ cZ cR) (wX cI cJ cZ cR am gm t') (va_A (wX cI cJ cZ cR am gm t) sz)) 0 0 (va_A (wX cI cJ cZ cR am gm t) sz) := by
  refine Met.ofW (cc := cX7_next) (maxL := 1) (ret := (some .int)) (by decide) rfl ?_
  intro p e s m args below meth c s₁ B hml hv
  obtain ⟨rfl, ⟨hsz, hP, hK, hD0⟩, hsx⟩ := hv
  have hx := B.exec
  have hb := B.bytes
  have hts := atoms_spec (ws := (.code yX7_next cX7_next 1 (some .int) :: wsAll)) B.pre
  have hta := fun w h => hts w (List.mem_cons_of_mem _ h)
  have hown : s.vm.findClass RX7 = some m.cls := findClass_of_methodNamed B.named
  have hlocks := B.notSynchronized
  subst hsz
  have hD := hD0.self (sz := s.heap.size)
  generalize hAe : va_A (wX cI cJ cZ cR am gm t) s.heap.size = A at hD ⊢
  have hA : ∀ q : Nat, s.heap.size ≤ q → A q := fun q h => by rw [← hAe]; exact Or.inr h
  have C0 : cxX p s m ([.ref (am 2007)].toArray) meth c cX7_next RX7 1 (some .int) D (tyX cI cJ cZ cR) st A := ⟨⟨hx, hb, B.returns, hml, hown, hta, hlocks, hK, hA⟩, by rw [← hAe]; exact hsx⟩
  have hW : wl D A s (wX cI cJ cZ cR am gm t) s.heap [] := ⟨hP, hD, va_S.rf⟩
  have hl := lv_entry [.ref (am 2007)] (n := 1) (Nat.le_of_ble_eq_true rfl)
  rw [lg_entry_eq]
  generalize (lg_sl [.ref (am 2007)] ++ List.replicate (1 - (lg_sl [.ref (am 2007)]).length) Slot.unset).toArray = ls at hl ⊢
  have hl : lv_has ls 1 [(0, .ref (am 2007))] := hl
  unfold x7_next at ho
  obtain ⟨y5, hc7, ho⟩ := bd_some ho
  obtain ⟨ny5, hc7⟩ := lp_to hc7
  refine x7_next_L0 C0 ?_ ny5 _ hc7 _ _ _ hW (lv_sub hl [0] rfl)
  intro H locs ls hW hl
  refine lv_aload_n hx hb dX7_next_44 rfl (lv_at hl 0 rfl) ?_
  refine xGET_703 C0 kw_249 hW dX7_next_45 ?_
  refine lv_aload_n hx hb dX7_next_48 rfl (lv_at hl 0 rfl) ?_
  refine xGET_700 C0 kw_246 hW dX7_next_49 ?_
  refine xGET_601 C0 kw_181 hW dX7_next_52 ?_
  refine lv_icmp_ge (tgt := 73) hx hb dX7_next_55 (by decide) (fun c8 => ?_) (fun c8 => ?_)
  · replace ho := ite_t c8 ho
    refine lv_iconst (v := (-1 : Int32)) hx hb dX7_next_73 (by decide) ?_
    cases ho
    exact rtI C0.1 hW dX7_next_74
  · replace ho := ite_f c8 ho
    refine lv_aload_n hx hb dX7_next_58 rfl (lv_at hl 0 rfl) ?_
    refine xGET_700 C0 kw_246 hW dX7_next_59 ?_
    refine xGET_600 C0 kw_179 hW dX7_next_62 ?_
    refine lv_aload_n hx hb dX7_next_65 rfl (lv_at hl 0 rfl) ?_
    refine xGET_703 C0 kw_249 hW dX7_next_66 ?_
    obtain ⟨g9, ho⟩ := gd_some ho
    refine xLD_600 C0 hW g9 dX7_next_69 ?_
    refine lv_goto (tgt := 74) hx hb dX7_next_70 (by decide) ?_
    cases ho
    exact rtI C0.1 hW dX7_next_74
noncomputable def x7_refuse (t : St) (a1 : Int32) (a2 : Int32) : Option (Int32 × St) :=
  nm (sI t 704 (((10 : Int32) * a1) + a2)) (fun t1 : St => some ((-1 : Int32), t1))
theorem mm_x7_refuse (t : St) (a1 : Int32) (a2 : Int32) : MR (x7_refuse t a1 a2) t (fun (a : Int32 × St) => a.2) := by
  unfold x7_refuse
  exact MR_nmS mle_sI (fun t1 ht1 => MR_some ht1)
set_option maxHeartbeats 4000000 in
set_option maxRecDepth 100000 in
theorem c_x7_refuse (l : Launch) {D : va_G} {cI cJ cZ cR : ClassId} {am gm : Nat → Nat} {st : Nat} (sz : Nat) (t : St) (a1 : Int32) (a2 : Int32) {r : Int32} {t' : St} (ho : x7_refuse t a1 a2 = some (r, t')) : Met l yX7_refuse (.code yX7_refuse cX7_refuse 3 (some .int) :: wsAll) (rmN 0 0) (va_Pc [.ref (am 2007), .int a1, .int a2] (prX D (tyX cI cJ cZ cR) (wX cI cJ cZ cR am gm t) sz st)) (qI r D (tyX cI cJ cZ cR) (wX cI cJ cZ cR am gm t') (va_A (wX cI cJ cZ cR am gm t) sz)) 0 0 (va_A (wX cI cJ cZ cR am gm t) sz) := by
  refine Met.ofW (cc := cX7_refuse) (maxL := 3) (ret := (some .int)) (by decide) rfl ?_
  intro p e s m args below meth c s₁ B hml hv
  obtain ⟨rfl, ⟨hsz, hP, hK, hD0⟩, hsx⟩ := hv
  have hx := B.exec
  have hb := B.bytes
  have hts := atoms_spec (ws := (.code yX7_refuse cX7_refuse 3 (some .int) :: wsAll)) B.pre
  have hta := fun w h => hts w (List.mem_cons_of_mem _ h)
  have hown : s.vm.findClass RX7 = some m.cls := findClass_of_methodNamed B.named
  have hlocks := B.notSynchronized
  subst hsz
  have hD := hD0.self (sz := s.heap.size)
  generalize hAe : va_A (wX cI cJ cZ cR am gm t) s.heap.size = A at hD ⊢
  have hA : ∀ q : Nat, s.heap.size ≤ q → A q := fun q h => by rw [← hAe]; exact Or.inr h
  have C0 : cxX p s m ([.ref (am 2007), .int a1, .int a2].toArray) meth c cX7_refuse RX7 3 (some .int) D (tyX cI cJ cZ cR) st A := ⟨⟨hx, hb, B.returns, hml, hown, hta, hlocks, hK, hA⟩, by rw [← hAe]; exact hsx⟩
  have hW : wl D A s (wX cI cJ cZ cR am gm t) s.heap [] := ⟨hP, hD, va_S.rf⟩
  have hl := lv_entry [.ref (am 2007), .int a1, .int a2] (n := 3) (Nat.le_of_ble_eq_true rfl)
  rw [lg_entry_eq]
  generalize (lg_sl [.ref (am 2007), .int a1, .int a2] ++ List.replicate (3 - (lg_sl [.ref (am 2007), .int a1, .int a2]).length) Slot.unset).toArray = ls at hl ⊢
  have hl : lv_has ls 3 [(0, .ref (am 2007)), (1, .int a1), (2, .int a2)] := hl
  unfold x7_refuse at ho
  refine lv_aload_n hx hb dX7_refuse_0 rfl (lv_at hl 0 rfl) ?_
  refine lv_bipush (v := (10 : Int32)) hx hb dX7_refuse_1 (by decide) ?_
  refine lv_iload_n hx hb dX7_refuse_3 rfl (lv_at hl 1 rfl) ?_
  refine lv_imul hx hb dX7_refuse_4 ?_
  refine lv_iload_n hx hb dX7_refuse_5 rfl (lv_at hl 2 rfl) ?_
  refine lv_iadd hx hb dX7_refuse_6 ?_
  refine xPUT_704 C0 kw_250 hW dX7_refuse_7 (fun H locs hW => ?_)
  obtain ⟨t1, ho, hW⟩ := nm_w (P := fun t => wl D A s (wX cI cJ cZ cR am gm t) H locs) ho hW
  refine lv_iconst (v := (-1 : Int32)) hx hb dX7_refuse_10 (by decide) ?_
  cases ho
  exact rtI C0.1 hW dX7_refuse_11
noncomputable def x7_refuseHere_J17 (t : St) (w1 : Int32) (w2 : Int32) : Option (Int32 × St) :=
  (x7_refuse t w1 w2).bind (fun q1 => some (q1.1, q1.2))
theorem mm_x7_refuseHere_J17 (t : St) (w1 : Int32) (w2 : Int32) : MR (x7_refuseHere_J17 t w1 w2) t (fun (a : Int32 × St) => a.2) := by
  unfold x7_refuseHere_J17
  exact MR_bind (mm_x7_refuse t w1 w2) (fun q1 hq1 => MR_some hq1)
noncomputable def x7_refuseHere (t : St) : Option (Int32 × St) :=
  (x7_next t).bind (fun q3 => if 0 ≤ q3.1 then (x7_refuseHere_J17 q3.2 (gI t 703) (1 : Int32)) else (x7_refuseHere_J17 q3.2 (gI t 703) (2 : Int32)))
theorem mm_x7_refuseHere (t : St) : MR (x7_refuseHere t) t (fun (a : Int32 × St) => a.2) := by
  unfold x7_refuseHere
  exact MR_bind (mm_x7_next t) (fun q3 hq3 => MR_ite (MR_wk hq3 (mm_x7_refuseHere_J17 q3.2 (gI t 703) (1 : Int32))) (MR_wk hq3 (mm_x7_refuseHere_J17 q3.2 (gI t 703) (2 : Int32))))
set_option maxHeartbeats 4000000 in
set_option maxRecDepth 100000 in
theorem c_x7_refuseHere (l : Launch) {D : va_G} {cI cJ cZ cR : ClassId} {am gm : Nat → Nat} {st : Nat} (sz : Nat) (t : St) {r : Int32} {t' : St} (ho : x7_refuseHere t = some (r, t')) : Met l yX7_refuseHere (.code yX7_refuseHere cX7_refuseHere 1 (some .int) :: wsAll) (rmN 1 22) (va_Pc [.ref (am 2007)] (prX D (tyX cI cJ cZ cR) (wX cI cJ cZ cR am gm t) sz st)) (qI r D (tyX cI cJ cZ cR) (wX cI cJ cZ cR am gm t') (va_A (wX cI cJ cZ cR am gm t) sz)) 0 0 (va_A (wX cI cJ cZ cR am gm t) sz) := by
  refine Met.ofW (cc := cX7_refuseHere) (maxL := 1) (ret := (some .int)) (by decide) rfl ?_
  intro p e s m args below meth c s₁ B hml hv
  obtain ⟨rfl, ⟨hsz, hP, hK, hD0⟩, hsx⟩ := hv
  have hx := B.exec
  have hb := B.bytes
  have hts := atoms_spec (ws := (.code yX7_refuseHere cX7_refuseHere 1 (some .int) :: wsAll)) B.pre
  have hta := fun w h => hts w (List.mem_cons_of_mem _ h)
  have hown : s.vm.findClass RX7 = some m.cls := findClass_of_methodNamed B.named
  have hlocks := B.notSynchronized
  subst hsz
  have hD := hD0.self (sz := s.heap.size)
  generalize hAe : va_A (wX cI cJ cZ cR am gm t) s.heap.size = A at hD ⊢
  have hA : ∀ q : Nat, s.heap.size ≤ q → A q := fun q h => by rw [← hAe]; exact Or.inr h
  have C0 : cxX p s m ([.ref (am 2007)].toArray) meth c cX7_refuseHere RX7 1 (some .int) D (tyX cI cJ cZ cR) st A := ⟨⟨hx, hb, B.returns, hml, hown, hta, hlocks, hK, hA⟩, by rw [← hAe]; exact hsx⟩
  have hW : wl D A s (wX cI cJ cZ cR am gm t) s.heap [] := ⟨hP, hD, va_S.rf⟩
  have hl := lv_entry [.ref (am 2007)] (n := 1) (Nat.le_of_ble_eq_true rfl)
  rw [lg_entry_eq]
  generalize (lg_sl [.ref (am 2007)] ++ List.replicate (1 - (lg_sl [.ref (am 2007)]).length) Slot.unset).toArray = ls at hl ⊢
  have hl : lv_has ls 1 [(0, .ref (am 2007))] := hl
  clear hAe hD hP hD0 hts
  have J17 : ∀ (t : St) (w1 : Int32) (w2 : Int32) (_ : x7_refuseHere_J17 t w1 w2 = some (r, t')) (H : Heap) (locs : List Loc) (ls : Array Slot), wl D A s (wX cI cJ cZ cR am gm t) H locs → lv_has ls 1 [(0, .ref (am 2007))] → W p l e (rmN 1 22) s m ([.ref (am 2007)].toArray) below meth c H locs 0 0 (MQ below (qI r D (tyX cI cJ cZ cR) (wX cI cJ cZ cR am gm t') A) ([.ref (am 2007)].toArray) s 0 0 A) (F0 m 17 ls [.int w2, .int w1, .ref (am 2007)]) := by
    intro t w1 w2 ho H locs ls hW hl
    unfold x7_refuseHere_J17 at ho
    obtain ⟨q1, hc2, ho⟩ := bd_some ho
    refine bkI C0.1 hW (runVX (As := [.int w1, .int w2]) (rest := []) C0 hW (c_x7_refuse l _ t w1 w2 (r := q1.1) (t' := q1.2) hc2) cb_X7_X7_refuse_43 7 7 rfl rfl rfl rfl rfl ⟨rfl, rfl⟩ ⟨Nat.le_of_ble_eq_true rfl, Nat.le_of_ble_eq_true rfl⟩ (Nat.le_of_ble_eq_true rfl) hl.1 dX7_refuseHere_17 ⟨Nat.le_of_ble_eq_true rfl, Nat.le_of_ble_eq_true rfl⟩) (fun H locs hW => ?_)
    cases ho
    exact rtI C0.1 hW dX7_refuseHere_20
  unfold x7_refuseHere at ho
  refine lv_aload_n hx hb dX7_refuseHere_0 rfl (lv_at hl 0 rfl) ?_
  refine lv_aload_n hx hb dX7_refuseHere_1 rfl (lv_at hl 0 rfl) ?_
  refine xGET_703 C0 kw_249 hW dX7_refuseHere_2 ?_
  refine lv_aload_n hx hb dX7_refuseHere_5 rfl (lv_at hl 0 rfl) ?_
  obtain ⟨q3, hc4, ho⟩ := bd_some ho
  refine bkI C0.1 hW (runVX (As := []) (rest := [.int (gI t 703), .ref (am 2007)]) C0 hW (c_x7_next l _ t (r := q3.1) (t' := q3.2) hc4) cb_X7_X7_next_39 7 7 rfl rfl rfl rfl rfl ⟨rfl, rfl⟩ ⟨Nat.le_of_ble_eq_true rfl, Nat.le_of_ble_eq_true rfl⟩ (Nat.le_of_ble_eq_true rfl) hl.1 dX7_refuseHere_6 ⟨Nat.le_of_ble_eq_true rfl, Nat.le_of_ble_eq_true rfl⟩) (fun H locs hW => ?_)
  refine lv_if_ge (tgt := 16) hx hb dX7_refuseHere_9 (by decide) (fun c5 => ?_) (fun c5 => ?_)
  · replace ho := ite_t c5 ho
    refine lv_iconst (v := (1 : Int32)) hx hb dX7_refuseHere_16 (by decide) ?_
    exact J17 _ _ _ ho _ _ _ hW (lv_sub hl [0] rfl)
  · replace ho := ite_f c5 ho
    refine lv_iconst (v := (2 : Int32)) hx hb dX7_refuseHere_12 (by decide) ?_
    refine lv_goto (tgt := 17) hx hb dX7_refuseHere_13 (by decide) ?_
    exact J17 _ _ _ ho _ _ _ hW (lv_sub hl [0] rfl)
noncomputable def x7_hold (t : St) (a1 : Int32) : Option (St) :=
  if (gI t 702) < (Int32.ofNat (gN t 701)) then (gd (gI t 702) (gN t 701) (nm (sA t 701 (gI t 702) a1) (fun t3 : St => nm (sI t3 702 ((gI t3 702) + (1 : Int32))) (fun t4 : St => some t4)))) else (some t)
theorem mm_x7_hold (t : St) (a1 : Int32) : MR (x7_hold t a1) t (fun (a : St) => a) := by
  unfold x7_hold
  exact MR_ite (MR_gd (MR_nmS mle_sA (fun t3 ht3 => MR_nmS mle_sI (fun t4 ht4 => MR_some (mle.trans ht3 ht4))))) (MR_some mle.rfl)
set_option maxHeartbeats 4000000 in
set_option maxRecDepth 100000 in
theorem c_x7_hold (l : Launch) {D : va_G} {cI cJ cZ cR : ClassId} {am gm : Nat → Nat} {st : Nat} (sz : Nat) (t : St) (a1 : Int32) {t' : St} (ho : x7_hold t a1 = some t') : Met l yX7_hold (.code yX7_hold cX7_hold 2 none :: wsAll) (rmN 0 0) (va_Pc [.ref (am 2007), .int a1] (prX D (tyX cI cJ cZ cR) (wX cI cJ cZ cR am gm t) sz st)) (qV D (tyX cI cJ cZ cR) (wX cI cJ cZ cR am gm t') (va_A (wX cI cJ cZ cR am gm t) sz)) 0 0 (va_A (wX cI cJ cZ cR am gm t) sz) := by
  refine Met.ofW (cc := cX7_hold) (maxL := 2) (ret := none) (by decide) rfl ?_
  intro p e s m args below meth c s₁ B hml hv
  obtain ⟨rfl, ⟨hsz, hP, hK, hD0⟩, hsx⟩ := hv
  have hx := B.exec
  have hb := B.bytes
  have hts := atoms_spec (ws := (.code yX7_hold cX7_hold 2 none :: wsAll)) B.pre
  have hta := fun w h => hts w (List.mem_cons_of_mem _ h)
  have hown : s.vm.findClass RX7 = some m.cls := findClass_of_methodNamed B.named
  have hlocks := B.notSynchronized
  subst hsz
  have hD := hD0.self (sz := s.heap.size)
  generalize hAe : va_A (wX cI cJ cZ cR am gm t) s.heap.size = A at hD ⊢
  have hA : ∀ q : Nat, s.heap.size ≤ q → A q := fun q h => by rw [← hAe]; exact Or.inr h
  have C0 : cxX p s m ([.ref (am 2007), .int a1].toArray) meth c cX7_hold RX7 2 none D (tyX cI cJ cZ cR) st A := ⟨⟨hx, hb, B.returns, hml, hown, hta, hlocks, hK, hA⟩, by rw [← hAe]; exact hsx⟩
  have hW : wl D A s (wX cI cJ cZ cR am gm t) s.heap [] := ⟨hP, hD, va_S.rf⟩
  have hl := lv_entry [.ref (am 2007), .int a1] (n := 2) (Nat.le_of_ble_eq_true rfl)
  rw [lg_entry_eq]
  generalize (lg_sl [.ref (am 2007), .int a1] ++ List.replicate (2 - (lg_sl [.ref (am 2007), .int a1]).length) Slot.unset).toArray = ls at hl ⊢
  have hl : lv_has ls 2 [(0, .ref (am 2007)), (1, .int a1)] := hl
  unfold x7_hold at ho
  refine lv_aload_n hx hb dX7_hold_0 rfl (lv_at hl 0 rfl) ?_
  refine xGET_702 C0 kw_248 hW dX7_hold_1 ?_
  refine lv_aload_n hx hb dX7_hold_4 rfl (lv_at hl 0 rfl) ?_
  refine xGET_701 C0 kw_247 hW dX7_hold_5 ?_
  refine xLEN_701 C0 hW dX7_hold_8 ?_
  refine lv_icmp_lt (tgt := 13) hx hb dX7_hold_9 (by decide) (fun c1 => ?_) (fun c1 => ?_)
  · replace ho := ite_t c1 ho
    refine lv_aload_n hx hb dX7_hold_13 rfl (lv_at hl 0 rfl) ?_
    refine xGET_701 C0 kw_247 hW dX7_hold_14 ?_
    refine lv_aload_n hx hb dX7_hold_17 rfl (lv_at hl 0 rfl) ?_
    refine xGET_702 C0 kw_248 hW dX7_hold_18 ?_
    refine lv_iload_n hx hb dX7_hold_21 rfl (lv_at hl 1 rfl) ?_
    obtain ⟨g2, ho⟩ := gd_some ho
    refine xST_701 C0 hW g2 dX7_hold_22 (fun H locs hW => ?_)
    obtain ⟨t3, ho, hW⟩ := nm_w (P := fun t => wl D A s (wX cI cJ cZ cR am gm t) H locs) ho hW
    refine lv_aload_n hx hb dX7_hold_23 rfl (lv_at hl 0 rfl) ?_
    refine lv_dup hx hb dX7_hold_24 rfl ?_
    refine xGET_702 C0 kw_248 hW dX7_hold_25 ?_
    refine lv_iconst (v := (1 : Int32)) hx hb dX7_hold_28 (by decide) ?_
    refine lv_iadd hx hb dX7_hold_29 ?_
    refine xPUT_702 C0 kw_248 hW dX7_hold_30 (fun H locs hW => ?_)
    obtain ⟨t4, ho, hW⟩ := nm_w (P := fun t => wl D A s (wX cI cJ cZ cR am gm t) H locs) ho hW
    cases ho
    exact rtV C0.1 hW dX7_hold_33
  · replace ho := ite_f c1 ho
    cases ho
    exact rtV C0.1 hW dX7_hold_12
noncomputable def x7_closes (t : St) (a1 : Int32) : Option (Int32 × St) :=
  (x7_next t).bind (fun q1 => if q1.1 = a1 then (nm (sI q1.2 703 ((gI q1.2 703) + (1 : Int32))) (fun t6 : St => some ((1 : Int32), t6))) else ((x7_refuseHere q1.2).bind (fun q4 => some ((0 : Int32), q4.2))))
theorem mm_x7_closes (t : St) (a1 : Int32) : MR (x7_closes t a1) t (fun (a : Int32 × St) => a.2) := by
  unfold x7_closes
  exact MR_bind (mm_x7_next t) (fun q1 hq1 => MR_ite (MR_nmS mle_sI (fun t6 ht6 => MR_some (mle.trans hq1 ht6))) (MR_bind (mm_x7_refuseHere q1.2) (fun q4 hq4 => MR_some (mle.trans hq1 hq4))))
set_option maxHeartbeats 4000000 in
set_option maxRecDepth 100000 in
theorem c_x7_closes (l : Launch) {D : va_G} {cI cJ cZ cR : ClassId} {am gm : Nat → Nat} {st : Nat} (sz : Nat) (t : St) (a1 : Int32) {r : Int32} {t' : St} (ho : x7_closes t a1 = some (r, t')) : Met l yX7_closes (.code yX7_closes cX7_closes 2 (some .boolean) :: wsAll) (rmN 2 42) (va_Pc [.ref (am 2007), .int a1] (prX D (tyX cI cJ cZ cR) (wX cI cJ cZ cR am gm t) sz st)) (qZ r D (tyX cI cJ cZ cR) (wX cI cJ cZ cR am gm t') (va_A (wX cI cJ cZ cR am gm t) sz)) 0 0 (va_A (wX cI cJ cZ cR am gm t) sz) := by
  refine Met.ofW (cc := cX7_closes) (maxL := 2) (ret := (some .boolean)) (by decide) rfl ?_
  intro p e s m args below meth c s₁ B hml hv
  obtain ⟨rfl, ⟨hsz, hP, hK, hD0⟩, hsx⟩ := hv
  have hx := B.exec
  have hb := B.bytes
  have hts := atoms_spec (ws := (.code yX7_closes cX7_closes 2 (some .boolean) :: wsAll)) B.pre
  have hta := fun w h => hts w (List.mem_cons_of_mem _ h)
  have hown : s.vm.findClass RX7 = some m.cls := findClass_of_methodNamed B.named
  have hlocks := B.notSynchronized
  subst hsz
  have hD := hD0.self (sz := s.heap.size)
  generalize hAe : va_A (wX cI cJ cZ cR am gm t) s.heap.size = A at hD ⊢
  have hA : ∀ q : Nat, s.heap.size ≤ q → A q := fun q h => by rw [← hAe]; exact Or.inr h
  have C0 : cxX p s m ([.ref (am 2007), .int a1].toArray) meth c cX7_closes RX7 2 (some .boolean) D (tyX cI cJ cZ cR) st A := ⟨⟨hx, hb, B.returns, hml, hown, hta, hlocks, hK, hA⟩, by rw [← hAe]; exact hsx⟩
  have hW : wl D A s (wX cI cJ cZ cR am gm t) s.heap [] := ⟨hP, hD, va_S.rf⟩
  have hl := lv_entry [.ref (am 2007), .int a1] (n := 2) (Nat.le_of_ble_eq_true rfl)
  rw [lg_entry_eq]
  generalize (lg_sl [.ref (am 2007), .int a1] ++ List.replicate (2 - (lg_sl [.ref (am 2007), .int a1]).length) Slot.unset).toArray = ls at hl ⊢
  have hl : lv_has ls 2 [(0, .ref (am 2007)), (1, .int a1)] := hl
  unfold x7_closes at ho
  refine lv_aload_n hx hb dX7_closes_0 rfl (lv_at hl 0 rfl) ?_
  obtain ⟨q1, hc2, ho⟩ := bd_some ho
  refine bkI C0.1 hW (runVX (As := []) (rest := []) C0 hW (c_x7_next l _ t (r := q1.1) (t' := q1.2) hc2) cb_X7_X7_next_39 7 7 rfl rfl rfl rfl rfl ⟨rfl, rfl⟩ ⟨Nat.le_of_ble_eq_true rfl, Nat.le_of_ble_eq_true rfl⟩ (Nat.le_of_ble_eq_true rfl) hl.1 dX7_closes_1 ⟨Nat.le_of_ble_eq_true rfl, Nat.le_of_ble_eq_true rfl⟩) (fun H locs hW => ?_)
  refine lv_iload_n hx hb dX7_closes_4 rfl (lv_at hl 1 rfl) ?_
  refine lv_icmp_ne (tgt := 20) hx hb dX7_closes_5 (by decide) (fun c3 => ?_) (fun c3 => ?_)
  · replace ho := ite_f c3 ho
    refine lv_aload_n hx hb dX7_closes_20 rfl (lv_at hl 0 rfl) ?_
    obtain ⟨q4, hc5, ho⟩ := bd_some ho
    refine bkI C0.1 hW (runVX (As := []) (rest := []) C0 hW (c_x7_refuseHere l _ q1.2 (r := q4.1) (t' := q4.2) hc5) cb_X7_X7_refuseHere_80 7 7 rfl rfl rfl rfl rfl ⟨rfl, rfl⟩ ⟨Nat.le_of_ble_eq_true rfl, Nat.le_of_ble_eq_true rfl⟩ (Nat.le_of_ble_eq_true rfl) hl.1 dX7_closes_21 ⟨Nat.le_of_ble_eq_true rfl, Nat.le_of_ble_eq_true rfl⟩) (fun H locs hW => ?_)
    refine lv_pop hx hb dX7_closes_24 rfl ?_
    refine lv_iconst (v := (0 : Int32)) hx hb dX7_closes_25 (by decide) ?_
    cases ho
    exact rtZ C0.1 hW (Or.inl (rfl : (0 : Int32) = 0)) dX7_closes_26
  · replace ho := ite_t c3 ho
    refine lv_aload_n hx hb dX7_closes_8 rfl (lv_at hl 0 rfl) ?_
    refine lv_dup hx hb dX7_closes_9 rfl ?_
    refine xGET_703 C0 kw_249 hW dX7_closes_10 ?_
    refine lv_iconst (v := (1 : Int32)) hx hb dX7_closes_13 (by decide) ?_
    refine lv_iadd hx hb dX7_closes_14 ?_
    refine xPUT_703 C0 kw_249 hW dX7_closes_15 (fun H locs hW => ?_)
    obtain ⟨t6, ho, hW⟩ := nm_w (P := fun t => wl D A s (wX cI cJ cZ cR am gm t) H locs) ho hW
    refine lv_iconst (v := (1 : Int32)) hx hb dX7_closes_18 (by decide) ?_
    cases ho
    exact rtZ C0.1 hW (Or.inr (rfl : (1 : Int32) = 1)) dX7_closes_19
noncomputable def x6_addKnot (t : St) (a1 : Int32) (a2 : Int32) (a3 : Int32) (a4 : Int32) : Option (Int32 × St) :=
  if (gI t 609) < (330 : Int32) then (gd (gI t 609) (gN t 603) (nm (sA t 603 (gI t 609) a1) (fun t3 : St => gd (gI t3 609) (gN t3 604) (nm (sA t3 604 (gI t3 609) a2) (fun t5 : St => gd (gI t5 609) (gN t5 605) (nm (sA t5 605 (gI t5 609) a3) (fun t7 : St => gd (gI t7 609) (gN t7 606) (nm (sA t7 606 (gI t7 609) (gI t7 610)) (fun t9 : St => gd (gI t9 609) (gN t9 607) (nm (sA t9 607 (gI t9 609) a4) (fun t11 : St => nm (sI t11 609 ((gI t11 609) + (1 : Int32))) (fun t12 : St => some (((gI t12 609) - (1 : Int32)), t12))))))))))))) else (some ((329 : Int32), t))
theorem mm_x6_addKnot (t : St) (a1 : Int32) (a2 : Int32) (a3 : Int32) (a4 : Int32) : MR (x6_addKnot t a1 a2 a3 a4) t (fun (a : Int32 × St) => a.2) := by
  unfold x6_addKnot
  exact MR_ite (MR_gd (MR_nmS mle_sA (fun t3 ht3 => MR_gd (MR_nmS mle_sA (fun t5 ht5 => MR_gd (MR_nmS mle_sA (fun t7 ht7 => MR_gd (MR_nmS mle_sA (fun t9 ht9 => MR_gd (MR_nmS mle_sA (fun t11 ht11 => MR_nmS mle_sI (fun t12 ht12 => MR_some (mle.trans (mle.trans (mle.trans (mle.trans (mle.trans ht3 ht5) ht7) ht9) ht11) ht12))))))))))))) (MR_some mle.rfl)
set_option maxHeartbeats 4000000 in
set_option maxRecDepth 100000 in
theorem c_x6_addKnot (l : Launch) {D : va_G} {cI cJ cZ cR : ClassId} {am gm : Nat → Nat} {st : Nat} (sz : Nat) (t : St) (a1 : Int32) (a2 : Int32) (a3 : Int32) (a4 : Int32) {r : Int32} {t' : St} (ho : x6_addKnot t a1 a2 a3 a4 = some (r, t')) : Met l yX6_addKnot (.code yX6_addKnot cX6_addKnot 5 (some .int) :: wsAll) (rmN 0 0) (va_Pc [.ref (am 2006), .int a1, .int a2, .int a3, .int a4] (prX D (tyX cI cJ cZ cR) (wX cI cJ cZ cR am gm t) sz st)) (qI r D (tyX cI cJ cZ cR) (wX cI cJ cZ cR am gm t') (va_A (wX cI cJ cZ cR am gm t) sz)) 0 0 (va_A (wX cI cJ cZ cR am gm t) sz) := by
  refine Met.ofW (cc := cX6_addKnot) (maxL := 5) (ret := (some .int)) (by decide) rfl ?_
  intro p e s m args below meth c s₁ B hml hv
  obtain ⟨rfl, ⟨hsz, hP, hK, hD0⟩, hsx⟩ := hv
  have hx := B.exec
  have hb := B.bytes
  have hts := atoms_spec (ws := (.code yX6_addKnot cX6_addKnot 5 (some .int) :: wsAll)) B.pre
  have hta := fun w h => hts w (List.mem_cons_of_mem _ h)
  have hown : s.vm.findClass RX6 = some m.cls := findClass_of_methodNamed B.named
  have hlocks := B.notSynchronized
  subst hsz
  have hD := hD0.self (sz := s.heap.size)
  generalize hAe : va_A (wX cI cJ cZ cR am gm t) s.heap.size = A at hD ⊢
  have hA : ∀ q : Nat, s.heap.size ≤ q → A q := fun q h => by rw [← hAe]; exact Or.inr h
  have C0 : cxX p s m ([.ref (am 2006), .int a1, .int a2, .int a3, .int a4].toArray) meth c cX6_addKnot RX6 5 (some .int) D (tyX cI cJ cZ cR) st A := ⟨⟨hx, hb, B.returns, hml, hown, hta, hlocks, hK, hA⟩, by rw [← hAe]; exact hsx⟩
  have hW : wl D A s (wX cI cJ cZ cR am gm t) s.heap [] := ⟨hP, hD, va_S.rf⟩
  have hl := lv_entry [.ref (am 2006), .int a1, .int a2, .int a3, .int a4] (n := 5) (Nat.le_of_ble_eq_true rfl)
  rw [lg_entry_eq]
  generalize (lg_sl [.ref (am 2006), .int a1, .int a2, .int a3, .int a4] ++ List.replicate (5 - (lg_sl [.ref (am 2006), .int a1, .int a2, .int a3, .int a4]).length) Slot.unset).toArray = ls at hl ⊢
  have hl : lv_has ls 5 [(0, .ref (am 2006)), (1, .int a1), (2, .int a2), (3, .int a3), (4, .int a4)] := hl
  unfold x6_addKnot at ho
  refine lv_aload_n hx hb dX6_addKnot_0 rfl (lv_at hl 0 rfl) ?_
  refine xGET_609 C0 kw_203 hW dX6_addKnot_1 ?_
  refine lv_sipush (v := (330 : Int32)) hx hb dX6_addKnot_4 (by decide) ?_
  refine lv_icmp_lt (tgt := 14) hx hb dX6_addKnot_7 (by decide) (fun c1 => ?_) (fun c1 => ?_)
  · replace ho := ite_t c1 ho
    refine lv_aload_n hx hb dX6_addKnot_14 rfl (lv_at hl 0 rfl) ?_
    refine xGET_603 C0 kw_186 hW dX6_addKnot_15 ?_
    refine lv_aload_n hx hb dX6_addKnot_18 rfl (lv_at hl 0 rfl) ?_
    refine xGET_609 C0 kw_203 hW dX6_addKnot_19 ?_
    refine lv_iload_n hx hb dX6_addKnot_22 rfl (lv_at hl 1 rfl) ?_
    obtain ⟨g2, ho⟩ := gd_some ho
    refine xST_603 C0 hW g2 dX6_addKnot_23 (fun H locs hW => ?_)
    obtain ⟨t3, ho, hW⟩ := nm_w (P := fun t => wl D A s (wX cI cJ cZ cR am gm t) H locs) ho hW
    refine lv_aload_n hx hb dX6_addKnot_24 rfl (lv_at hl 0 rfl) ?_
    refine xGET_604 C0 kw_190 hW dX6_addKnot_25 ?_
    refine lv_aload_n hx hb dX6_addKnot_28 rfl (lv_at hl 0 rfl) ?_
    refine xGET_609 C0 kw_203 hW dX6_addKnot_29 ?_
    refine lv_iload_n hx hb dX6_addKnot_32 rfl (lv_at hl 2 rfl) ?_
    obtain ⟨g4, ho⟩ := gd_some ho
    refine xST_604 C0 hW g4 dX6_addKnot_33 (fun H locs hW => ?_)
    obtain ⟨t5, ho, hW⟩ := nm_w (P := fun t => wl D A s (wX cI cJ cZ cR am gm t) H locs) ho hW
    refine lv_aload_n hx hb dX6_addKnot_34 rfl (lv_at hl 0 rfl) ?_
    refine xGET_605 C0 kw_194 hW dX6_addKnot_35 ?_
    refine lv_aload_n hx hb dX6_addKnot_38 rfl (lv_at hl 0 rfl) ?_
    refine xGET_609 C0 kw_203 hW dX6_addKnot_39 ?_
    refine lv_iload_n hx hb dX6_addKnot_42 rfl (lv_at hl 3 rfl) ?_
    obtain ⟨g6, ho⟩ := gd_some ho
    refine xST_605 C0 hW g6 dX6_addKnot_43 (fun H locs hW => ?_)
    obtain ⟨t7, ho, hW⟩ := nm_w (P := fun t => wl D A s (wX cI cJ cZ cR am gm t) H locs) ho hW
    refine lv_aload_n hx hb dX6_addKnot_44 rfl (lv_at hl 0 rfl) ?_
    refine xGET_606 C0 kw_198 hW dX6_addKnot_45 ?_
    refine lv_aload_n hx hb dX6_addKnot_48 rfl (lv_at hl 0 rfl) ?_
    refine xGET_609 C0 kw_203 hW dX6_addKnot_49 ?_
    refine lv_aload_n hx hb dX6_addKnot_52 rfl (lv_at hl 0 rfl) ?_
    refine xGET_610 C0 kw_206 hW dX6_addKnot_53 ?_
    obtain ⟨g8, ho⟩ := gd_some ho
    refine xST_606 C0 hW g8 dX6_addKnot_56 (fun H locs hW => ?_)
    obtain ⟨t9, ho, hW⟩ := nm_w (P := fun t => wl D A s (wX cI cJ cZ cR am gm t) H locs) ho hW
    refine lv_aload_n hx hb dX6_addKnot_57 rfl (lv_at hl 0 rfl) ?_
    refine xGET_607 C0 kw_199 hW dX6_addKnot_58 ?_
    refine lv_aload_n hx hb dX6_addKnot_61 rfl (lv_at hl 0 rfl) ?_
    refine xGET_609 C0 kw_203 hW dX6_addKnot_62 ?_
    refine lv_iload hx hb dX6_addKnot_65 (lv_at hl 4 rfl) ?_
    obtain ⟨g10, ho⟩ := gd_some ho
    refine xST_607 C0 hW g10 dX6_addKnot_67 (fun H locs hW => ?_)
    obtain ⟨t11, ho, hW⟩ := nm_w (P := fun t => wl D A s (wX cI cJ cZ cR am gm t) H locs) ho hW
    refine lv_aload_n hx hb dX6_addKnot_68 rfl (lv_at hl 0 rfl) ?_
    refine lv_dup hx hb dX6_addKnot_69 rfl ?_
    refine xGET_609 C0 kw_203 hW dX6_addKnot_70 ?_
    refine lv_iconst (v := (1 : Int32)) hx hb dX6_addKnot_73 (by decide) ?_
    refine lv_iadd hx hb dX6_addKnot_74 ?_
    refine xPUT_609 C0 kw_203 hW dX6_addKnot_75 (fun H locs hW => ?_)
    obtain ⟨t12, ho, hW⟩ := nm_w (P := fun t => wl D A s (wX cI cJ cZ cR am gm t) H locs) ho hW
    refine lv_aload_n hx hb dX6_addKnot_78 rfl (lv_at hl 0 rfl) ?_
    refine xGET_609 C0 kw_203 hW dX6_addKnot_79 ?_
    refine lv_iconst (v := (1 : Int32)) hx hb dX6_addKnot_82 (by decide) ?_
    refine lv_isub hx hb dX6_addKnot_83 ?_
    cases ho
    exact rtI C0.1 hW dX6_addKnot_84
  · replace ho := ite_f c1 ho
    refine lv_sipush (v := (329 : Int32)) hx hb dX6_addKnot_10 (by decide) ?_
    cases ho
    exact rtI C0.1 hW dX6_addKnot_13
noncomputable def x6_addRow_701_B49 (v1 : Int32) (v2 : Int32) (v4 : Int32) (v5 : Int32) (v6 : Int32) (v7 : Int32) (t : St) : Option ((Int32 × Int32 × St) ⊕ (Int32 × St)) :=
  if v5 ≤ v7 then (some (.inr (v6, t))) else (gd (v4 + v7) (gN t 701) (nm (gA t 701 ((v4 + v7)).toNatClampNeg) (fun x3 : Int32 => gd ((gI t 610) + v7) (gN t 608) (nm (sA t 608 ((gI t 610) + v7) x3) (fun t5 : St => gd x3 (gN t5 607) (nm (v6 ||| (gA t5 607 (x3).toNatClampNeg)) (fun x7 : Int32 => nm (v7 + (1 : Int32)) (fun x8 : Int32 => some (.inl (x7, x8, t5))))))))))
theorem mm_x6_addRow_701_B49 (v1 : Int32) (v2 : Int32) (v4 : Int32) (v5 : Int32) (v6 : Int32) (v7 : Int32) (t : St) : MR (x6_addRow_701_B49 v1 v2 v4 v5 v6 v7 t) t (Sum.elim (fun (x : Int32 × Int32 × St) => x.2.2) (fun (y : Int32 × St) => y.2)) := by
  unfold x6_addRow_701_B49
  exact MR_ite (MR_some mle.rfl) (MR_gd (MR_nm (fun x3 _ => MR_gd (MR_nmS mle_sA (fun t5 ht5 => MR_gd (MR_nm (fun x7 _ => MR_nm (fun x8 _ => MR_some ht5))))))))
theorem mm_x6_addRow_701_L49 (v1 : Int32) (v2 : Int32) (v4 : Int32) (v5 : Int32) (v6 : Int32) (v7 : Int32) (t : St) : MR (lp (fun x => x6_addRow_701_B49 v1 v2 v4 v5 x.1 x.2.1 x.2.2) (v6, v7, t)) t (fun (y : Int32 × St) => y.2) := MR_lp (p := (fun (x : Int32 × Int32 × St) => x.2.2)) (q := (fun (y : Int32 × St) => y.2)) (fun x => mm_x6_addRow_701_B49 v1 v2 v4 v5 x.1 x.2.1 x.2.2) (v6, v7, t)
noncomputable def x6_addRow_701_J43 (t : St) (v1 : Int32) (v2 : Int32) (v4 : Int32) (v5 : Int32) : Option (Int32 × St) :=
  (lp (fun x => x6_addRow_701_B49 v1 v2 v4 v5 x.1 x.2.1 x.2.2) ((0 : Int32), (0 : Int32), t)).bind (fun y9 => (x6_addKnot y9.2 v1 v5 v2 y9.1).bind (fun q12 => nm (sI q12.2 610 ((gI q12.2 610) + v5)) (fun t14 : St => some (q12.1, t14))))
theorem mm_x6_addRow_701_J43 (t : St) (v1 : Int32) (v2 : Int32) (v4 : Int32) (v5 : Int32) : MR (x6_addRow_701_J43 t v1 v2 v4 v5) t (fun (a : Int32 × St) => a.2) := by
  unfold x6_addRow_701_J43
  exact MR_bind (mm_x6_addRow_701_L49 v1 v2 v4 v5 (0 : Int32) (0 : Int32) t) (fun y9 hm10 => MR_bind (mm_x6_addKnot y9.2 v1 v5 v2 y9.1) (fun q12 hq12 => MR_nmS mle_sI (fun t14 ht14 => MR_some (mle.trans (mle.trans hm10 hq12) ht14))))
noncomputable def x6_addRow_701 (t0 : St) (a1 : Int32) (a2 : Int32) (a4 : Int32) (a5 : Int32) : Option (Int32 × St) :=
  if ((gI t0 610) + a5) ≤ (Int32.ofNat (gN t0 608)) then (x6_addRow_701_J43 t0 a1 a2 a4 a5) else (cpy t0 608 (if ((2 : Int32) * (Int32.ofNat (gN t0 608))) < ((gI t0 610) + a5) then ((gI t0 610) + a5) else ((2 : Int32) * (Int32.ofNat (gN t0 608)))) (fun t16 : St => x6_addRow_701_J43 t16 a1 a2 a4 a5))
theorem mm_x6_addRow_701 (t0 : St) (a1 : Int32) (a2 : Int32) (a4 : Int32) (a5 : Int32) : MR (x6_addRow_701 t0 a1 a2 a4 a5) t0 (fun (a : Int32 × St) => a.2) := by
  unfold x6_addRow_701
  exact MR_ite (MR_wk mle.rfl (mm_x6_addRow_701_J43 t0 a1 a2 a4 a5)) (MR_cpy (fun t16 ht16 => MR_wk ht16 (mm_x6_addRow_701_J43 t16 a1 a2 a4 a5)))
set_option maxHeartbeats 4000000 in
set_option maxRecDepth 100000 in
theorem x6_addRow_701_L49 {p : Program} {l : Launch} {e : Env} {s : State} {m : MethodId} {args : Array Value} {below : List Frame} {meth : Method} {c : Code} {Q : State → Prop} {D : va_G} {cI cJ cZ cR : ClassId} {am gm : Nat → Nat} {st : Nat} {A : Nat → Prop} (C0 : cxX p s m args meth c cX6_addRow RX6 9 (some .int) D (tyX cI cJ cZ cR) st A) {t0 t' : St} {cells slots : Nat} (hR : cells ≤ mC t0 t' ∧ slots ≤ mS t0 t') {v1 : Int32} {v2 : Int32} {v4 : Int32} {v5 : Int32} {y : Int32 × St} (hK0 : ∀ (H : Heap) (locs : List Loc) (ls : Array Slot), wl D A s (wX cI cJ cZ cR am gm y.2) H locs → lv_has ls 9 [(0, .ref (am 2006)), (1, .int v1), (2, .int v2), (5, .int v5), (6, .int y.1)] → W p l e (rmA 2 82 t0 t') s m args below meth c H locs cells slots Q (F0 m 97 ls [])) :
    ∀ (n : Nat) (v6 : Int32) (v7 : Int32) (t : St), lpn (fun x => x6_addRow_701_B49 v1 v2 v4 v5 x.1 x.2.1 x.2.2) n (v6, v7, t) = some y → ∀ (H : Heap) (locs : List Loc) (ls : Array Slot), wl D A s (wX cI cJ cZ cR am gm t) H locs → lv_has ls 9 [(0, .ref (am 2006)), (1, .int v1), (2, .int v2), (3, .ref (am 701)), (4, .int v4), (5, .int v5), (6, .int v6), (7, .int v7)] → W p l e (rmA 2 82 t0 t') s m args below meth c H locs cells slots Q (F0 m 49 ls []) := by
  have hx := C0.1.1
  have hb := C0.1.2.1
  have hta := C0.1.2.2.2.2.2.1
  have hown := C0.1.2.2.2.2.1
  intro n
  induction n with
  | zero => intro _ _ _ h; cases h
  | succ n ih =>
    intro v6 v7 t hrun H locs ls hW hl
    obtain ⟨o, ho, hrun⟩ := bd_some hrun
    unfold x6_addRow_701_B49 at ho
    refine lv_iload hx hb dX6_addRow_49 (lv_at hl 7 rfl) ?_
    refine lv_iload hx hb dX6_addRow_51 (lv_at hl 5 rfl) ?_
    refine lv_icmp_ge (tgt := 97) hx hb dX6_addRow_53 (by decide) (fun c1 => ?_) (fun c1 => ?_)
    · replace ho := ite_t c1 ho
      cases ho
      cases hrun
      exact hK0 _ _ _ hW (lv_sub hl [0, 1, 2, 5, 6] rfl)
    · replace ho := ite_f c1 ho
      refine lv_aload_n hx hb dX6_addRow_56 rfl (lv_at hl 3 rfl) ?_
      refine lv_iload hx hb dX6_addRow_57 (lv_at hl 4 rfl) ?_
      refine lv_iload hx hb dX6_addRow_59 (lv_at hl 7 rfl) ?_
      refine lv_iadd hx hb dX6_addRow_61 ?_
      obtain ⟨g2, ho⟩ := gd_some ho
      refine xLD_701 C0 hW g2 dX6_addRow_62 ?_
      refine lv_nmi ho (fun x3 ho => ?_)
      refine lv_istore (lv' := [(8, .int x3), (0, .ref (am 2006)), (1, .int v1), (2, .int v2), (3, .ref (am 701)), (4, .int v4), (5, .int v5), (6, .int v6), (7, .int v7)]) hx hb dX6_addRow_63 hl (by decide) rfl (fun ls hl => ?_)
      refine lv_aload_n hx hb dX6_addRow_65 rfl (lv_at hl 1 rfl) ?_
      refine xGET_608 C0 kw_202 hW dX6_addRow_66 ?_
      refine lv_aload_n hx hb dX6_addRow_69 rfl (lv_at hl 1 rfl) ?_
      refine xGET_610 C0 kw_206 hW dX6_addRow_70 ?_
      refine lv_iload hx hb dX6_addRow_73 (lv_at hl 8 rfl) ?_
      refine lv_iadd hx hb dX6_addRow_75 ?_
      refine lv_iload hx hb dX6_addRow_76 (lv_at hl 0 rfl) ?_
      obtain ⟨g4, ho⟩ := gd_some ho
      refine xST_608 C0 hW g4 dX6_addRow_78 (fun H locs hW => ?_)
      obtain ⟨t5, ht5, ho, hW⟩ := nm_wm (P := fun t => wl D A s (wX cI cJ cZ cR am gm t) H locs) mle_sA ho hW
      refine lv_iload hx hb dX6_addRow_79 (lv_at hl 7 rfl) ?_
      refine lv_aload_n hx hb dX6_addRow_81 rfl (lv_at hl 1 rfl) ?_
      refine xGET_607 C0 kw_199 hW dX6_addRow_82 ?_
      refine lv_iload hx hb dX6_addRow_85 (lv_at hl 0 rfl) ?_
      obtain ⟨g6, ho⟩ := gd_some ho
      refine xLD_607 C0 hW g6 dX6_addRow_87 ?_
      refine lv_ior hx hb dX6_addRow_88 ?_
      refine lv_nmi ho (fun x7 ho => ?_)
      refine lv_istore (lv' := [(6, .int x7), (8, .int x3), (0, .ref (am 2006)), (1, .int v1), (2, .int v2), (3, .ref (am 701)), (4, .int v4), (5, .int v5), (7, .int v7)]) hx hb dX6_addRow_89 hl (by decide) rfl (fun ls hl => ?_)
      obtain ⟨x8, ex8, ho⟩ := nm_x ho
      refine lv_iinc (v := x8) (lv' := [(7, .int x8), (6, .int x7), (8, .int x3), (0, .ref (am 2006)), (1, .int v1), (2, .int v2), (3, .ref (am 701)), (4, .int v4), (5, .int v5)]) hx hb dX6_addRow_91 hl (k := 8) rfl (by rw [ex8]; rfl) (by decide) rfl (fun ls hl => ?_)
      clear ex8
      refine lv_goto (tgt := 49) hx hb dX6_addRow_94 (by decide) ?_
      cases ho
      exact ih _ _ _ hrun _ _ _ hW (lv_sub hl [3, 4, 5, 6, 7, 8, 1, 0] rfl)
set_option maxHeartbeats 4000000 in
set_option maxRecDepth 100000 in
theorem c_x6_addRow_701 (l : Launch) {D : va_G} {cI cJ cZ cR : ClassId} {am gm : Nat → Nat} {st : Nat} (sz : Nat) (t0 : St) (a1 : Int32) (a2 : Int32) (a4 : Int32) (a5 : Int32) {r : Int32} {t' : St} (ho : x6_addRow_701 t0 a1 a2 a4 a5 = some (r, t')) : Met l yX6_addRow (.code yX6_addRow cX6_addRow 9 (some .int) :: wsAll) (rmA 2 82 t0 t') (va_Pc [.ref (am 2006), .int a1, .int a2, .ref (am 701), .int a4, .int a5] (prX D (tyX cI cJ cZ cR) (wX cI cJ cZ cR am gm t0) sz st)) (qIa r D (tyX cI cJ cZ cR) (fun gm => wX cI cJ cZ cR am gm t') (va_A (wX cI cJ cZ cR am gm t0) sz)) (mC t0 t') (mS t0 t') (va_A (wX cI cJ cZ cR am gm t0) sz) := by
  refine Met.ofW (cc := cX6_addRow) (maxL := 9) (ret := (some .int)) (by decide) rfl ?_
  intro p e s m args below meth c s₁ B hml hv
  obtain ⟨rfl, ⟨hsz, hP, hK, hD0⟩, hsx⟩ := hv
  have hx := B.exec
  have hb := B.bytes
  have hts := atoms_spec (ws := (.code yX6_addRow cX6_addRow 9 (some .int) :: wsAll)) B.pre
  have hta := fun w h => hts w (List.mem_cons_of_mem _ h)
  have hown : s.vm.findClass RX6 = some m.cls := findClass_of_methodNamed B.named
  have hlocks := B.notSynchronized
  subst hsz
  have hD := hD0.self (sz := s.heap.size)
  generalize hAe : va_A (wX cI cJ cZ cR am gm t0) s.heap.size = A at hD ⊢
  have hA : ∀ q : Nat, s.heap.size ≤ q → A q := fun q h => by rw [← hAe]; exact Or.inr h
  have C0 : cxX p s m ([.ref (am 2006), .int a1, .int a2, .ref (am 701), .int a4, .int a5].toArray) meth c cX6_addRow RX6 9 (some .int) D (tyX cI cJ cZ cR) st A := ⟨⟨hx, hb, B.returns, hml, hown, hta, hlocks, hK, hA⟩, by rw [← hAe]; exact hsx⟩
  have hW : wl D A s (wX cI cJ cZ cR am gm t0) s.heap [] := ⟨hP, hD, va_S.rf⟩
  have hl := lv_entry [.ref (am 2006), .int a1, .int a2, .ref (am 701), .int a4, .int a5] (n := 9) (Nat.le_of_ble_eq_true rfl)
  rw [lg_entry_eq]
  generalize (lg_sl [.ref (am 2006), .int a1, .int a2, .ref (am 701), .int a4, .int a5] ++ List.replicate (9 - (lg_sl [.ref (am 2006), .int a1, .int a2, .ref (am 701), .int a4, .int a5]).length) Slot.unset).toArray = ls at hl ⊢
  have hl : lv_has ls 9 [(0, .ref (am 2006)), (1, .int a1), (2, .int a2), (3, .ref (am 701)), (4, .int a4), (5, .int a5)] := hl
  clear hAe hD hP hD0 hts
  have J43 : ∀ (gm : Nat → Nat) (t : St) (v1 : Int32) (v2 : Int32) (v4 : Int32) (v5 : Int32) (_ : x6_addRow_701_J43 t v1 v2 v4 v5 = some (r, t')) (_ : mle t0 t) (H : Heap) (locs : List Loc) (ls : Array Slot), wl D A s (wX cI cJ cZ cR am gm t) H locs → lv_has ls 9 [(0, .ref (am 2006)), (1, .int v1), (2, .int v2), (3, .ref (am 701)), (4, .int v4), (5, .int v5)] → W p l e (rmA 2 82 t0 t') s m ([.ref (am 2006), .int a1, .int a2, .ref (am 701), .int a4, .int a5].toArray) below meth c H locs (mC t0 t) (mS t0 t) (MQ below (qIa r D (tyX cI cJ cZ cR) (fun gm => wX cI cJ cZ cR am gm t') A) ([.ref (am 2006), .int a1, .int a2, .ref (am 701), .int a4, .int a5].toArray) s (mC t0 t') (mS t0 t') A) (F0 m 43 ls []) := by
    intro gm t v1 v2 v4 v5 ho h0 H locs ls hW hl
    have hE : mle t t' := (mm_x6_addRow_701_J43 _ _ _ _ _ _ ho)
    have hR := hR_of (t0 := t0) hE
    unfold x6_addRow_701_J43 at ho
    refine lv_iconst (v := (0 : Int32)) hx hb dX6_addRow_43 (by decide) ?_
    refine lv_istore (lv' := [(6, .int (0 : Int32)), (0, .ref (am 2006)), (1, .int v1), (2, .int v2), (3, .ref (am 701)), (4, .int v4), (5, .int v5)]) hx hb dX6_addRow_44 hl (by decide) rfl (fun ls hl => ?_)
    refine lv_iconst (v := (0 : Int32)) hx hb dX6_addRow_46 (by decide) ?_
    refine lv_istore (lv' := [(7, .int (0 : Int32)), (6, .int (0 : Int32)), (0, .ref (am 2006)), (1, .int v1), (2, .int v2), (3, .ref (am 701)), (4, .int v4), (5, .int v5)]) hx hb dX6_addRow_47 hl (by decide) rfl (fun ls hl => ?_)
    obtain ⟨y9, hc11, ho⟩ := bd_some ho
    have hm10 := mm_x6_addRow_701_L49 v1 v2 v4 v5 (0 : Int32) (0 : Int32) t _ hc11
    obtain ⟨ny9, hc11⟩ := lp_to hc11
    refine x6_addRow_701_L49 C0 hR ?_ ny9 _ _ _ hc11 _ _ _ hW (lv_sub hl [2, 3, 4, 5, 6, 7, 1, 0] rfl)
    intro H locs ls hW hl
    refine lv_aload_n hx hb dX6_addRow_97 rfl (lv_at hl 0 rfl) ?_
    refine lv_iload_n hx hb dX6_addRow_98 rfl (lv_at hl 1 rfl) ?_
    refine lv_iload hx hb dX6_addRow_99 (lv_at hl 3 rfl) ?_
    refine lv_iload_n hx hb dX6_addRow_101 rfl (lv_at hl 2 rfl) ?_
    refine lv_iload hx hb dX6_addRow_102 (lv_at hl 4 rfl) ?_
    obtain ⟨q12, hc13, ho⟩ := bd_some ho
    have hq12 := mm_x6_addKnot y9.2 v1 v5 v2 y9.1 _ hc13
    refine bkI C0.1 hW (runVX (As := [.int v1, .int v5, .int v2, .int y9.1]) (rest := []) C0 hW (c_x6_addKnot l _ y9.2 v1 v5 v2 y9.1 (r := q12.1) (t' := q12.2) hc13) cb_X6_X6_addKnot_68 6 6 rfl rfl rfl rfl rfl ⟨rfl, rfl⟩ ⟨Nat.le_of_ble_eq_true rfl, Nat.le_of_ble_eq_true rfl⟩ (Nat.le_of_ble_eq_true rfl) hl.1 dX6_addRow_104 ⟨hR.1, hR.2⟩) (fun H locs hW => ?_)
    refine lv_istore (lv' := [(7, .int q12.1), (0, .ref (am 2006)), (1, .int v1), (2, .int v2), (5, .int v5), (6, .int y9.1)]) hx hb dX6_addRow_107 hl (by decide) rfl (fun ls hl => ?_)
    refine lv_aload_n hx hb dX6_addRow_109 rfl (lv_at hl 1 rfl) ?_
    refine lv_dup hx hb dX6_addRow_110 rfl ?_
    refine xGET_610 C0 kw_206 hW dX6_addRow_111 ?_
    refine lv_iload hx hb dX6_addRow_114 (lv_at hl 4 rfl) ?_
    refine lv_iadd hx hb dX6_addRow_116 ?_
    refine xPUT_610 C0 kw_206 hW dX6_addRow_117 (fun H locs hW => ?_)
    obtain ⟨t14, ht14, ho, hW⟩ := nm_wm (P := fun t => wl D A s (wX cI cJ cZ cR am gm t) H locs) mle_sI ho hW
    refine lv_iload hx hb dX6_addRow_120 (lv_at hl 0 rfl) ?_
    refine W_up h0 (mle.trans (mle.trans hm10 hq12) ht14) ?_
    cases ho
    exact rtIa gm C0.1 hW dX6_addRow_122
  have hE : mle t0 t' := mm_x6_addRow_701 _ _ _ _ _ _ ho
  have hR := hR_of (t0 := t0) hE
  have h0 : mle t0 t0 := mle.rfl
  refine W_0 (t0 := t0) ?_
  unfold x6_addRow_701 at ho
  refine lv_aload_n hx hb dX6_addRow_0 rfl (lv_at hl 0 rfl) ?_
  refine xGET_610 C0 kw_206 hW dX6_addRow_1 ?_
  refine lv_iload hx hb dX6_addRow_4 (lv_at hl 5 rfl) ?_
  refine lv_iadd hx hb dX6_addRow_6 ?_
  refine lv_aload_n hx hb dX6_addRow_7 rfl (lv_at hl 0 rfl) ?_
  refine xGET_608 C0 kw_202 hW dX6_addRow_8 ?_
  refine xLEN_608 C0 hW dX6_addRow_11 ?_
  refine lv_icmp_le (tgt := 43) hx hb dX6_addRow_12 (by decide) (fun c15 => ?_) (fun c15 => ?_)
  · replace ho := ite_t c15 ho
    exact J43 gm _ _ _ _ _ ho h0 _ _ _ hW (lv_sub hl [0, 1, 2, 3, 4, 5] rfl)
  · replace ho := ite_f c15 ho
    refine lv_aload_n hx hb dX6_addRow_15 rfl (lv_at hl 0 rfl) ?_
    refine lv_aload_n hx hb dX6_addRow_16 rfl (lv_at hl 0 rfl) ?_
    refine xGET_608 C0 kw_202 hW dX6_addRow_17 ?_
    refine lv_iconst (v := (2 : Int32)) hx hb dX6_addRow_20 (by decide) ?_
    refine lv_aload_n hx hb dX6_addRow_21 rfl (lv_at hl 0 rfl) ?_
    refine xGET_608 C0 kw_202 hW dX6_addRow_22 ?_
    refine xLEN_608 C0 hW dX6_addRow_25 ?_
    refine lv_imul hx hb dX6_addRow_26 ?_
    refine lv_aload_n hx hb dX6_addRow_27 rfl (lv_at hl 0 rfl) ?_
    refine xGET_610 C0 kw_206 hW dX6_addRow_28 ?_
    refine lv_iload hx hb dX6_addRow_31 (lv_at hl 5 rfl) ?_
    refine lv_iadd hx hb dX6_addRow_33 ?_
    refine va_mmax (rest := [.ref (gm 608), .ref (am 2006)]) hx hb (C0.1.2.2.2.1.trans hl.1.symm) hown (hta _ kw_734) (hta _ kw_735) (hta _ kw_136) (hta _ kw_736) (Nat.le_of_ble_eq_true rfl) (Nat.le_of_ble_eq_true rfl) hR.1 hR.2 dX6_addRow_34 ?_
    obtain ⟨t16, g17, ho⟩ := cpy_some ho
    have ht16 := g17.mle
    have hEt16 := (mm_x6_addRow_701_J43 _ _ _ _ _ _ ho)
    refine xCOPY_608 (rest := []) C0 cb_X6_J7_copyOf_59c91_78 kw_202 hl.1 hW g17 h0 hEt16 (Nat.le_of_ble_eq_true rfl) (Nat.le_of_ble_eq_true rfl) (Nat.le_of_ble_eq_true rfl) dX6_addRow_37 dX6_addRow_40 (fun gm H locs hW => ?_)
    have h0 := mle.trans h0 ht16
    exact J43 gm _ _ _ _ _ ho h0 _ _ _ hW (lv_sub hl [0, 1, 2, 3, 4, 5] rfl)
abbrev RRt : Type := St → Int32 → Int32 → Option (Int32 × St)
def RRm (rr : RRt) : Prop := ∀ (t : St) (a b : Int32), MR (rr t a b) t (fun (q : Int32 × St) => q.2)
def RRok (l : Launch) (F L : Nat) (rr : RRt) : Prop := ∀ (D : va_G) (cI cJ cZ cR : ClassId) (am gm : Nat → Nat) (st sz : Nat) (t0 : St) (a1 a2 r : Int32) (t' : St), rr t0 a1 a2 = some (r, t') → Met l yX7_readRow (.code yX7_readRow cX7_readRow 5 (some .int) :: wsAll) (rmA F L t0 t') (va_Pc [.ref (am 2007), .int a1, .int a2] (prX D (tyX cI cJ cZ cR) (wX cI cJ cZ cR am gm t0) sz st)) (qIa r D (tyX cI cJ cZ cR) (fun gm => wX cI cJ cZ cR am gm t') (va_A (wX cI cJ cZ cR am gm t0) sz)) (mC t0 t') (mS t0 t') (va_A (wX cI cJ cZ cR am gm t0) sz)
theorem RRok.use {l : Launch} {F L : Nat} {rr : RRt} (h : RRok l F L rr) {D : va_G} {cI cJ cZ cR : ClassId} {am gm : Nat → Nat} {st : Nat} (sz : Nat) (t0 : St) (a1 a2 : Int32) {r : Int32} {t' : St} (ho : rr t0 a1 a2 = some (r, t')) : Met l yX7_readRow (.code yX7_readRow cX7_readRow 5 (some .int) :: wsAll) (rmA F L t0 t') (va_Pc [.ref (am 2007), .int a1, .int a2] (prX D (tyX cI cJ cZ cR) (wX cI cJ cZ cR am gm t0) sz st)) (qIa r D (tyX cI cJ cZ cR) (fun gm => wX cI cJ cZ cR am gm t') (va_A (wX cI cJ cZ cR am gm t0) sz)) (mC t0 t') (mS t0 t') (va_A (wX cI cJ cZ cR am gm t0) sz) := h D cI cJ cZ cR am gm st sz t0 a1 a2 r t' ho

noncomputable def x7_readSome_J117 (rr : RRt) (t : St) (v1 : Int32) (v2 : Int32) (v3 : Int32) (v4 : Int32) (v5 : Int32) (w1 : Int32) : Option ((Int32 × St) ⊕ (St)) :=
  (x7_hold t w1).bind (fun q1 => nm (v5 + (1 : Int32)) (fun x3 : Int32 => some (.inl (x3, q1))))
theorem mm_x7_readSome_J117 (rr : RRt) (hmm : RRm rr) (t : St) (v1 : Int32) (v2 : Int32) (v3 : Int32) (v4 : Int32) (v5 : Int32) (w1 : Int32) : MR (x7_readSome_J117 rr t v1 v2 v3 v4 v5 w1) t (Sum.elim (fun (x : Int32 × St) => x.2) (fun (y : St) => y)) := by
  unfold x7_readSome_J117
  exact MR_bind (mm_x7_hold t w1) (fun q1 hq1 => MR_nm (fun x3 _ => MR_some hq1))
noncomputable def x7_readSome_B56 (rr : RRt) (v1 : Int32) (v2 : Int32) (v3 : Int32) (v4 : Int32) (v5 : Int32) (t : St) : Option ((Int32 × St) ⊕ (St)) :=
  if (8 : Int32) < v5 then (some (.inr t)) else (if (gI t 704) = 0 then ((x7_next t).bind (fun q6 => if q6.1 = (44 : Int32) then (if v5 = (8 : Int32) then ((x7_refuse q6.2 (gI q6.2 703) (7 : Int32)).bind (fun q13 => nm (v5 + (1 : Int32)) (fun x15 : Int32 => some (.inl (x15, q13.2))))) else (nm (sI q6.2 703 ((gI q6.2 703) + (1 : Int32))) (fun t10 : St => (rr t10 (1 : Int32) v1).bind (fun q11 => x7_readSome_J117 rr q11.2 v1 v2 v3 v4 v5 q11.1)))) else (some (.inr q6.2)))) else (some (.inr t)))
theorem mm_x7_readSome_B56 (rr : RRt) (hmm : RRm rr) (v1 : Int32) (v2 : Int32) (v3 : Int32) (v4 : Int32) (v5 : Int32) (t : St) : MR (x7_readSome_B56 rr v1 v2 v3 v4 v5 t) t (Sum.elim (fun (x : Int32 × St) => x.2) (fun (y : St) => y)) := by
  unfold x7_readSome_B56
  exact MR_ite (MR_some mle.rfl) (MR_ite (MR_bind (mm_x7_next t) (fun q6 hq6 => MR_ite (MR_ite (MR_bind (mm_x7_refuse q6.2 (gI q6.2 703) (7 : Int32)) (fun q13 hq13 => MR_nm (fun x15 _ => MR_some (mle.trans hq6 hq13)))) (MR_nmS mle_sI (fun t10 ht10 => MR_bind (hmm t10 (1 : Int32) v1) (fun q11 hq11 => MR_wk (mle.trans (mle.trans hq6 ht10) hq11) (mm_x7_readSome_J117 rr hmm q11.2 v1 v2 v3 v4 v5 q11.1))))) (MR_some hq6))) (MR_some mle.rfl))
theorem mm_x7_readSome_L56 (rr : RRt) (hmm : RRm rr) (v1 : Int32) (v2 : Int32) (v3 : Int32) (v4 : Int32) (v5 : Int32) (t : St) : MR (lp (fun x => x7_readSome_B56 rr v1 v2 v3 v4 x.1 x.2) (v5, t)) t (fun (y : St) => y) := MR_lp (p := (fun (x : Int32 × St) => x.2)) (q := (fun (y : St) => y)) (fun x => mm_x7_readSome_B56 rr hmm v1 v2 v3 v4 x.1 x.2) (v5, t)
noncomputable def x7_readSome_J17 (rr : RRt) (t : St) : Option (Int32 × St) :=
  (x7_refuseHere t).bind (fun q16 => some (q16.1, q16.2))
theorem mm_x7_readSome_J17 (rr : RRt) (hmm : RRm rr) (t : St) : MR (x7_readSome_J17 rr t) t (fun (a : Int32 × St) => a.2) := by
  unfold x7_readSome_J17
  exact MR_bind (mm_x7_refuseHere t) (fun q16 hq16 => MR_some hq16)
noncomputable def x7_readSome_J177 (rr : RRt) (t : St) (v3 : Int32) : Option (Int32 × St) :=
  (x7_refuse t v3 (4 : Int32)).bind (fun q18 => some (q18.1, q18.2))
theorem mm_x7_readSome_J177 (rr : RRt) (hmm : RRm rr) (t : St) (v3 : Int32) : MR (x7_readSome_J177 rr t v3) t (fun (a : Int32 × St) => a.2) := by
  unfold x7_readSome_J177
  exact MR_bind (mm_x7_refuse t v3 (4 : Int32)) (fun q18 hq18 => MR_some hq18)
noncomputable def x7_readSome_J202 (rr : RRt) (t : St) (w0 : Int32) : Option (Int32 × St) :=
  some (w0, t)
theorem mm_x7_readSome_J202 (rr : RRt) (hmm : RRm rr) (t : St) (w0 : Int32) : MR (x7_readSome_J202 rr t w0) t (fun (a : Int32 × St) => a.2) := by
  unfold x7_readSome_J202
  exact MR_some mle.rfl
noncomputable def x7_readSome_J126 (rr : RRt) (t : St) (v2 : Int32) (v3 : Int32) (v4 : Int32) : Option (Int32 × St) :=
  nm ((gI t 702) - v4) (fun x20 : Int32 => nm (sI t 702 v4) (fun t21 : St => if (gI t21 704) = 0 then ((x7_closes t21 (93 : Int32)).bind (fun q23 => if q23.1 = 0 then (some ((-1 : Int32), q23.2)) else (nm (v2 - (48 : Int32)) (fun x27 : Int32 => if x27 = 0 then (x7_readSome_J177 rr q23.2 v3) else (if x27 ≤ x20 then ((x6_addRow_701 q23.2 (4 : Int32) x27 v4 x20).bind (fun q30 => x7_readSome_J202 rr q30.2 q30.1)) else (x7_readSome_J177 rr q23.2 v3)))))) else (some ((-1 : Int32), t21))))
theorem mm_x7_readSome_J126 (rr : RRt) (hmm : RRm rr) (t : St) (v2 : Int32) (v3 : Int32) (v4 : Int32) : MR (x7_readSome_J126 rr t v2 v3 v4) t (fun (a : Int32 × St) => a.2) := by
  unfold x7_readSome_J126
  exact MR_nm (fun x20 _ => MR_nmS mle_sI (fun t21 ht21 => MR_ite (MR_bind (mm_x7_closes t21 (93 : Int32)) (fun q23 hq23 => MR_ite (MR_some (mle.trans ht21 hq23)) (MR_nm (fun x27 _ => MR_ite (MR_wk (mle.trans ht21 hq23) (mm_x7_readSome_J177 rr hmm q23.2 v3)) (MR_ite (MR_bind (mm_x6_addRow_701 q23.2 (4 : Int32) x27 v4 x20) (fun q30 hq30 => MR_wk (mle.trans (mle.trans ht21 hq23) hq30) (mm_x7_readSome_J202 rr hmm q30.2 q30.1))) (MR_wk (mle.trans ht21 hq23) (mm_x7_readSome_J177 rr hmm q23.2 v3))))))) (MR_some ht21)))
noncomputable def x7_readSome_J50 (rr : RRt) (t : St) (v1 : Int32) (v2 : Int32) (v3 : Int32) (v4 : Int32) (w1 : Int32) : Option (Int32 × St) :=
  (x7_hold t w1).bind (fun q32 => (lp (fun x => x7_readSome_B56 rr v1 v2 v3 v4 x.1 x.2) ((1 : Int32), q32)).bind (fun y34 => x7_readSome_J126 rr y34 v2 v3 v4))
theorem mm_x7_readSome_J50 (rr : RRt) (hmm : RRm rr) (t : St) (v1 : Int32) (v2 : Int32) (v3 : Int32) (v4 : Int32) (w1 : Int32) : MR (x7_readSome_J50 rr t v1 v2 v3 v4 w1) t (fun (a : Int32 × St) => a.2) := by
  unfold x7_readSome_J50
  exact MR_bind (mm_x7_hold t w1) (fun q32 hq32 => MR_bind (mm_x7_readSome_L56 rr hmm v1 v2 v3 v4 (1 : Int32) q32) (fun y34 hm35 => MR_wk (mle.trans hq32 hm35) (mm_x7_readSome_J126 rr hmm y34 v2 v3 v4)))
noncomputable def x7_readSome (rr : RRt) (t0 : St) (a1 : Int32) : Option (Int32 × St) :=
  (x7_next t0).bind (fun q37 => if q37.1 < (48 : Int32) then (x7_readSome_J17 rr q37.2) else (if q37.1 ≤ (57 : Int32) then (nm (gI q37.2 703) (fun x41 : Int32 => nm (sI q37.2 703 ((gI q37.2 703) + (1 : Int32))) (fun t42 : St => nm (gI t42 702) (fun x43 : Int32 => (rr t42 (1 : Int32) a1).bind (fun q44 => x7_readSome_J50 rr q44.2 a1 q37.1 x41 x43 q44.1))))) else (x7_readSome_J17 rr q37.2)))
theorem mm_x7_readSome (rr : RRt) (hmm : RRm rr) (t0 : St) (a1 : Int32) : MR (x7_readSome rr t0 a1) t0 (fun (a : Int32 × St) => a.2) := by
  unfold x7_readSome
  exact MR_bind (mm_x7_next t0) (fun q37 hq37 => MR_ite (MR_wk hq37 (mm_x7_readSome_J17 rr hmm q37.2)) (MR_ite (MR_nm (fun x41 _ => MR_nmS mle_sI (fun t42 ht42 => MR_nm (fun x43 _ => MR_bind (hmm t42 (1 : Int32) a1) (fun q44 hq44 => MR_wk (mle.trans (mle.trans hq37 ht42) hq44) (mm_x7_readSome_J50 rr hmm q44.2 a1 q37.1 x41 x43 q44.1)))))) (MR_wk hq37 (mm_x7_readSome_J17 rr hmm q37.2))))
set_option maxHeartbeats 4000000 in
set_option maxRecDepth 100000 in
theorem x7_readSome_L56 {p : Program} {l : Launch} {e : Env} {s : State} {m : MethodId} {args : Array Value} {below : List Frame} {meth : Method} {c : Code} {Q : State → Prop} {F L : Nat} {rr : RRt} (hmm : RRm rr) (hrr : RRok l F L rr) {D : va_G} {cI cJ cZ cR : ClassId} {am gm : Nat → Nat} {st : Nat} {A : Nat → Prop} (C0 : cxX p s m args meth c cX7_readSome RX7 7 (some .int) D (tyX cI cJ cZ cR) st A) {t0 t' : St} {v1 : Int32} {v2 : Int32} {v3 : Int32} {v4 : Int32} {y : St} (hK0 : ∀ (gm : Nat → Nat) (H : Heap) (locs : List Loc) (ls : Array Slot), wl D A s (wX cI cJ cZ cR am gm y) H locs → lv_has ls 7 [(0, .ref (am 2007)), (2, .int v2), (3, .int v3), (4, .int v4)] → W p l e (rmA (F + 3) (L + 110) t0 t') s m args below meth c H locs (mC t0 y) (mS t0 y) Q (F0 m 126 ls [])) (hyE : mle ((fun (y : St) => y) y) t') :
    ∀ (n : Nat) (v5 : Int32) (t : St) (gm : Nat → Nat), lpn (fun x => x7_readSome_B56 rr v1 v2 v3 v4 x.1 x.2) n (v5, t) = some y → mle t0 t → ∀ (H : Heap) (locs : List Loc) (ls : Array Slot), wl D A s (wX cI cJ cZ cR am gm t) H locs → lv_has ls 7 [(0, .ref (am 2007)), (1, .int v1), (2, .int v2), (3, .int v3), (4, .int v4), (5, .int v5)] → W p l e (rmA (F + 3) (L + 110) t0 t') s m args below meth c H locs (mC t0 t) (mS t0 t) Q (F0 m 56 ls []) := by
  have hx := C0.1.1
  have hb := C0.1.2.1
  have hta := C0.1.2.2.2.2.2.1
  have hown := C0.1.2.2.2.2.1
  intro n
  induction n with
  | zero => intro _ _ _ h; cases h
  | succ n ih =>
    intro v5 t gm hrun h0 H locs ls hW hl
    have hE : mle t t' := mle.trans ((MR_lpn (p := (fun (x : Int32 × St) => x.2)) (q := (fun (y : St) => y)) (fun x => mm_x7_readSome_B56 rr hmm v1 v2 v3 v4 x.1 x.2) _ _ _ hrun)) hyE
    have hR := hR_of (t0 := t0) hE
    have LE : ∀ o, Sum.elim (fun x' => lpn (fun x => x7_readSome_B56 rr v1 v2 v3 v4 x.1 x.2) n x') (fun y => some y) o = some y → mle (Sum.elim (fun (x : Int32 × St) => x.2) (fun (y : St) => y) o) t' := by
      intro o ho
      cases o with
      | inl x => exact mle.trans ((MR_lpn (p := (fun (x : Int32 × St) => x.2)) (q := (fun (y : St) => y)) (fun x => mm_x7_readSome_B56 rr hmm v1 v2 v3 v4 x.1 x.2) _ _ _ ho)) hyE
      | inr z => cases ho; exact hyE
    obtain ⟨o, ho, hrun⟩ := bd_some hrun
    have J117 : ∀ (gm : Nat → Nat) (t : St) (v5 : Int32) (w1 : Int32) (_ : x7_readSome_J117 rr t v1 v2 v3 v4 v5 w1 = some o) (_ : mle t0 t) (H : Heap) (locs : List Loc) (ls : Array Slot), wl D A s (wX cI cJ cZ cR am gm t) H locs → lv_has ls 7 [(0, .ref (am 2007)), (1, .int v1), (2, .int v2), (3, .int v3), (4, .int v4), (5, .int v5)] → W p l e (rmA (F + 3) (L + 110) t0 t') s m args below meth c H locs (mC t0 t) (mS t0 t) Q (F0 m 117 ls [.int w1, .ref (am 2007)]) := by
      intro gm t v5 w1 ho h0 H locs ls hW hl
      have hE : mle t t' := (mle.trans (mm_x7_readSome_J117 rr hmm _ _ _ _ _ _ _ _ ho) (LE _ hrun))
      have hR := hR_of (t0 := t0) hE
      unfold x7_readSome_J117 at ho
      obtain ⟨q1, hc2, ho⟩ := bd_some ho
      have hq1 := mm_x7_hold t w1 _ hc2
      refine bkV C0.1 hW (runVX (As := [.int w1]) (rest := []) C0 hW (c_x7_hold l _ t w1 (t' := q1) hc2) cb_X7_X7_hold_59 7 7 rfl rfl rfl rfl rfl ⟨rfl, rfl⟩ ⟨(show 0 + 1 ≤ F + 3 by omega), (show 8 + (2 + 11) + (0) ≤ L + 110 by omega)⟩ (Nat.le_of_ble_eq_true rfl) hl.1 dX7_readSome_117 ⟨hR.1, hR.2⟩) (fun H locs hW => ?_)
      obtain ⟨x3, ex3, ho⟩ := nm_x ho
      refine lv_iinc (v := x3) (lv' := [(5, .int x3), (0, .ref (am 2007)), (1, .int v1), (2, .int v2), (3, .int v3), (4, .int v4)]) hx hb dX7_readSome_120 hl (k := 5) rfl (by rw [ex3]; rfl) (by decide) rfl (fun ls hl => ?_)
      clear ex3
      refine lv_goto (tgt := 56) hx hb dX7_readSome_123 (by decide) ?_
      cases ho
      refine W_up h0 hq1 ?_
      exact ih _ _ gm hrun (mle.trans h0 hq1) _ _ _ hW (lv_sub hl [1, 2, 3, 4, 5, 0] rfl)
    unfold x7_readSome_B56 at ho
    refine lv_iload hx hb dX7_readSome_56 (lv_at hl 5 rfl) ?_
    refine lv_bipush (v := (8 : Int32)) hx hb dX7_readSome_58 (by decide) ?_
    refine lv_icmp_gt (tgt := 126) hx hb dX7_readSome_60 (by decide) (fun c4 => ?_) (fun c4 => ?_)
    · replace ho := ite_t c4 ho
      cases ho
      cases hrun
      exact hK0 gm _ _ _ hW (lv_sub hl [0, 2, 3, 4] rfl)
    · replace ho := ite_f c4 ho
      refine lv_aload_n hx hb dX7_readSome_63 rfl (lv_at hl 0 rfl) ?_
      refine xGET_704 C0 kw_250 hW dX7_readSome_64 ?_
      refine lv_if_ne (tgt := 126) hx hb dX7_readSome_67 (by decide) (fun c5 => ?_) (fun c5 => ?_)
      · replace ho := ite_f c5 ho
        cases ho
        cases hrun
        exact hK0 gm _ _ _ hW (lv_sub hl [0, 2, 3, 4] rfl)
      · replace ho := ite_t c5 ho
        refine lv_aload_n hx hb dX7_readSome_70 rfl (lv_at hl 0 rfl) ?_
        obtain ⟨q6, hc7, ho⟩ := bd_some ho
        have hq6 := mm_x7_next t _ hc7
        refine bkI C0.1 hW (runVX (As := []) (rest := []) C0 hW (c_x7_next l _ t (r := q6.1) (t' := q6.2) hc7) cb_X7_X7_next_39 7 7 rfl rfl rfl rfl rfl ⟨rfl, rfl⟩ ⟨(show 0 + 1 ≤ F + 3 by omega), (show 8 + (1 + 11) + (0) ≤ L + 110 by omega)⟩ (Nat.le_of_ble_eq_true rfl) hl.1 dX7_readSome_71 ⟨hR.1, hR.2⟩) (fun H locs hW => ?_)
        refine lv_bipush (v := (44 : Int32)) hx hb dX7_readSome_74 (by decide) ?_
        refine lv_icmp_ne (tgt := 126) hx hb dX7_readSome_76 (by decide) (fun c8 => ?_) (fun c8 => ?_)
        · replace ho := ite_f c8 ho
          cases ho
          cases hrun
          refine W_up h0 hq6 ?_
          exact hK0 gm _ _ _ hW (lv_sub hl [0, 2, 3, 4] rfl)
        · replace ho := ite_t c8 ho
          refine lv_iload hx hb dX7_readSome_79 (lv_at hl 5 rfl) ?_
          refine lv_bipush (v := (8 : Int32)) hx hb dX7_readSome_81 (by decide) ?_
          refine lv_icmp_ne (tgt := 100) hx hb dX7_readSome_83 (by decide) (fun c9 => ?_) (fun c9 => ?_)
          · replace ho := ite_f c9 ho
            refine lv_aload_n hx hb dX7_readSome_100 rfl (lv_at hl 0 rfl) ?_
            refine lv_dup hx hb dX7_readSome_101 rfl ?_
            refine xGET_703 C0 kw_249 hW dX7_readSome_102 ?_
            refine lv_iconst (v := (1 : Int32)) hx hb dX7_readSome_105 (by decide) ?_
            refine lv_iadd hx hb dX7_readSome_106 ?_
            refine xPUT_703 C0 kw_249 hW dX7_readSome_107 (fun H locs hW => ?_)
            obtain ⟨t10, ht10, ho, hW⟩ := nm_wm (P := fun t => wl D A s (wX cI cJ cZ cR am gm t) H locs) mle_sI ho hW
            refine lv_aload_n hx hb dX7_readSome_110 rfl (lv_at hl 0 rfl) ?_
            refine lv_aload_n hx hb dX7_readSome_111 rfl (lv_at hl 0 rfl) ?_
            refine lv_iconst (v := (1 : Int32)) hx hb dX7_readSome_112 (by decide) ?_
            refine lv_iload_n hx hb dX7_readSome_113 rfl (lv_at hl 1 rfl) ?_
            obtain ⟨q11, hc12, ho⟩ := bd_some ho
            have hq11 := hmm t10 (1 : Int32) v1 _ hc12
            have hEq11 := (mle.trans (mm_x7_readSome_J117 rr hmm _ _ _ _ _ _ _ _ ho) (LE _ hrun))
            refine W_up h0 (mle.trans hq6 ht10) ?_
            have h0 := (mle.trans h0 (mle.trans hq6 ht10))
            refine bkIa C0.1 hW h0 hq11 (runVX (As := [.int (1 : Int32), .int v1]) (rest := [.ref (am 2007)]) C0 hW (RRok.use hrr _ t10 (1 : Int32) v1 (r := q11.1) (t' := q11.2) hc12) cb_X7_X7_readRow_35 7 7 rfl rfl rfl rfl rfl ⟨rfl, rfl⟩ ⟨(show F + 1 ≤ F + 3 by omega), (show 8 + (5 + 11) + (L) ≤ L + 110 by omega)⟩ (Nat.le_of_ble_eq_true rfl) hl.1 dX7_readSome_114 (hf_of h0 hq11 hEq11)) (fun gm H locs hW => ?_)
            have h0 := mle.trans h0 hq11
            exact J117 gm _ _ _ ho h0 _ _ _ hW (lv_sub hl [0, 1, 2, 3, 4, 5] rfl)
          · replace ho := ite_t c9 ho
            refine lv_aload_n hx hb dX7_readSome_86 rfl (lv_at hl 0 rfl) ?_
            refine lv_aload_n hx hb dX7_readSome_87 rfl (lv_at hl 0 rfl) ?_
            refine xGET_703 C0 kw_249 hW dX7_readSome_88 ?_
            refine lv_bipush (v := (7 : Int32)) hx hb dX7_readSome_91 (by decide) ?_
            obtain ⟨q13, hc14, ho⟩ := bd_some ho
            have hq13 := mm_x7_refuse q6.2 (gI q6.2 703) (7 : Int32) _ hc14
            refine bkI C0.1 hW (runVX (As := [.int (gI q6.2 703), .int (7 : Int32)]) (rest := []) C0 hW (c_x7_refuse l _ q6.2 (gI q6.2 703) (7 : Int32) (r := q13.1) (t' := q13.2) hc14) cb_X7_X7_refuse_43 7 7 rfl rfl rfl rfl rfl ⟨rfl, rfl⟩ ⟨(show 0 + 1 ≤ F + 3 by omega), (show 8 + (3 + 11) + (0) ≤ L + 110 by omega)⟩ (Nat.le_of_ble_eq_true rfl) hl.1 dX7_readSome_93 ⟨hR.1, hR.2⟩) (fun H locs hW => ?_)
            refine lv_pop hx hb dX7_readSome_96 rfl ?_
            refine lv_goto (tgt := 120) hx hb dX7_readSome_97 (by decide) ?_
            obtain ⟨x15, ex15, ho⟩ := nm_x ho
            refine lv_iinc (v := x15) (lv' := [(5, .int x15), (0, .ref (am 2007)), (1, .int v1), (2, .int v2), (3, .int v3), (4, .int v4)]) hx hb dX7_readSome_120 hl (k := 5) rfl (by rw [ex15]; rfl) (by decide) rfl (fun ls hl => ?_)
            clear ex15
            refine lv_goto (tgt := 56) hx hb dX7_readSome_123 (by decide) ?_
            cases ho
            refine W_up h0 (mle.trans hq6 hq13) ?_
            exact ih _ _ gm hrun (mle.trans h0 (mle.trans hq6 hq13)) _ _ _ hW (lv_sub hl [1, 2, 3, 4, 5, 0] rfl)
set_option maxHeartbeats 4000000 in
set_option maxRecDepth 100000 in
theorem c_x7_readSome (l : Launch) {F L : Nat} {rr : RRt} (hmm : RRm rr) (hrr : RRok l F L rr) {D : va_G} {cI cJ cZ cR : ClassId} {am gm : Nat → Nat} {st : Nat} (sz : Nat) (t0 : St) (a1 : Int32) {r : Int32} {t' : St} (ho : x7_readSome rr t0 a1 = some (r, t')) : Met l yX7_readSome (.code yX7_readSome cX7_readSome 7 (some .int) :: wsAll) (rmA (F + 3) (L + 110) t0 t') (va_Pc [.ref (am 2007), .int a1] (prX D (tyX cI cJ cZ cR) (wX cI cJ cZ cR am gm t0) sz st)) (qIa r D (tyX cI cJ cZ cR) (fun gm => wX cI cJ cZ cR am gm t') (va_A (wX cI cJ cZ cR am gm t0) sz)) (mC t0 t') (mS t0 t') (va_A (wX cI cJ cZ cR am gm t0) sz) := by
  refine Met.ofW (cc := cX7_readSome) (maxL := 7) (ret := (some .int)) (by decide) rfl ?_
  intro p e s m args below meth c s₁ B hml hv
  obtain ⟨rfl, ⟨hsz, hP, hK, hD0⟩, hsx⟩ := hv
  have hx := B.exec
  have hb := B.bytes
  have hts := atoms_spec (ws := (.code yX7_readSome cX7_readSome 7 (some .int) :: wsAll)) B.pre
  have hta := fun w h => hts w (List.mem_cons_of_mem _ h)
  have hown : s.vm.findClass RX7 = some m.cls := findClass_of_methodNamed B.named
  have hlocks := B.notSynchronized
  subst hsz
  have hD := hD0.self (sz := s.heap.size)
  generalize hAe : va_A (wX cI cJ cZ cR am gm t0) s.heap.size = A at hD ⊢
  have hA : ∀ q : Nat, s.heap.size ≤ q → A q := fun q h => by rw [← hAe]; exact Or.inr h
  have C0 : cxX p s m ([.ref (am 2007), .int a1].toArray) meth c cX7_readSome RX7 7 (some .int) D (tyX cI cJ cZ cR) st A := ⟨⟨hx, hb, B.returns, hml, hown, hta, hlocks, hK, hA⟩, by rw [← hAe]; exact hsx⟩
  have hW : wl D A s (wX cI cJ cZ cR am gm t0) s.heap [] := ⟨hP, hD, va_S.rf⟩
  have hl := lv_entry [.ref (am 2007), .int a1] (n := 7) (Nat.le_of_ble_eq_true rfl)
  rw [lg_entry_eq]
  generalize (lg_sl [.ref (am 2007), .int a1] ++ List.replicate (7 - (lg_sl [.ref (am 2007), .int a1]).length) Slot.unset).toArray = ls at hl ⊢
  have hl : lv_has ls 7 [(0, .ref (am 2007)), (1, .int a1)] := hl
  clear hAe hD hP hD0 hts
  have J17 : ∀ (gm : Nat → Nat) (t : St) (_ : x7_readSome_J17 rr t = some (r, t')) (_ : mle t0 t) (H : Heap) (locs : List Loc) (ls : Array Slot), wl D A s (wX cI cJ cZ cR am gm t) H locs → lv_has ls 7 [(0, .ref (am 2007))] → W p l e (rmA (F + 3) (L + 110) t0 t') s m ([.ref (am 2007), .int a1].toArray) below meth c H locs (mC t0 t) (mS t0 t) (MQ below (qIa r D (tyX cI cJ cZ cR) (fun gm => wX cI cJ cZ cR am gm t') A) ([.ref (am 2007), .int a1].toArray) s (mC t0 t') (mS t0 t') A) (F0 m 17 ls []) := by
    intro gm t ho h0 H locs ls hW hl
    have hE : mle t t' := (mm_x7_readSome_J17 rr hmm _ _ ho)
    have hR := hR_of (t0 := t0) hE
    unfold x7_readSome_J17 at ho
    refine lv_aload_n hx hb dX7_readSome_17 rfl (lv_at hl 0 rfl) ?_
    obtain ⟨q16, hc17, ho⟩ := bd_some ho
    have hq16 := mm_x7_refuseHere t _ hc17
    refine bkI C0.1 hW (runVX (As := []) (rest := []) C0 hW (c_x7_refuseHere l _ t (r := q16.1) (t' := q16.2) hc17) cb_X7_X7_refuseHere_80 7 7 rfl rfl rfl rfl rfl ⟨rfl, rfl⟩ ⟨(show 1 + 1 ≤ F + 3 by omega), (show 8 + (1 + 11) + (22) ≤ L + 110 by omega)⟩ (Nat.le_of_ble_eq_true rfl) hl.1 dX7_readSome_18 ⟨hR.1, hR.2⟩) (fun H locs hW => ?_)
    refine W_up h0 hq16 ?_
    cases ho
    exact rtIa gm C0.1 hW dX7_readSome_21
  have J177 : ∀ (gm : Nat → Nat) (t : St) (v3 : Int32) (_ : x7_readSome_J177 rr t v3 = some (r, t')) (_ : mle t0 t) (H : Heap) (locs : List Loc) (ls : Array Slot), wl D A s (wX cI cJ cZ cR am gm t) H locs → lv_has ls 7 [(0, .ref (am 2007)), (3, .int v3)] → W p l e (rmA (F + 3) (L + 110) t0 t') s m ([.ref (am 2007), .int a1].toArray) below meth c H locs (mC t0 t) (mS t0 t) (MQ below (qIa r D (tyX cI cJ cZ cR) (fun gm => wX cI cJ cZ cR am gm t') A) ([.ref (am 2007), .int a1].toArray) s (mC t0 t') (mS t0 t') A) (F0 m 177 ls []) := by
    intro gm t v3 ho h0 H locs ls hW hl
    have hE : mle t t' := (mm_x7_readSome_J177 rr hmm _ _ _ ho)
    have hR := hR_of (t0 := t0) hE
    unfold x7_readSome_J177 at ho
    refine lv_aload_n hx hb dX7_readSome_177 rfl (lv_at hl 0 rfl) ?_
    refine lv_iload_n hx hb dX7_readSome_178 rfl (lv_at hl 1 rfl) ?_
    refine lv_iconst (v := (4 : Int32)) hx hb dX7_readSome_179 (by decide) ?_
    obtain ⟨q18, hc19, ho⟩ := bd_some ho
    have hq18 := mm_x7_refuse t v3 (4 : Int32) _ hc19
    refine bkI C0.1 hW (runVX (As := [.int v3, .int (4 : Int32)]) (rest := []) C0 hW (c_x7_refuse l _ t v3 (4 : Int32) (r := q18.1) (t' := q18.2) hc19) cb_X7_X7_refuse_43 7 7 rfl rfl rfl rfl rfl ⟨rfl, rfl⟩ ⟨(show 0 + 1 ≤ F + 3 by omega), (show 8 + (3 + 11) + (0) ≤ L + 110 by omega)⟩ (Nat.le_of_ble_eq_true rfl) hl.1 dX7_readSome_180 ⟨hR.1, hR.2⟩) (fun H locs hW => ?_)
    refine W_up h0 hq18 ?_
    cases ho
    exact rtIa gm C0.1 hW dX7_readSome_183
  have J202 : ∀ (gm : Nat → Nat) (t : St) (w0 : Int32) (_ : x7_readSome_J202 rr t w0 = some (r, t')) (_ : mle t0 t) (H : Heap) (locs : List Loc) (ls : Array Slot), wl D A s (wX cI cJ cZ cR am gm t) H locs → lv_has ls 7 [(0, .ref (am 2007))] → W p l e (rmA (F + 3) (L + 110) t0 t') s m ([.ref (am 2007), .int a1].toArray) below meth c H locs (mC t0 t) (mS t0 t) (MQ below (qIa r D (tyX cI cJ cZ cR) (fun gm => wX cI cJ cZ cR am gm t') A) ([.ref (am 2007), .int a1].toArray) s (mC t0 t') (mS t0 t') A) (F0 m 202 ls [.int w0]) := by
    intro gm t w0 ho h0 H locs ls hW hl
    have hE : mle t t' := (mm_x7_readSome_J202 rr hmm _ _ _ ho)
    have hR := hR_of (t0 := t0) hE
    unfold x7_readSome_J202 at ho
    cases ho
    exact rtIa gm C0.1 hW dX7_readSome_202
  have J126 : ∀ (gm : Nat → Nat) (t : St) (v2 : Int32) (v3 : Int32) (v4 : Int32) (_ : x7_readSome_J126 rr t v2 v3 v4 = some (r, t')) (_ : mle t0 t) (H : Heap) (locs : List Loc) (ls : Array Slot), wl D A s (wX cI cJ cZ cR am gm t) H locs → lv_has ls 7 [(0, .ref (am 2007)), (2, .int v2), (3, .int v3), (4, .int v4)] → W p l e (rmA (F + 3) (L + 110) t0 t') s m ([.ref (am 2007), .int a1].toArray) below meth c H locs (mC t0 t) (mS t0 t) (MQ below (qIa r D (tyX cI cJ cZ cR) (fun gm => wX cI cJ cZ cR am gm t') A) ([.ref (am 2007), .int a1].toArray) s (mC t0 t') (mS t0 t') A) (F0 m 126 ls []) := by
    intro gm t v2 v3 v4 ho h0 H locs ls hW hl
    have hE : mle t t' := (mm_x7_readSome_J126 rr hmm _ _ _ _ _ ho)
    have hR := hR_of (t0 := t0) hE
    unfold x7_readSome_J126 at ho
    refine lv_aload_n hx hb dX7_readSome_126 rfl (lv_at hl 0 rfl) ?_
    refine xGET_702 C0 kw_248 hW dX7_readSome_127 ?_
    refine lv_iload hx hb dX7_readSome_130 (lv_at hl 3 rfl) ?_
    refine lv_isub hx hb dX7_readSome_132 ?_
    refine lv_nmi ho (fun x20 ho => ?_)
    refine lv_istore (lv' := [(5, .int x20), (0, .ref (am 2007)), (2, .int v2), (3, .int v3), (4, .int v4)]) hx hb dX7_readSome_133 hl (by decide) rfl (fun ls hl => ?_)
    refine lv_aload_n hx hb dX7_readSome_135 rfl (lv_at hl 1 rfl) ?_
    refine lv_iload hx hb dX7_readSome_136 (lv_at hl 4 rfl) ?_
    refine xPUT_702 C0 kw_248 hW dX7_readSome_138 (fun H locs hW => ?_)
    obtain ⟨t21, ht21, ho, hW⟩ := nm_wm (P := fun t => wl D A s (wX cI cJ cZ cR am gm t) H locs) mle_sI ho hW
    refine lv_aload_n hx hb dX7_readSome_141 rfl (lv_at hl 1 rfl) ?_
    refine xGET_704 C0 kw_250 hW dX7_readSome_142 ?_
    refine lv_if_ne (tgt := 157) hx hb dX7_readSome_145 (by decide) (fun c22 => ?_) (fun c22 => ?_)
    · replace ho := ite_f c22 ho
      refine lv_iconst (v := (-1 : Int32)) hx hb dX7_readSome_157 (by decide) ?_
      refine W_up h0 ht21 ?_
      cases ho
      exact rtIa gm C0.1 hW dX7_readSome_158
    · replace ho := ite_t c22 ho
      refine lv_aload_n hx hb dX7_readSome_148 rfl (lv_at hl 1 rfl) ?_
      refine lv_bipush (v := (93 : Int32)) hx hb dX7_readSome_149 (by decide) ?_
      obtain ⟨q23, hc24, ho⟩ := bd_some ho
      have hq23 := mm_x7_closes t21 (93 : Int32) _ hc24
      refine bkZ C0.1 hW (runVX (As := [.int (93 : Int32)]) (rest := []) C0 hW (c_x7_closes l _ t21 (93 : Int32) (r := q23.1) (t' := q23.2) hc24) cb_X7_X7_closes_92 7 7 rfl rfl rfl rfl rfl ⟨rfl, rfl⟩ ⟨(show 2 + 1 ≤ F + 3 by omega), (show 8 + (2 + 11) + (42) ≤ L + 110 by omega)⟩ (Nat.le_of_ble_eq_true rfl) hl.1 dX7_readSome_151 ⟨hR.1, hR.2⟩) (fun z25 H locs hW => ?_)
      refine lv_if_ne (tgt := 159) hx hb dX7_readSome_154 (by decide) (fun c26 => ?_) (fun c26 => ?_)
      · replace ho := ite_f c26 ho
        refine lv_iload_n hx hb dX7_readSome_159 rfl (lv_at hl 2 rfl) ?_
        refine lv_bipush (v := (48 : Int32)) hx hb dX7_readSome_160 (by decide) ?_
        refine lv_isub hx hb dX7_readSome_162 ?_
        refine lv_nmi ho (fun x27 ho => ?_)
        refine lv_istore (lv' := [(6, .int x27), (5, .int x20), (0, .ref (am 2007)), (2, .int v2), (3, .int v3), (4, .int v4)]) hx hb dX7_readSome_163 hl (by decide) rfl (fun ls hl => ?_)
        refine lv_iload hx hb dX7_readSome_165 (lv_at hl 0 rfl) ?_
        refine lv_if_eq (tgt := 177) hx hb dX7_readSome_167 (by decide) (fun c28 => ?_) (fun c28 => ?_)
        · replace ho := ite_t c28 ho
          refine W_up h0 (mle.trans ht21 hq23) ?_
          exact J177 gm _ _ ho (mle.trans h0 (mle.trans ht21 hq23)) _ _ _ hW (lv_sub hl [2, 4] rfl)
        · replace ho := ite_f c28 ho
          refine lv_iload hx hb dX7_readSome_170 (lv_at hl 0 rfl) ?_
          refine lv_iload hx hb dX7_readSome_172 (lv_at hl 1 rfl) ?_
          refine lv_icmp_le (tgt := 184) hx hb dX7_readSome_174 (by decide) (fun c29 => ?_) (fun c29 => ?_)
          · replace ho := ite_t c29 ho
            refine lv_aload_n hx hb dX7_readSome_184 rfl (lv_at hl 2 rfl) ?_
            refine xGET_700 C0 kw_246 hW dX7_readSome_185 ?_
            refine lv_iconst (v := (4 : Int32)) hx hb dX7_readSome_188 (by decide) ?_
            refine lv_iload hx hb dX7_readSome_189 (lv_at hl 0 rfl) ?_
            refine lv_aload_n hx hb dX7_readSome_191 rfl (lv_at hl 2 rfl) ?_
            refine xGET_701 C0 kw_247 hW dX7_readSome_192 ?_
            refine lv_iload hx hb dX7_readSome_195 (lv_at hl 5 rfl) ?_
            refine lv_iload hx hb dX7_readSome_197 (lv_at hl 1 rfl) ?_
            obtain ⟨q30, hc31, ho⟩ := bd_some ho
            have hq30 := mm_x6_addRow_701 q23.2 (4 : Int32) x27 v4 x20 _ hc31
            have hEq30 := (mm_x7_readSome_J202 rr hmm _ _ _ ho)
            refine W_up h0 (mle.trans ht21 hq23) ?_
            have h0 := (mle.trans h0 (mle.trans ht21 hq23))
            refine bkIa C0.1 hW h0 hq30 (runVX (As := [.int (4 : Int32), .int x27, .ref (am 701), .int v4, .int x20]) (rest := []) C0 hW (c_x6_addRow_701 l _ q23.2 (4 : Int32) x27 v4 x20 (r := q30.1) (t' := q30.2) hc31) cb_X7_X6_addRow_67 6 6 rfl rfl rfl rfl rfl ⟨rfl, rfl⟩ ⟨(show 2 + 1 ≤ F + 3 by omega), (show 8 + (9 + 11) + (82) ≤ L + 110 by omega)⟩ (Nat.le_of_ble_eq_true rfl) hl.1 dX7_readSome_199 (hf_of h0 hq30 hEq30)) (fun gm H locs hW => ?_)
            have h0 := mle.trans h0 hq30
            exact J202 gm _ _ ho h0 _ _ _ hW (lv_sub hl [2] rfl)
          · replace ho := ite_f c29 ho
            refine W_up h0 (mle.trans ht21 hq23) ?_
            exact J177 gm _ _ ho (mle.trans h0 (mle.trans ht21 hq23)) _ _ _ hW (lv_sub hl [2, 4] rfl)
      · replace ho := ite_t c26 ho
        refine lv_iconst (v := (-1 : Int32)) hx hb dX7_readSome_157 (by decide) ?_
        refine W_up h0 (mle.trans ht21 hq23) ?_
        cases ho
        exact rtIa gm C0.1 hW dX7_readSome_158
  have J50 : ∀ (gm : Nat → Nat) (t : St) (v1 : Int32) (v2 : Int32) (v3 : Int32) (v4 : Int32) (w1 : Int32) (_ : x7_readSome_J50 rr t v1 v2 v3 v4 w1 = some (r, t')) (_ : mle t0 t) (H : Heap) (locs : List Loc) (ls : Array Slot), wl D A s (wX cI cJ cZ cR am gm t) H locs → lv_has ls 7 [(0, .ref (am 2007)), (1, .int v1), (2, .int v2), (3, .int v3), (4, .int v4)] → W p l e (rmA (F + 3) (L + 110) t0 t') s m ([.ref (am 2007), .int a1].toArray) below meth c H locs (mC t0 t) (mS t0 t) (MQ below (qIa r D (tyX cI cJ cZ cR) (fun gm => wX cI cJ cZ cR am gm t') A) ([.ref (am 2007), .int a1].toArray) s (mC t0 t') (mS t0 t') A) (F0 m 50 ls [.int w1, .ref (am 2007)]) := by
    intro gm t v1 v2 v3 v4 w1 ho h0 H locs ls hW hl
    have hE : mle t t' := (mm_x7_readSome_J50 rr hmm _ _ _ _ _ _ _ ho)
    have hR := hR_of (t0 := t0) hE
    unfold x7_readSome_J50 at ho
    obtain ⟨q32, hc33, ho⟩ := bd_some ho
    have hq32 := mm_x7_hold t w1 _ hc33
    refine bkV C0.1 hW (runVX (As := [.int w1]) (rest := []) C0 hW (c_x7_hold l _ t w1 (t' := q32) hc33) cb_X7_X7_hold_59 7 7 rfl rfl rfl rfl rfl ⟨rfl, rfl⟩ ⟨(show 0 + 1 ≤ F + 3 by omega), (show 8 + (2 + 11) + (0) ≤ L + 110 by omega)⟩ (Nat.le_of_ble_eq_true rfl) hl.1 dX7_readSome_50 ⟨hR.1, hR.2⟩) (fun H locs hW => ?_)
    refine lv_iconst (v := (1 : Int32)) hx hb dX7_readSome_53 (by decide) ?_
    refine lv_istore (lv' := [(5, .int (1 : Int32)), (0, .ref (am 2007)), (1, .int v1), (2, .int v2), (3, .int v3), (4, .int v4)]) hx hb dX7_readSome_54 hl (by decide) rfl (fun ls hl => ?_)
    obtain ⟨y34, hc36, ho⟩ := bd_some ho
    have hm35 := mm_x7_readSome_L56 rr hmm v1 v2 v3 v4 (1 : Int32) q32 _ hc36
    have hEy34 := (mm_x7_readSome_J126 rr hmm _ _ _ _ _ ho)
    obtain ⟨ny34, hc36⟩ := lp_to hc36
    refine W_up h0 hq32 ?_
    refine x7_readSome_L56 hmm hrr (gm := gm) C0 ?_ hEy34 ny34 _ _ gm hc36 (mle.trans h0 hq32) _ _ _ hW (lv_sub hl [1, 2, 3, 4, 5, 0] rfl)
    intro gm H locs ls hW hl
    have h0 := mle.trans h0 (mle.trans hq32 hm35)
    exact J126 gm _ _ _ _ ho h0 _ _ _ hW (lv_sub hl [0, 1, 2, 3] rfl)
  have hE : mle t0 t' := mm_x7_readSome rr hmm _ _ _ ho
  have hR := hR_of (t0 := t0) hE
  have h0 : mle t0 t0 := mle.rfl
  refine W_0 (t0 := t0) ?_
  unfold x7_readSome at ho
  refine lv_aload_n hx hb dX7_readSome_0 rfl (lv_at hl 0 rfl) ?_
  obtain ⟨q37, hc38, ho⟩ := bd_some ho
  have hq37 := mm_x7_next t0 _ hc38
  refine bkI C0.1 hW (runVX (As := []) (rest := []) C0 hW (c_x7_next l _ t0 (r := q37.1) (t' := q37.2) hc38) cb_X7_X7_next_39 7 7 rfl rfl rfl rfl rfl ⟨rfl, rfl⟩ ⟨(show 0 + 1 ≤ F + 3 by omega), (show 8 + (1 + 11) + (0) ≤ L + 110 by omega)⟩ (Nat.le_of_ble_eq_true rfl) hl.1 dX7_readSome_1 ⟨hR.1, hR.2⟩) (fun H locs hW => ?_)
  refine lv_istore_n (lv' := [(2, .int q37.1), (0, .ref (am 2007)), (1, .int a1)]) hx hb dX7_readSome_4 rfl hl (by decide) rfl (fun ls hl => ?_)
  refine lv_iload_n hx hb dX7_readSome_5 rfl (lv_at hl 0 rfl) ?_
  refine lv_bipush (v := (48 : Int32)) hx hb dX7_readSome_6 (by decide) ?_
  refine lv_icmp_lt (tgt := 17) hx hb dX7_readSome_8 (by decide) (fun c39 => ?_) (fun c39 => ?_)
  · replace ho := ite_t c39 ho
    refine W_up h0 hq37 ?_
    exact J17 gm _ ho (mle.trans h0 hq37) _ _ _ hW (lv_sub hl [1] rfl)
  · replace ho := ite_f c39 ho
    refine lv_iload_n hx hb dX7_readSome_11 rfl (lv_at hl 0 rfl) ?_
    refine lv_bipush (v := (57 : Int32)) hx hb dX7_readSome_12 (by decide) ?_
    refine lv_icmp_le (tgt := 22) hx hb dX7_readSome_14 (by decide) (fun c40 => ?_) (fun c40 => ?_)
    · replace ho := ite_t c40 ho
      refine lv_aload_n hx hb dX7_readSome_22 rfl (lv_at hl 1 rfl) ?_
      refine xGET_703 C0 kw_249 hW dX7_readSome_23 ?_
      refine lv_nmi ho (fun x41 ho => ?_)
      refine lv_istore_n (lv' := [(3, .int x41), (2, .int q37.1), (0, .ref (am 2007)), (1, .int a1)]) hx hb dX7_readSome_26 rfl hl (by decide) rfl (fun ls hl => ?_)
      refine lv_aload_n hx hb dX7_readSome_27 rfl (lv_at hl 2 rfl) ?_
      refine lv_dup hx hb dX7_readSome_28 rfl ?_
      refine xGET_703 C0 kw_249 hW dX7_readSome_29 ?_
      refine lv_iconst (v := (1 : Int32)) hx hb dX7_readSome_32 (by decide) ?_
      refine lv_iadd hx hb dX7_readSome_33 ?_
      refine xPUT_703 C0 kw_249 hW dX7_readSome_34 (fun H locs hW => ?_)
      obtain ⟨t42, ht42, ho, hW⟩ := nm_wm (P := fun t => wl D A s (wX cI cJ cZ cR am gm t) H locs) mle_sI ho hW
      refine lv_aload_n hx hb dX7_readSome_37 rfl (lv_at hl 2 rfl) ?_
      refine xGET_702 C0 kw_248 hW dX7_readSome_38 ?_
      refine lv_nmi ho (fun x43 ho => ?_)
      refine lv_istore (lv' := [(4, .int x43), (3, .int x41), (2, .int q37.1), (0, .ref (am 2007)), (1, .int a1)]) hx hb dX7_readSome_41 hl (by decide) rfl (fun ls hl => ?_)
      refine lv_aload_n hx hb dX7_readSome_43 rfl (lv_at hl 3 rfl) ?_
      refine lv_aload_n hx hb dX7_readSome_44 rfl (lv_at hl 3 rfl) ?_
      refine lv_iconst (v := (1 : Int32)) hx hb dX7_readSome_45 (by decide) ?_
      refine lv_iload_n hx hb dX7_readSome_46 rfl (lv_at hl 4 rfl) ?_
      obtain ⟨q44, hc45, ho⟩ := bd_some ho
      have hq44 := hmm t42 (1 : Int32) a1 _ hc45
      have hEq44 := (mm_x7_readSome_J50 rr hmm _ _ _ _ _ _ _ ho)
      refine W_up h0 (mle.trans hq37 ht42) ?_
      have h0 := (mle.trans h0 (mle.trans hq37 ht42))
      refine bkIa C0.1 hW h0 hq44 (runVX (As := [.int (1 : Int32), .int a1]) (rest := [.ref (am 2007)]) C0 hW (RRok.use hrr _ t42 (1 : Int32) a1 (r := q44.1) (t' := q44.2) hc45) cb_X7_X7_readRow_35 7 7 rfl rfl rfl rfl rfl ⟨rfl, rfl⟩ ⟨(show F + 1 ≤ F + 3 by omega), (show 8 + (5 + 11) + (L) ≤ L + 110 by omega)⟩ (Nat.le_of_ble_eq_true rfl) hl.1 dX7_readSome_47 (hf_of h0 hq44 hEq44)) (fun gm H locs hW => ?_)
      have h0 := mle.trans h0 hq44
      exact J50 gm _ _ _ _ _ _ ho h0 _ _ _ hW (lv_sub hl [3, 4, 2, 1, 0] rfl)
    · replace ho := ite_f c40 ho
      refine W_up h0 hq37 ?_
      exact J17 gm _ ho (mle.trans h0 hq37) _ _ _ hW (lv_sub hl [1] rfl)
noncomputable def x7_readInside_J6 (rr : RRt) (t : St) (w0 : Int32) : Option (Int32 × St) :=
  if (gI t 704) = 0 then ((x7_closes t (41 : Int32)).bind (fun q2 => if q2.1 = 0 then (some ((-1 : Int32), q2.2)) else (some (w0, q2.2)))) else (some ((-1 : Int32), t))
theorem mm_x7_readInside_J6 (rr : RRt) (hmm : RRm rr) (t : St) (w0 : Int32) : MR (x7_readInside_J6 rr t w0) t (fun (a : Int32 × St) => a.2) := by
  unfold x7_readInside_J6
  exact MR_ite (MR_bind (mm_x7_closes t (41 : Int32)) (fun q2 hq2 => MR_ite (MR_some hq2) (MR_some hq2))) (MR_some mle.rfl)
noncomputable def x7_readInside (rr : RRt) (t0 : St) (a1 : Int32) : Option (Int32 × St) :=
  (rr t0 (1 : Int32) a1).bind (fun q6 => x7_readInside_J6 rr q6.2 q6.1)
theorem mm_x7_readInside (rr : RRt) (hmm : RRm rr) (t0 : St) (a1 : Int32) : MR (x7_readInside rr t0 a1) t0 (fun (a : Int32 × St) => a.2) := by
  unfold x7_readInside
  exact MR_bind (hmm t0 (1 : Int32) a1) (fun q6 hq6 => MR_wk hq6 (mm_x7_readInside_J6 rr hmm q6.2 q6.1))
set_option maxHeartbeats 4000000 in
set_option maxRecDepth 100000 in
theorem c_x7_readInside (l : Launch) {F L : Nat} {rr : RRt} (hmm : RRm rr) (hrr : RRok l F L rr) {D : va_G} {cI cJ cZ cR : ClassId} {am gm : Nat → Nat} {st : Nat} (sz : Nat) (t0 : St) (a1 : Int32) {r : Int32} {t' : St} (ho : x7_readInside rr t0 a1 = some (r, t')) : Met l yX7_readInside (.code yX7_readInside cX7_readInside 3 (some .int) :: wsAll) (rmA (F + 3) (L + 63) t0 t') (va_Pc [.ref (am 2007), .int a1] (prX D (tyX cI cJ cZ cR) (wX cI cJ cZ cR am gm t0) sz st)) (qIa r D (tyX cI cJ cZ cR) (fun gm => wX cI cJ cZ cR am gm t') (va_A (wX cI cJ cZ cR am gm t0) sz)) (mC t0 t') (mS t0 t') (va_A (wX cI cJ cZ cR am gm t0) sz) := by
  refine Met.ofW (cc := cX7_readInside) (maxL := 3) (ret := (some .int)) (by decide) rfl ?_
  intro p e s m args below meth c s₁ B hml hv
  obtain ⟨rfl, ⟨hsz, hP, hK, hD0⟩, hsx⟩ := hv
  have hx := B.exec
  have hb := B.bytes
  have hts := atoms_spec (ws := (.code yX7_readInside cX7_readInside 3 (some .int) :: wsAll)) B.pre
  have hta := fun w h => hts w (List.mem_cons_of_mem _ h)
  have hown : s.vm.findClass RX7 = some m.cls := findClass_of_methodNamed B.named
  have hlocks := B.notSynchronized
  subst hsz
  have hD := hD0.self (sz := s.heap.size)
  generalize hAe : va_A (wX cI cJ cZ cR am gm t0) s.heap.size = A at hD ⊢
  have hA : ∀ q : Nat, s.heap.size ≤ q → A q := fun q h => by rw [← hAe]; exact Or.inr h
  have C0 : cxX p s m ([.ref (am 2007), .int a1].toArray) meth c cX7_readInside RX7 3 (some .int) D (tyX cI cJ cZ cR) st A := ⟨⟨hx, hb, B.returns, hml, hown, hta, hlocks, hK, hA⟩, by rw [← hAe]; exact hsx⟩
  have hW : wl D A s (wX cI cJ cZ cR am gm t0) s.heap [] := ⟨hP, hD, va_S.rf⟩
  have hl := lv_entry [.ref (am 2007), .int a1] (n := 3) (Nat.le_of_ble_eq_true rfl)
  rw [lg_entry_eq]
  generalize (lg_sl [.ref (am 2007), .int a1] ++ List.replicate (3 - (lg_sl [.ref (am 2007), .int a1]).length) Slot.unset).toArray = ls at hl ⊢
  have hl : lv_has ls 3 [(0, .ref (am 2007)), (1, .int a1)] := hl
  clear hAe hD hP hD0 hts
  have J6 : ∀ (gm : Nat → Nat) (t : St) (w0 : Int32) (_ : x7_readInside_J6 rr t w0 = some (r, t')) (_ : mle t0 t) (H : Heap) (locs : List Loc) (ls : Array Slot), wl D A s (wX cI cJ cZ cR am gm t) H locs → lv_has ls 3 [(0, .ref (am 2007))] → W p l e (rmA (F + 3) (L + 63) t0 t') s m ([.ref (am 2007), .int a1].toArray) below meth c H locs (mC t0 t) (mS t0 t) (MQ below (qIa r D (tyX cI cJ cZ cR) (fun gm => wX cI cJ cZ cR am gm t') A) ([.ref (am 2007), .int a1].toArray) s (mC t0 t') (mS t0 t') A) (F0 m 6 ls [.int w0]) := by
    intro gm t w0 ho h0 H locs ls hW hl
    have hE : mle t t' := (mm_x7_readInside_J6 rr hmm _ _ _ ho)
    have hR := hR_of (t0 := t0) hE
    unfold x7_readInside_J6 at ho
    refine lv_istore_n (lv' := [(2, .int w0), (0, .ref (am 2007))]) hx hb dX7_readInside_6 rfl hl (by decide) rfl (fun ls hl => ?_)
    refine lv_aload_n hx hb dX7_readInside_7 rfl (lv_at hl 1 rfl) ?_
    refine xGET_704 C0 kw_250 hW dX7_readInside_8 ?_
    refine lv_if_ne (tgt := 27) hx hb dX7_readInside_11 (by decide) (fun c1 => ?_) (fun c1 => ?_)
    · replace ho := ite_f c1 ho
      refine lv_iconst (v := (-1 : Int32)) hx hb dX7_readInside_27 (by decide) ?_
      cases ho
      exact rtIa gm C0.1 hW dX7_readInside_28
    · replace ho := ite_t c1 ho
      refine lv_aload_n hx hb dX7_readInside_14 rfl (lv_at hl 1 rfl) ?_
      refine lv_bipush (v := (41 : Int32)) hx hb dX7_readInside_15 (by decide) ?_
      obtain ⟨q2, hc3, ho⟩ := bd_some ho
      have hq2 := mm_x7_closes t (41 : Int32) _ hc3
      refine bkZ C0.1 hW (runVX (As := [.int (41 : Int32)]) (rest := []) C0 hW (c_x7_closes l _ t (41 : Int32) (r := q2.1) (t' := q2.2) hc3) cb_X7_X7_closes_92 7 7 rfl rfl rfl rfl rfl ⟨rfl, rfl⟩ ⟨(show 2 + 1 ≤ F + 3 by omega), (show 8 + (2 + 11) + (42) ≤ L + 63 by omega)⟩ (Nat.le_of_ble_eq_true rfl) hl.1 dX7_readInside_17 ⟨hR.1, hR.2⟩) (fun z4 H locs hW => ?_)
      refine lv_if_eq (tgt := 27) hx hb dX7_readInside_20 (by decide) (fun c5 => ?_) (fun c5 => ?_)
      · replace ho := ite_t c5 ho
        refine lv_iconst (v := (-1 : Int32)) hx hb dX7_readInside_27 (by decide) ?_
        refine W_up h0 hq2 ?_
        cases ho
        exact rtIa gm C0.1 hW dX7_readInside_28
      · replace ho := ite_f c5 ho
        refine lv_iload_n hx hb dX7_readInside_23 rfl (lv_at hl 0 rfl) ?_
        refine lv_goto (tgt := 28) hx hb dX7_readInside_24 (by decide) ?_
        refine W_up h0 hq2 ?_
        cases ho
        exact rtIa gm C0.1 hW dX7_readInside_28
  have hE : mle t0 t' := mm_x7_readInside rr hmm _ _ _ ho
  have hR := hR_of (t0 := t0) hE
  have h0 : mle t0 t0 := mle.rfl
  refine W_0 (t0 := t0) ?_
  unfold x7_readInside at ho
  refine lv_aload_n hx hb dX7_readInside_0 rfl (lv_at hl 0 rfl) ?_
  refine lv_iconst (v := (1 : Int32)) hx hb dX7_readInside_1 (by decide) ?_
  refine lv_iload_n hx hb dX7_readInside_2 rfl (lv_at hl 1 rfl) ?_
  obtain ⟨q6, hc7, ho⟩ := bd_some ho
  have hq6 := hmm t0 (1 : Int32) a1 _ hc7
  have hEq6 := (mm_x7_readInside_J6 rr hmm _ _ _ ho)
  refine bkIa C0.1 hW h0 hq6 (runVX (As := [.int (1 : Int32), .int a1]) (rest := []) C0 hW (RRok.use hrr _ t0 (1 : Int32) a1 (r := q6.1) (t' := q6.2) hc7) cb_X7_X7_readRow_35 7 7 rfl rfl rfl rfl rfl ⟨rfl, rfl⟩ ⟨(show F + 1 ≤ F + 3 by omega), (show 8 + (5 + 11) + (L) ≤ L + 63 by omega)⟩ (Nat.le_of_ble_eq_true rfl) hl.1 dX7_readInside_3 (hf_of h0 hq6 hEq6)) (fun gm H locs hW => ?_)
  have h0 := mle.trans h0 hq6
  exact J6 gm _ _ ho h0 _ _ _ hW (lv_sub hl [0] rfl)
noncomputable def x7_readDigit (t : St) (a1 : Int32) : Option (Int32 × St) :=
  gd a1 (gN t 602) (if 0 ≤ (gA t 602 (a1).toNatClampNeg) then (nm (sI t 703 ((gI t 703) + (1 : Int32))) (fun t3 : St => gd a1 (gN t3 602) (some ((gA t3 602 (a1).toNatClampNeg), t3)))) else ((x7_refuse t (gI t 703) (3 : Int32)).bind (fun q5 => some (q5.1, q5.2))))
theorem mm_x7_readDigit (t : St) (a1 : Int32) : MR (x7_readDigit t a1) t (fun (a : Int32 × St) => a.2) := by
  unfold x7_readDigit
  exact MR_gd (MR_ite (MR_nmS mle_sI (fun t3 ht3 => MR_gd (MR_some ht3))) (MR_bind (mm_x7_refuse t (gI t 703) (3 : Int32)) (fun q5 hq5 => MR_some hq5)))
set_option maxHeartbeats 4000000 in
set_option maxRecDepth 100000 in
theorem c_x7_readDigit (l : Launch) {D : va_G} {cI cJ cZ cR : ClassId} {am gm : Nat → Nat} {st : Nat} (sz : Nat) (t : St) (a1 : Int32) {r : Int32} {t' : St} (ho : x7_readDigit t a1 = some (r, t')) : Met l yX7_readDigit (.code yX7_readDigit cX7_readDigit 2 (some .int) :: wsAll) (rmN 1 22) (va_Pc [.ref (am 2007), .int a1] (prX D (tyX cI cJ cZ cR) (wX cI cJ cZ cR am gm t) sz st)) (qI r D (tyX cI cJ cZ cR) (wX cI cJ cZ cR am gm t') (va_A (wX cI cJ cZ cR am gm t) sz)) 0 0 (va_A (wX cI cJ cZ cR am gm t) sz) := by
  refine Met.ofW (cc := cX7_readDigit) (maxL := 2) (ret := (some .int)) (by decide) rfl ?_
  intro p e s m args below meth c s₁ B hml hv
  obtain ⟨rfl, ⟨hsz, hP, hK, hD0⟩, hsx⟩ := hv
  have hx := B.exec
  have hb := B.bytes
  have hts := atoms_spec (ws := (.code yX7_readDigit cX7_readDigit 2 (some .int) :: wsAll)) B.pre
  have hta := fun w h => hts w (List.mem_cons_of_mem _ h)
  have hown : s.vm.findClass RX7 = some m.cls := findClass_of_methodNamed B.named
  have hlocks := B.notSynchronized
  subst hsz
  have hD := hD0.self (sz := s.heap.size)
  generalize hAe : va_A (wX cI cJ cZ cR am gm t) s.heap.size = A at hD ⊢
  have hA : ∀ q : Nat, s.heap.size ≤ q → A q := fun q h => by rw [← hAe]; exact Or.inr h
  have C0 : cxX p s m ([.ref (am 2007), .int a1].toArray) meth c cX7_readDigit RX7 2 (some .int) D (tyX cI cJ cZ cR) st A := ⟨⟨hx, hb, B.returns, hml, hown, hta, hlocks, hK, hA⟩, by rw [← hAe]; exact hsx⟩
  have hW : wl D A s (wX cI cJ cZ cR am gm t) s.heap [] := ⟨hP, hD, va_S.rf⟩
  have hl := lv_entry [.ref (am 2007), .int a1] (n := 2) (Nat.le_of_ble_eq_true rfl)
  rw [lg_entry_eq]
  generalize (lg_sl [.ref (am 2007), .int a1] ++ List.replicate (2 - (lg_sl [.ref (am 2007), .int a1]).length) Slot.unset).toArray = ls at hl ⊢
  have hl : lv_has ls 2 [(0, .ref (am 2007)), (1, .int a1)] := hl
  unfold x7_readDigit at ho
  refine lv_aload_n hx hb dX7_readDigit_0 rfl (lv_at hl 0 rfl) ?_
  refine xGET_700 C0 kw_246 hW dX7_readDigit_1 ?_
  refine xGET_602 C0 kw_185 hW dX7_readDigit_4 ?_
  refine lv_iload_n hx hb dX7_readDigit_7 rfl (lv_at hl 1 rfl) ?_
  obtain ⟨g1, ho⟩ := gd_some ho
  refine xLD_602 C0 hW g1 dX7_readDigit_8 ?_
  refine lv_if_ge (tgt := 22) hx hb dX7_readDigit_9 (by decide) (fun c2 => ?_) (fun c2 => ?_)
  · replace ho := ite_t c2 ho
    refine lv_aload_n hx hb dX7_readDigit_22 rfl (lv_at hl 0 rfl) ?_
    refine lv_dup hx hb dX7_readDigit_23 rfl ?_
    refine xGET_703 C0 kw_249 hW dX7_readDigit_24 ?_
    refine lv_iconst (v := (1 : Int32)) hx hb dX7_readDigit_27 (by decide) ?_
    refine lv_iadd hx hb dX7_readDigit_28 ?_
    refine xPUT_703 C0 kw_249 hW dX7_readDigit_29 (fun H locs hW => ?_)
    obtain ⟨t3, ho, hW⟩ := nm_w (P := fun t => wl D A s (wX cI cJ cZ cR am gm t) H locs) ho hW
    refine lv_aload_n hx hb dX7_readDigit_32 rfl (lv_at hl 0 rfl) ?_
    refine xGET_700 C0 kw_246 hW dX7_readDigit_33 ?_
    refine xGET_602 C0 kw_185 hW dX7_readDigit_36 ?_
    refine lv_iload_n hx hb dX7_readDigit_39 rfl (lv_at hl 1 rfl) ?_
    obtain ⟨g4, ho⟩ := gd_some ho
    refine xLD_602 C0 hW g4 dX7_readDigit_40 ?_
    cases ho
    exact rtI C0.1 hW dX7_readDigit_41
  · replace ho := ite_f c2 ho
    refine lv_aload_n hx hb dX7_readDigit_12 rfl (lv_at hl 0 rfl) ?_
    refine lv_aload_n hx hb dX7_readDigit_13 rfl (lv_at hl 0 rfl) ?_
    refine xGET_703 C0 kw_249 hW dX7_readDigit_14 ?_
    refine lv_iconst (v := (3 : Int32)) hx hb dX7_readDigit_17 (by decide) ?_
    obtain ⟨q5, hc6, ho⟩ := bd_some ho
    refine bkI C0.1 hW (runVX (As := [.int (gI t 703), .int (3 : Int32)]) (rest := []) C0 hW (c_x7_refuse l _ t (gI t 703) (3 : Int32) (r := q5.1) (t' := q5.2) hc6) cb_X7_X7_refuse_43 7 7 rfl rfl rfl rfl rfl ⟨rfl, rfl⟩ ⟨Nat.le_of_ble_eq_true rfl, Nat.le_of_ble_eq_true rfl⟩ (Nat.le_of_ble_eq_true rfl) hl.1 dX7_readDigit_18 ⟨Nat.le_of_ble_eq_true rfl, Nat.le_of_ble_eq_true rfl⟩) (fun H locs hW => ?_)
    cases ho
    exact rtI C0.1 hW dX7_readDigit_21
noncomputable def x6_addLetter (t : St) (a1 : Int32) : Option (Int32 × St) :=
  (x6_addKnot t (0 : Int32) a1 (0 : Int32) ((1 : Int32) <<< (a1 &&& 31))).bind (fun q1 => some (q1.1, q1.2))
theorem mm_x6_addLetter (t : St) (a1 : Int32) : MR (x6_addLetter t a1) t (fun (a : Int32 × St) => a.2) := by
  unfold x6_addLetter
  exact MR_bind (mm_x6_addKnot t (0 : Int32) a1 (0 : Int32) ((1 : Int32) <<< (a1 &&& 31))) (fun q1 hq1 => MR_some hq1)
set_option maxHeartbeats 4000000 in
set_option maxRecDepth 100000 in
theorem c_x6_addLetter (l : Launch) {D : va_G} {cI cJ cZ cR : ClassId} {am gm : Nat → Nat} {st : Nat} (sz : Nat) (t : St) (a1 : Int32) {r : Int32} {t' : St} (ho : x6_addLetter t a1 = some (r, t')) : Met l yX6_addLetter (.code yX6_addLetter cX6_addLetter 2 (some .int) :: wsAll) (rmN 1 24) (va_Pc [.ref (am 2006), .int a1] (prX D (tyX cI cJ cZ cR) (wX cI cJ cZ cR am gm t) sz st)) (qI r D (tyX cI cJ cZ cR) (wX cI cJ cZ cR am gm t') (va_A (wX cI cJ cZ cR am gm t) sz)) 0 0 (va_A (wX cI cJ cZ cR am gm t) sz) := by
  refine Met.ofW (cc := cX6_addLetter) (maxL := 2) (ret := (some .int)) (by decide) rfl ?_
  intro p e s m args below meth c s₁ B hml hv
  obtain ⟨rfl, ⟨hsz, hP, hK, hD0⟩, hsx⟩ := hv
  have hx := B.exec
  have hb := B.bytes
  have hts := atoms_spec (ws := (.code yX6_addLetter cX6_addLetter 2 (some .int) :: wsAll)) B.pre
  have hta := fun w h => hts w (List.mem_cons_of_mem _ h)
  have hown : s.vm.findClass RX6 = some m.cls := findClass_of_methodNamed B.named
  have hlocks := B.notSynchronized
  subst hsz
  have hD := hD0.self (sz := s.heap.size)
  generalize hAe : va_A (wX cI cJ cZ cR am gm t) s.heap.size = A at hD ⊢
  have hA : ∀ q : Nat, s.heap.size ≤ q → A q := fun q h => by rw [← hAe]; exact Or.inr h
  have C0 : cxX p s m ([.ref (am 2006), .int a1].toArray) meth c cX6_addLetter RX6 2 (some .int) D (tyX cI cJ cZ cR) st A := ⟨⟨hx, hb, B.returns, hml, hown, hta, hlocks, hK, hA⟩, by rw [← hAe]; exact hsx⟩
  have hW : wl D A s (wX cI cJ cZ cR am gm t) s.heap [] := ⟨hP, hD, va_S.rf⟩
  have hl := lv_entry [.ref (am 2006), .int a1] (n := 2) (Nat.le_of_ble_eq_true rfl)
  rw [lg_entry_eq]
  generalize (lg_sl [.ref (am 2006), .int a1] ++ List.replicate (2 - (lg_sl [.ref (am 2006), .int a1]).length) Slot.unset).toArray = ls at hl ⊢
  have hl : lv_has ls 2 [(0, .ref (am 2006)), (1, .int a1)] := hl
  unfold x6_addLetter at ho
  refine lv_aload_n hx hb dX6_addLetter_0 rfl (lv_at hl 0 rfl) ?_
  refine lv_iconst (v := (0 : Int32)) hx hb dX6_addLetter_1 (by decide) ?_
  refine lv_iload_n hx hb dX6_addLetter_2 rfl (lv_at hl 1 rfl) ?_
  refine lv_iconst (v := (0 : Int32)) hx hb dX6_addLetter_3 (by decide) ?_
  refine lv_iconst (v := (1 : Int32)) hx hb dX6_addLetter_4 (by decide) ?_
  refine lv_iload_n hx hb dX6_addLetter_5 rfl (lv_at hl 1 rfl) ?_
  refine lv_ishl hx hb dX6_addLetter_6 ?_
  obtain ⟨q1, hc2, ho⟩ := bd_some ho
  refine bkI C0.1 hW (runVX (As := [.int (0 : Int32), .int a1, .int (0 : Int32), .int ((1 : Int32) <<< (a1 &&& 31))]) (rest := []) C0 hW (c_x6_addKnot l _ t (0 : Int32) a1 (0 : Int32) ((1 : Int32) <<< (a1 &&& 31)) (r := q1.1) (t' := q1.2) hc2) cb_X6_X6_addKnot_68 6 6 rfl rfl rfl rfl rfl ⟨rfl, rfl⟩ ⟨Nat.le_of_ble_eq_true rfl, Nat.le_of_ble_eq_true rfl⟩ (Nat.le_of_ble_eq_true rfl) hl.1 dX6_addLetter_7 ⟨Nat.le_of_ble_eq_true rfl, Nat.le_of_ble_eq_true rfl⟩) (fun H locs hW => ?_)
  cases ho
  exact rtI C0.1 hW dX6_addLetter_10
noncomputable def x7_readPart_J126 (rr : RRt) (t : St) (w0 : Int32) : Option (Int32 × St) :=
  some (w0, t)
theorem mm_x7_readPart_J126 (rr : RRt) (hmm : RRm rr) (t : St) (w0 : Int32) : MR (x7_readPart_J126 rr t w0) t (fun (a : Int32 × St) => a.2) := by
  unfold x7_readPart_J126
  exact MR_some mle.rfl
noncomputable def x7_readPart_J116 (rr : RRt) (t : St) (w0 : Int32) : Option (Int32 × St) :=
  x7_readPart_J126 rr t w0
theorem mm_x7_readPart_J116 (rr : RRt) (hmm : RRm rr) (t : St) (w0 : Int32) : MR (x7_readPart_J116 rr t w0) t (fun (a : Int32 × St) => a.2) := by
  unfold x7_readPart_J116
  exact MR_wk mle.rfl (mm_x7_readPart_J126 rr hmm t w0)
noncomputable def x7_readPart_J77 (rr : RRt) (t : St) (v1 : Int32) (v2 : Int32) : Option (Int32 × St) :=
  if v1 < (8 : Int32) then (nm (sI t 703 ((gI t 703) + (1 : Int32))) (fun t2 : St => if v2 = (40 : Int32) then ((x7_readInside rr t2 (v1 + (1 : Int32))).bind (fun q6 => x7_readPart_J116 rr q6.2 q6.1)) else ((x7_readSome rr t2 (v1 + (1 : Int32))).bind (fun q4 => x7_readPart_J126 rr q4.2 q4.1)))) else ((x7_refuse t (gI t 703) (5 : Int32)).bind (fun q8 => some (q8.1, q8.2)))
theorem mm_x7_readPart_J77 (rr : RRt) (hmm : RRm rr) (t : St) (v1 : Int32) (v2 : Int32) : MR (x7_readPart_J77 rr t v1 v2) t (fun (a : Int32 × St) => a.2) := by
  unfold x7_readPart_J77
  exact MR_ite (MR_nmS mle_sI (fun t2 ht2 => MR_ite (MR_bind (mm_x7_readInside rr hmm t2 (v1 + (1 : Int32))) (fun q6 hq6 => MR_wk (mle.trans ht2 hq6) (mm_x7_readPart_J116 rr hmm q6.2 q6.1))) (MR_bind (mm_x7_readSome rr hmm t2 (v1 + (1 : Int32))) (fun q4 hq4 => MR_wk (mle.trans ht2 hq4) (mm_x7_readPart_J126 rr hmm q4.2 q4.1))))) (MR_bind (mm_x7_refuse t (gI t 703) (5 : Int32)) (fun q8 hq8 => MR_some hq8))
noncomputable def x7_readPart_J60 (rr : RRt) (t : St) (v1 : Int32) (v2 : Int32) : Option (Int32 × St) :=
  if v2 = (40 : Int32) then (x7_readPart_J77 rr t v1 v2) else (if v2 = (91 : Int32) then (x7_readPart_J77 rr t v1 v2) else ((x7_refuseHere t).bind (fun q12 => some (q12.1, q12.2))))
theorem mm_x7_readPart_J60 (rr : RRt) (hmm : RRm rr) (t : St) (v1 : Int32) (v2 : Int32) : MR (x7_readPart_J60 rr t v1 v2) t (fun (a : Int32 × St) => a.2) := by
  unfold x7_readPart_J60
  exact MR_ite (MR_wk mle.rfl (mm_x7_readPart_J77 rr hmm t v1 v2)) (MR_ite (MR_wk mle.rfl (mm_x7_readPart_J77 rr hmm t v1 v2)) (MR_bind (mm_x7_refuseHere t) (fun q12 hq12 => MR_some hq12)))
noncomputable def x7_readPart_J39 (rr : RRt) (t : St) (v1 : Int32) (v2 : Int32) : Option (Int32 × St) :=
  if v2 < (48 : Int32) then (x7_readPart_J60 rr t v1 v2) else (if (57 : Int32) < v2 then (x7_readPart_J60 rr t v1 v2) else ((x7_readDigit t (v2 - (48 : Int32))).bind (fun q16 => some (q16.1, q16.2))))
theorem mm_x7_readPart_J39 (rr : RRt) (hmm : RRm rr) (t : St) (v1 : Int32) (v2 : Int32) : MR (x7_readPart_J39 rr t v1 v2) t (fun (a : Int32 × St) => a.2) := by
  unfold x7_readPart_J39
  exact MR_ite (MR_wk mle.rfl (mm_x7_readPart_J60 rr hmm t v1 v2)) (MR_ite (MR_wk mle.rfl (mm_x7_readPart_J60 rr hmm t v1 v2)) (MR_bind (mm_x7_readDigit t (v2 - (48 : Int32))) (fun q16 hq16 => MR_some hq16)))
noncomputable def x7_readPart (rr : RRt) (t0 : St) (a1 : Int32) : Option (Int32 × St) :=
  (x7_next t0).bind (fun q18 => if q18.1 < (97 : Int32) then (x7_readPart_J39 rr q18.2 a1 q18.1) else (if (112 : Int32) < q18.1 then (x7_readPart_J39 rr q18.2 a1 q18.1) else (nm (sI q18.2 703 ((gI q18.2 703) + (1 : Int32))) (fun t22 : St => (x6_addLetter t22 (q18.1 - (97 : Int32))).bind (fun q23 => some (q23.1, q23.2))))))
theorem mm_x7_readPart (rr : RRt) (hmm : RRm rr) (t0 : St) (a1 : Int32) : MR (x7_readPart rr t0 a1) t0 (fun (a : Int32 × St) => a.2) := by
  unfold x7_readPart
  exact MR_bind (mm_x7_next t0) (fun q18 hq18 => MR_ite (MR_wk hq18 (mm_x7_readPart_J39 rr hmm q18.2 a1 q18.1)) (MR_ite (MR_wk hq18 (mm_x7_readPart_J39 rr hmm q18.2 a1 q18.1)) (MR_nmS mle_sI (fun t22 ht22 => MR_bind (mm_x6_addLetter t22 (q18.1 - (97 : Int32))) (fun q23 hq23 => MR_some (mle.trans (mle.trans hq18 ht22) hq23))))))
set_option maxHeartbeats 4000000 in
set_option maxRecDepth 100000 in
theorem c_x7_readPart (l : Launch) {F L : Nat} {rr : RRt} (hmm : RRm rr) (hrr : RRok l F L rr) {D : va_G} {cI cJ cZ cR : ClassId} {am gm : Nat → Nat} {st : Nat} (sz : Nat) (t0 : St) (a1 : Int32) {r : Int32} {t' : St} (ho : x7_readPart rr t0 a1 = some (r, t')) : Met l yX7_readPart (.code yX7_readPart cX7_readPart 3 (some .int) :: wsAll) (rmA (F + 4) (L + 136) t0 t') (va_Pc [.ref (am 2007), .int a1] (prX D (tyX cI cJ cZ cR) (wX cI cJ cZ cR am gm t0) sz st)) (qIa r D (tyX cI cJ cZ cR) (fun gm => wX cI cJ cZ cR am gm t') (va_A (wX cI cJ cZ cR am gm t0) sz)) (mC t0 t') (mS t0 t') (va_A (wX cI cJ cZ cR am gm t0) sz) := by
  refine Met.ofW (cc := cX7_readPart) (maxL := 3) (ret := (some .int)) (by decide) rfl ?_
  intro p e s m args below meth c s₁ B hml hv
  obtain ⟨rfl, ⟨hsz, hP, hK, hD0⟩, hsx⟩ := hv
  have hx := B.exec
  have hb := B.bytes
  have hts := atoms_spec (ws := (.code yX7_readPart cX7_readPart 3 (some .int) :: wsAll)) B.pre
  have hta := fun w h => hts w (List.mem_cons_of_mem _ h)
  have hown : s.vm.findClass RX7 = some m.cls := findClass_of_methodNamed B.named
  have hlocks := B.notSynchronized
  subst hsz
  have hD := hD0.self (sz := s.heap.size)
  generalize hAe : va_A (wX cI cJ cZ cR am gm t0) s.heap.size = A at hD ⊢
  have hA : ∀ q : Nat, s.heap.size ≤ q → A q := fun q h => by rw [← hAe]; exact Or.inr h
  have C0 : cxX p s m ([.ref (am 2007), .int a1].toArray) meth c cX7_readPart RX7 3 (some .int) D (tyX cI cJ cZ cR) st A := ⟨⟨hx, hb, B.returns, hml, hown, hta, hlocks, hK, hA⟩, by rw [← hAe]; exact hsx⟩
  have hW : wl D A s (wX cI cJ cZ cR am gm t0) s.heap [] := ⟨hP, hD, va_S.rf⟩
  have hl := lv_entry [.ref (am 2007), .int a1] (n := 3) (Nat.le_of_ble_eq_true rfl)
  rw [lg_entry_eq]
  generalize (lg_sl [.ref (am 2007), .int a1] ++ List.replicate (3 - (lg_sl [.ref (am 2007), .int a1]).length) Slot.unset).toArray = ls at hl ⊢
  have hl : lv_has ls 3 [(0, .ref (am 2007)), (1, .int a1)] := hl
  clear hAe hD hP hD0 hts
  have J126 : ∀ (gm : Nat → Nat) (t : St) (w0 : Int32) (_ : x7_readPart_J126 rr t w0 = some (r, t')) (_ : mle t0 t) (H : Heap) (locs : List Loc) (ls : Array Slot), wl D A s (wX cI cJ cZ cR am gm t) H locs → lv_has ls 3 [(0, .ref (am 2007))] → W p l e (rmA (F + 4) (L + 136) t0 t') s m ([.ref (am 2007), .int a1].toArray) below meth c H locs (mC t0 t) (mS t0 t) (MQ below (qIa r D (tyX cI cJ cZ cR) (fun gm => wX cI cJ cZ cR am gm t') A) ([.ref (am 2007), .int a1].toArray) s (mC t0 t') (mS t0 t') A) (F0 m 126 ls [.int w0]) := by
    intro gm t w0 ho h0 H locs ls hW hl
    have hE : mle t t' := (mm_x7_readPart_J126 rr hmm _ _ _ ho)
    have hR := hR_of (t0 := t0) hE
    unfold x7_readPart_J126 at ho
    cases ho
    exact rtIa gm C0.1 hW dX7_readPart_126
  have J116 : ∀ (gm : Nat → Nat) (t : St) (w0 : Int32) (_ : x7_readPart_J116 rr t w0 = some (r, t')) (_ : mle t0 t) (H : Heap) (locs : List Loc) (ls : Array Slot), wl D A s (wX cI cJ cZ cR am gm t) H locs → lv_has ls 3 [(0, .ref (am 2007))] → W p l e (rmA (F + 4) (L + 136) t0 t') s m ([.ref (am 2007), .int a1].toArray) below meth c H locs (mC t0 t) (mS t0 t) (MQ below (qIa r D (tyX cI cJ cZ cR) (fun gm => wX cI cJ cZ cR am gm t') A) ([.ref (am 2007), .int a1].toArray) s (mC t0 t') (mS t0 t') A) (F0 m 116 ls [.int w0]) := by
    intro gm t w0 ho h0 H locs ls hW hl
    have hE : mle t t' := (mm_x7_readPart_J116 rr hmm _ _ _ ho)
    have hR := hR_of (t0 := t0) hE
    unfold x7_readPart_J116 at ho
    refine lv_goto (tgt := 126) hx hb dX7_readPart_116 (by decide) ?_
    exact J126 gm _ _ ho h0 _ _ _ hW (lv_sub hl [0] rfl)
  have J77 : ∀ (gm : Nat → Nat) (t : St) (v1 : Int32) (v2 : Int32) (_ : x7_readPart_J77 rr t v1 v2 = some (r, t')) (_ : mle t0 t) (H : Heap) (locs : List Loc) (ls : Array Slot), wl D A s (wX cI cJ cZ cR am gm t) H locs → lv_has ls 3 [(0, .ref (am 2007)), (1, .int v1), (2, .int v2)] → W p l e (rmA (F + 4) (L + 136) t0 t') s m ([.ref (am 2007), .int a1].toArray) below meth c H locs (mC t0 t) (mS t0 t) (MQ below (qIa r D (tyX cI cJ cZ cR) (fun gm => wX cI cJ cZ cR am gm t') A) ([.ref (am 2007), .int a1].toArray) s (mC t0 t') (mS t0 t') A) (F0 m 77 ls []) := by
    intro gm t v1 v2 ho h0 H locs ls hW hl
    have hE : mle t t' := (mm_x7_readPart_J77 rr hmm _ _ _ _ ho)
    have hR := hR_of (t0 := t0) hE
    unfold x7_readPart_J77 at ho
    refine lv_iload_n hx hb dX7_readPart_77 rfl (lv_at hl 1 rfl) ?_
    refine lv_bipush (v := (8 : Int32)) hx hb dX7_readPart_78 (by decide) ?_
    refine lv_icmp_lt (tgt := 93) hx hb dX7_readPart_80 (by decide) (fun c1 => ?_) (fun c1 => ?_)
    · replace ho := ite_t c1 ho
      refine lv_aload_n hx hb dX7_readPart_93 rfl (lv_at hl 0 rfl) ?_
      refine lv_dup hx hb dX7_readPart_94 rfl ?_
      refine xGET_703 C0 kw_249 hW dX7_readPart_95 ?_
      refine lv_iconst (v := (1 : Int32)) hx hb dX7_readPart_98 (by decide) ?_
      refine lv_iadd hx hb dX7_readPart_99 ?_
      refine xPUT_703 C0 kw_249 hW dX7_readPart_100 (fun H locs hW => ?_)
      obtain ⟨t2, ht2, ho, hW⟩ := nm_wm (P := fun t => wl D A s (wX cI cJ cZ cR am gm t) H locs) mle_sI ho hW
      refine lv_iload_n hx hb dX7_readPart_103 rfl (lv_at hl 2 rfl) ?_
      refine lv_bipush (v := (40 : Int32)) hx hb dX7_readPart_104 (by decide) ?_
      refine lv_icmp_ne (tgt := 119) hx hb dX7_readPart_106 (by decide) (fun c3 => ?_) (fun c3 => ?_)
      · replace ho := ite_f c3 ho
        refine lv_aload_n hx hb dX7_readPart_119 rfl (lv_at hl 0 rfl) ?_
        refine lv_iload_n hx hb dX7_readPart_120 rfl (lv_at hl 1 rfl) ?_
        refine lv_iconst (v := (1 : Int32)) hx hb dX7_readPart_121 (by decide) ?_
        refine lv_iadd hx hb dX7_readPart_122 ?_
        obtain ⟨q4, hc5, ho⟩ := bd_some ho
        have hq4 := mm_x7_readSome rr hmm t2 (v1 + (1 : Int32)) _ hc5
        have hEq4 := (mm_x7_readPart_J126 rr hmm _ _ _ ho)
        refine W_up h0 ht2 ?_
        have h0 := (mle.trans h0 ht2)
        refine bkIa C0.1 hW h0 hq4 (runVX (As := [.int (v1 + (1 : Int32))]) (rest := []) C0 hW (c_x7_readSome l hmm hrr _ t2 (v1 + (1 : Int32)) (r := q4.1) (t' := q4.2) hc5) cb_X7_X7_readSome_86 7 7 rfl rfl rfl rfl rfl ⟨rfl, rfl⟩ ⟨(show F + 3 + 1 ≤ F + 4 by omega), (show 8 + (7 + 11) + (L + 110) ≤ L + 136 by omega)⟩ (Nat.le_of_ble_eq_true rfl) hl.1 dX7_readPart_123 (hf_of h0 hq4 hEq4)) (fun gm H locs hW => ?_)
        have h0 := mle.trans h0 hq4
        exact J126 gm _ _ ho h0 _ _ _ hW (lv_sub hl [0] rfl)
      · replace ho := ite_t c3 ho
        refine lv_aload_n hx hb dX7_readPart_109 rfl (lv_at hl 0 rfl) ?_
        refine lv_iload_n hx hb dX7_readPart_110 rfl (lv_at hl 1 rfl) ?_
        refine lv_iconst (v := (1 : Int32)) hx hb dX7_readPart_111 (by decide) ?_
        refine lv_iadd hx hb dX7_readPart_112 ?_
        obtain ⟨q6, hc7, ho⟩ := bd_some ho
        have hq6 := mm_x7_readInside rr hmm t2 (v1 + (1 : Int32)) _ hc7
        have hEq6 := (mm_x7_readPart_J116 rr hmm _ _ _ ho)
        refine W_up h0 ht2 ?_
        have h0 := (mle.trans h0 ht2)
        refine bkIa C0.1 hW h0 hq6 (runVX (As := [.int (v1 + (1 : Int32))]) (rest := []) C0 hW (c_x7_readInside l hmm hrr _ t2 (v1 + (1 : Int32)) (r := q6.1) (t' := q6.2) hc7) cb_X7_X7_readInside_83 7 7 rfl rfl rfl rfl rfl ⟨rfl, rfl⟩ ⟨(show F + 3 + 1 ≤ F + 4 by omega), (show 8 + (3 + 11) + (L + 63) ≤ L + 136 by omega)⟩ (Nat.le_of_ble_eq_true rfl) hl.1 dX7_readPart_113 (hf_of h0 hq6 hEq6)) (fun gm H locs hW => ?_)
        have h0 := mle.trans h0 hq6
        exact J116 gm _ _ ho h0 _ _ _ hW (lv_sub hl [0] rfl)
    · replace ho := ite_f c1 ho
      refine lv_aload_n hx hb dX7_readPart_83 rfl (lv_at hl 0 rfl) ?_
      refine lv_aload_n hx hb dX7_readPart_84 rfl (lv_at hl 0 rfl) ?_
      refine xGET_703 C0 kw_249 hW dX7_readPart_85 ?_
      refine lv_iconst (v := (5 : Int32)) hx hb dX7_readPart_88 (by decide) ?_
      obtain ⟨q8, hc9, ho⟩ := bd_some ho
      have hq8 := mm_x7_refuse t (gI t 703) (5 : Int32) _ hc9
      refine bkI C0.1 hW (runVX (As := [.int (gI t 703), .int (5 : Int32)]) (rest := []) C0 hW (c_x7_refuse l _ t (gI t 703) (5 : Int32) (r := q8.1) (t' := q8.2) hc9) cb_X7_X7_refuse_43 7 7 rfl rfl rfl rfl rfl ⟨rfl, rfl⟩ ⟨(show 0 + 1 ≤ F + 4 by omega), (show 8 + (3 + 11) + (0) ≤ L + 136 by omega)⟩ (Nat.le_of_ble_eq_true rfl) hl.1 dX7_readPart_89 ⟨hR.1, hR.2⟩) (fun H locs hW => ?_)
      refine W_up h0 hq8 ?_
      cases ho
      exact rtIa gm C0.1 hW dX7_readPart_92
  have J60 : ∀ (gm : Nat → Nat) (t : St) (v1 : Int32) (v2 : Int32) (_ : x7_readPart_J60 rr t v1 v2 = some (r, t')) (_ : mle t0 t) (H : Heap) (locs : List Loc) (ls : Array Slot), wl D A s (wX cI cJ cZ cR am gm t) H locs → lv_has ls 3 [(0, .ref (am 2007)), (1, .int v1), (2, .int v2)] → W p l e (rmA (F + 4) (L + 136) t0 t') s m ([.ref (am 2007), .int a1].toArray) below meth c H locs (mC t0 t) (mS t0 t) (MQ below (qIa r D (tyX cI cJ cZ cR) (fun gm => wX cI cJ cZ cR am gm t') A) ([.ref (am 2007), .int a1].toArray) s (mC t0 t') (mS t0 t') A) (F0 m 60 ls []) := by
    intro gm t v1 v2 ho h0 H locs ls hW hl
    have hE : mle t t' := (mm_x7_readPart_J60 rr hmm _ _ _ _ ho)
    have hR := hR_of (t0 := t0) hE
    unfold x7_readPart_J60 at ho
    refine lv_iload_n hx hb dX7_readPart_60 rfl (lv_at hl 2 rfl) ?_
    refine lv_bipush (v := (40 : Int32)) hx hb dX7_readPart_61 (by decide) ?_
    refine lv_icmp_eq (tgt := 77) hx hb dX7_readPart_63 (by decide) (fun c10 => ?_) (fun c10 => ?_)
    · replace ho := ite_t c10 ho
      exact J77 gm _ _ _ ho h0 _ _ _ hW (lv_sub hl [0, 1, 2] rfl)
    · replace ho := ite_f c10 ho
      refine lv_iload_n hx hb dX7_readPart_66 rfl (lv_at hl 2 rfl) ?_
      refine lv_bipush (v := (91 : Int32)) hx hb dX7_readPart_67 (by decide) ?_
      refine lv_icmp_eq (tgt := 77) hx hb dX7_readPart_69 (by decide) (fun c11 => ?_) (fun c11 => ?_)
      · replace ho := ite_t c11 ho
        exact J77 gm _ _ _ ho h0 _ _ _ hW (lv_sub hl [0, 1, 2] rfl)
      · replace ho := ite_f c11 ho
        refine lv_aload_n hx hb dX7_readPart_72 rfl (lv_at hl 0 rfl) ?_
        obtain ⟨q12, hc13, ho⟩ := bd_some ho
        have hq12 := mm_x7_refuseHere t _ hc13
        refine bkI C0.1 hW (runVX (As := []) (rest := []) C0 hW (c_x7_refuseHere l _ t (r := q12.1) (t' := q12.2) hc13) cb_X7_X7_refuseHere_80 7 7 rfl rfl rfl rfl rfl ⟨rfl, rfl⟩ ⟨(show 1 + 1 ≤ F + 4 by omega), (show 8 + (1 + 11) + (22) ≤ L + 136 by omega)⟩ (Nat.le_of_ble_eq_true rfl) hl.1 dX7_readPart_73 ⟨hR.1, hR.2⟩) (fun H locs hW => ?_)
        refine W_up h0 hq12 ?_
        cases ho
        exact rtIa gm C0.1 hW dX7_readPart_76
  have J39 : ∀ (gm : Nat → Nat) (t : St) (v1 : Int32) (v2 : Int32) (_ : x7_readPart_J39 rr t v1 v2 = some (r, t')) (_ : mle t0 t) (H : Heap) (locs : List Loc) (ls : Array Slot), wl D A s (wX cI cJ cZ cR am gm t) H locs → lv_has ls 3 [(0, .ref (am 2007)), (1, .int v1), (2, .int v2)] → W p l e (rmA (F + 4) (L + 136) t0 t') s m ([.ref (am 2007), .int a1].toArray) below meth c H locs (mC t0 t) (mS t0 t) (MQ below (qIa r D (tyX cI cJ cZ cR) (fun gm => wX cI cJ cZ cR am gm t') A) ([.ref (am 2007), .int a1].toArray) s (mC t0 t') (mS t0 t') A) (F0 m 39 ls []) := by
    intro gm t v1 v2 ho h0 H locs ls hW hl
    have hE : mle t t' := (mm_x7_readPart_J39 rr hmm _ _ _ _ ho)
    have hR := hR_of (t0 := t0) hE
    unfold x7_readPart_J39 at ho
    refine lv_iload_n hx hb dX7_readPart_39 rfl (lv_at hl 2 rfl) ?_
    refine lv_bipush (v := (48 : Int32)) hx hb dX7_readPart_40 (by decide) ?_
    refine lv_icmp_lt (tgt := 60) hx hb dX7_readPart_42 (by decide) (fun c14 => ?_) (fun c14 => ?_)
    · replace ho := ite_t c14 ho
      exact J60 gm _ _ _ ho h0 _ _ _ hW (lv_sub hl [0, 1, 2] rfl)
    · replace ho := ite_f c14 ho
      refine lv_iload_n hx hb dX7_readPart_45 rfl (lv_at hl 2 rfl) ?_
      refine lv_bipush (v := (57 : Int32)) hx hb dX7_readPart_46 (by decide) ?_
      refine lv_icmp_gt (tgt := 60) hx hb dX7_readPart_48 (by decide) (fun c15 => ?_) (fun c15 => ?_)
      · replace ho := ite_t c15 ho
        exact J60 gm _ _ _ ho h0 _ _ _ hW (lv_sub hl [0, 1, 2] rfl)
      · replace ho := ite_f c15 ho
        refine lv_aload_n hx hb dX7_readPart_51 rfl (lv_at hl 0 rfl) ?_
        refine lv_iload_n hx hb dX7_readPart_52 rfl (lv_at hl 2 rfl) ?_
        refine lv_bipush (v := (48 : Int32)) hx hb dX7_readPart_53 (by decide) ?_
        refine lv_isub hx hb dX7_readPart_55 ?_
        obtain ⟨q16, hc17, ho⟩ := bd_some ho
        have hq16 := mm_x7_readDigit t (v2 - (48 : Int32)) _ hc17
        refine bkI C0.1 hW (runVX (As := [.int (v2 - (48 : Int32))]) (rest := []) C0 hW (c_x7_readDigit l _ t (v2 - (48 : Int32)) (r := q16.1) (t' := q16.2) hc17) cb_X7_X7_readDigit_77 7 7 rfl rfl rfl rfl rfl ⟨rfl, rfl⟩ ⟨(show 1 + 1 ≤ F + 4 by omega), (show 8 + (2 + 11) + (22) ≤ L + 136 by omega)⟩ (Nat.le_of_ble_eq_true rfl) hl.1 dX7_readPart_56 ⟨hR.1, hR.2⟩) (fun H locs hW => ?_)
        refine W_up h0 hq16 ?_
        cases ho
        exact rtIa gm C0.1 hW dX7_readPart_59
  have hE : mle t0 t' := mm_x7_readPart rr hmm _ _ _ ho
  have hR := hR_of (t0 := t0) hE
  have h0 : mle t0 t0 := mle.rfl
  refine W_0 (t0 := t0) ?_
  unfold x7_readPart at ho
  refine lv_aload_n hx hb dX7_readPart_0 rfl (lv_at hl 0 rfl) ?_
  obtain ⟨q18, hc19, ho⟩ := bd_some ho
  have hq18 := mm_x7_next t0 _ hc19
  refine bkI C0.1 hW (runVX (As := []) (rest := []) C0 hW (c_x7_next l _ t0 (r := q18.1) (t' := q18.2) hc19) cb_X7_X7_next_39 7 7 rfl rfl rfl rfl rfl ⟨rfl, rfl⟩ ⟨(show 0 + 1 ≤ F + 4 by omega), (show 8 + (1 + 11) + (0) ≤ L + 136 by omega)⟩ (Nat.le_of_ble_eq_true rfl) hl.1 dX7_readPart_1 ⟨hR.1, hR.2⟩) (fun H locs hW => ?_)
  refine lv_istore_n (lv' := [(2, .int q18.1), (0, .ref (am 2007)), (1, .int a1)]) hx hb dX7_readPart_4 rfl hl (by decide) rfl (fun ls hl => ?_)
  refine lv_iload_n hx hb dX7_readPart_5 rfl (lv_at hl 0 rfl) ?_
  refine lv_bipush (v := (97 : Int32)) hx hb dX7_readPart_6 (by decide) ?_
  refine lv_icmp_lt (tgt := 39) hx hb dX7_readPart_8 (by decide) (fun c20 => ?_) (fun c20 => ?_)
  · replace ho := ite_t c20 ho
    refine W_up h0 hq18 ?_
    exact J39 gm _ _ _ ho (mle.trans h0 hq18) _ _ _ hW (lv_sub hl [1, 2, 0] rfl)
  · replace ho := ite_f c20 ho
    refine lv_iload_n hx hb dX7_readPart_11 rfl (lv_at hl 0 rfl) ?_
    refine lv_bipush (v := (112 : Int32)) hx hb dX7_readPart_12 (by decide) ?_
    refine lv_icmp_gt (tgt := 39) hx hb dX7_readPart_14 (by decide) (fun c21 => ?_) (fun c21 => ?_)
    · replace ho := ite_t c21 ho
      refine W_up h0 hq18 ?_
      exact J39 gm _ _ _ ho (mle.trans h0 hq18) _ _ _ hW (lv_sub hl [1, 2, 0] rfl)
    · replace ho := ite_f c21 ho
      refine lv_aload_n hx hb dX7_readPart_17 rfl (lv_at hl 1 rfl) ?_
      refine lv_dup hx hb dX7_readPart_18 rfl ?_
      refine xGET_703 C0 kw_249 hW dX7_readPart_19 ?_
      refine lv_iconst (v := (1 : Int32)) hx hb dX7_readPart_22 (by decide) ?_
      refine lv_iadd hx hb dX7_readPart_23 ?_
      refine xPUT_703 C0 kw_249 hW dX7_readPart_24 (fun H locs hW => ?_)
      obtain ⟨t22, ht22, ho, hW⟩ := nm_wm (P := fun t => wl D A s (wX cI cJ cZ cR am gm t) H locs) mle_sI ho hW
      refine lv_aload_n hx hb dX7_readPart_27 rfl (lv_at hl 1 rfl) ?_
      refine xGET_700 C0 kw_246 hW dX7_readPart_28 ?_
      refine lv_iload_n hx hb dX7_readPart_31 rfl (lv_at hl 0 rfl) ?_
      refine lv_bipush (v := (97 : Int32)) hx hb dX7_readPart_32 (by decide) ?_
      refine lv_isub hx hb dX7_readPart_34 ?_
      obtain ⟨q23, hc24, ho⟩ := bd_some ho
      have hq23 := mm_x6_addLetter t22 (q18.1 - (97 : Int32)) _ hc24
      refine bkI C0.1 hW (runVX (As := [.int (q18.1 - (97 : Int32))]) (rest := []) C0 hW (c_x6_addLetter l _ t22 (q18.1 - (97 : Int32)) (r := q23.1) (t' := q23.2) hc24) cb_X7_X6_addLetter_74 6 6 rfl rfl rfl rfl rfl ⟨rfl, rfl⟩ ⟨(show 1 + 1 ≤ F + 4 by omega), (show 8 + (2 + 11) + (24) ≤ L + 136 by omega)⟩ (Nat.le_of_ble_eq_true rfl) hl.1 dX7_readPart_35 ⟨hR.1, hR.2⟩) (fun H locs hW => ?_)
      refine W_up h0 (mle.trans (mle.trans hq18 ht22) hq23) ?_
      cases ho
      exact rtIa gm C0.1 hW dX7_readPart_38
