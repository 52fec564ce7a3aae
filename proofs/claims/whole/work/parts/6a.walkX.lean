noncomputable def x11_outside (t : St) (a0 : Int32) (a1 : Int32) (a2 : Int32) : Option (Int32) :=
  if a0 < a1 then (some (1 : Int32)) else (if a0 ≤ a2 then (some (0 : Int32)) else (some (1 : Int32)))
set_option maxHeartbeats 4000000 in
set_option maxRecDepth 100000 in
theorem c_x11_outside (l : Launch) {D : va_G} {cI cJ cZ cR : ClassId} {am gm : Nat → Nat} {st : Nat} (sz : Nat) (t : St) (a0 : Int32) (a1 : Int32) (a2 : Int32) {r : Int32} (ho : x11_outside t a0 a1 a2 = some r) : Met l yX11_outside (.code yX11_outside cX11_outside 3 (some .boolean) :: wsAll) (rmN 0 0) (va_Pc [.int a0, .int a1, .int a2] (prX D (tyX cI cJ cZ cR) (wX cI cJ cZ cR am gm t) sz st)) (qZ r D (tyX cI cJ cZ cR) (wX cI cJ cZ cR am gm t) (va_A (wX cI cJ cZ cR am gm t) sz)) 0 0 (va_A (wX cI cJ cZ cR am gm t) sz) := by
  refine Met.ofW (cc := cX11_outside) (maxL := 3) (ret := (some .boolean)) (by decide) rfl ?_
  intro p e s m args below meth c s₁ B hml hv
  obtain ⟨rfl, ⟨hsz, hP, hK, hD0⟩, hsx⟩ := hv
  have hx := B.exec
  have hb := B.bytes
  have hts := atoms_spec (ws := (.code yX11_outside cX11_outside 3 (some .boolean) :: wsAll)) B.pre
  have hta := fun w h => hts w (List.mem_cons_of_mem _ h)
  have hown : s.vm.findClass RX11 = some m.cls := findClass_of_methodNamed B.named
  have hlocks := B.notSynchronized
  subst hsz
  have hD := hD0.self (sz := s.heap.size)
  generalize hAe : va_A (wX cI cJ cZ cR am gm t) s.heap.size = A at hD ⊢
  have hA : ∀ q : Nat, s.heap.size ≤ q → A q := fun q h => by rw [← hAe]; exact Or.inr h
  have C0 : cxX p s m ([.int a0, .int a1, .int a2].toArray) meth c cX11_outside RX11 3 (some .boolean) D (tyX cI cJ cZ cR) st A := ⟨⟨hx, hb, B.returns, hml, hown, hta, hlocks, hK, hA⟩, by rw [← hAe]; exact hsx⟩
  have hW : wl D A s (wX cI cJ cZ cR am gm t) s.heap [] := ⟨hP, hD, va_S.rf⟩
  have hl := lv_entry [.int a0, .int a1, .int a2] (n := 3) (Nat.le_of_ble_eq_true rfl)
  rw [lg_entry_eq]
  generalize (lg_sl [.int a0, .int a1, .int a2] ++ List.replicate (3 - (lg_sl [.int a0, .int a1, .int a2]).length) Slot.unset).toArray = ls at hl ⊢
  have hl : lv_has ls 3 [(0, .int a0), (1, .int a1), (2, .int a2)] := hl
  unfold x11_outside at ho
  refine lv_iload_n hx hb dX11_outside_0 rfl (lv_at hl 0 rfl) ?_
  refine lv_iload_n hx hb dX11_outside_1 rfl (lv_at hl 1 rfl) ?_
  refine lv_icmp_lt (tgt := 10) hx hb dX11_outside_2 (by decide) (fun c1 => ?_) (fun c1 => ?_)
  · replace ho := ite_t c1 ho
    refine lv_iconst (v := (1 : Int32)) hx hb dX11_outside_10 (by decide) ?_
    refine lv_goto (tgt := 15) hx hb dX11_outside_11 (by decide) ?_
    cases ho
    exact rtZ C0.1 hW (Or.inr (rfl : (1 : Int32) = 1)) dX11_outside_15
  · replace ho := ite_f c1 ho
    refine lv_iload_n hx hb dX11_outside_5 rfl (lv_at hl 0 rfl) ?_
    refine lv_iload_n hx hb dX11_outside_6 rfl (lv_at hl 2 rfl) ?_
    refine lv_icmp_le (tgt := 14) hx hb dX11_outside_7 (by decide) (fun c2 => ?_) (fun c2 => ?_)
    · replace ho := ite_t c2 ho
      refine lv_iconst (v := (0 : Int32)) hx hb dX11_outside_14 (by decide) ?_
      cases ho
      exact rtZ C0.1 hW (Or.inl (rfl : (0 : Int32) = 0)) dX11_outside_15
    · replace ho := ite_f c2 ho
      refine lv_iconst (v := (1 : Int32)) hx hb dX11_outside_10 (by decide) ?_
      refine lv_goto (tgt := 15) hx hb dX11_outside_11 (by decide) ?_
      cases ho
      exact rtZ C0.1 hW (Or.inr (rfl : (1 : Int32) = 1)) dX11_outside_15
noncomputable def x11_noStep (t : St) (a0 : Int32) : Option (Int32) :=
  (x11_outside t a0 (0 : Int32) (15 : Int32)).bind (fun q1 => some q1)
set_option maxHeartbeats 4000000 in
set_option maxRecDepth 100000 in
theorem c_x11_noStep (l : Launch) {D : va_G} {cI cJ cZ cR : ClassId} {am gm : Nat → Nat} {st : Nat} (sz : Nat) (t : St) (a0 : Int32) {r : Int32} (ho : x11_noStep t a0 = some r) : Met l yX11_noStep (.code yX11_noStep cX11_noStep 1 (some .boolean) :: wsAll) (rmN 1 22) (va_Pc [.int a0] (prX D (tyX cI cJ cZ cR) (wX cI cJ cZ cR am gm t) sz st)) (qZ r D (tyX cI cJ cZ cR) (wX cI cJ cZ cR am gm t) (va_A (wX cI cJ cZ cR am gm t) sz)) 0 0 (va_A (wX cI cJ cZ cR am gm t) sz) := by
  refine Met.ofW (cc := cX11_noStep) (maxL := 1) (ret := (some .boolean)) (by decide) rfl ?_
  intro p e s m args below meth c s₁ B hml hv
  obtain ⟨rfl, ⟨hsz, hP, hK, hD0⟩, hsx⟩ := hv
  have hx := B.exec
  have hb := B.bytes
  have hts := atoms_spec (ws := (.code yX11_noStep cX11_noStep 1 (some .boolean) :: wsAll)) B.pre
  have hta := fun w h => hts w (List.mem_cons_of_mem _ h)
  have hown : s.vm.findClass RX11 = some m.cls := findClass_of_methodNamed B.named
  have hlocks := B.notSynchronized
  subst hsz
  have hD := hD0.self (sz := s.heap.size)
  generalize hAe : va_A (wX cI cJ cZ cR am gm t) s.heap.size = A at hD ⊢
  have hA : ∀ q : Nat, s.heap.size ≤ q → A q := fun q h => by rw [← hAe]; exact Or.inr h
  have C0 : cxX p s m ([.int a0].toArray) meth c cX11_noStep RX11 1 (some .boolean) D (tyX cI cJ cZ cR) st A := ⟨⟨hx, hb, B.returns, hml, hown, hta, hlocks, hK, hA⟩, by rw [← hAe]; exact hsx⟩
  have hW : wl D A s (wX cI cJ cZ cR am gm t) s.heap [] := ⟨hP, hD, va_S.rf⟩
  have hl := lv_entry [.int a0] (n := 1) (Nat.le_of_ble_eq_true rfl)
  rw [lg_entry_eq]
  generalize (lg_sl [.int a0] ++ List.replicate (1 - (lg_sl [.int a0]).length) Slot.unset).toArray = ls at hl ⊢
  have hl : lv_has ls 1 [(0, .int a0)] := hl
  unfold x11_noStep at ho
  refine lv_iload_n hx hb dX11_noStep_0 rfl (lv_at hl 0 rfl) ?_
  refine lv_iconst (v := (0 : Int32)) hx hb dX11_noStep_1 (by decide) ?_
  refine lv_bipush (v := (15 : Int32)) hx hb dX11_noStep_2 (by decide) ?_
  obtain ⟨q1, hc2, ho⟩ := bd_some ho
  refine bkZ C0.1 hW (runSX (As := [.int a0, .int (0 : Int32), .int (15 : Int32)]) (rest := []) C0 hW (c_x11_outside l _ t a0 (0 : Int32) (15 : Int32) (r := q1) hc2) cb_X11_X11_outside_102 rfl rfl ⟨rfl, rfl⟩ ⟨Nat.le_of_ble_eq_true rfl, Nat.le_of_ble_eq_true rfl⟩ (Nat.le_of_ble_eq_true rfl) hl.1 dX11_noStep_4 ⟨Nat.le_of_ble_eq_true rfl, Nat.le_of_ble_eq_true rfl⟩) (fun z3 H locs hW => ?_)
  cases ho
  exact rtZ C0.1 hW z3 dX11_noStep_7
noncomputable def x5_put (t : St) (a1 : Int32) (a2 : Int32) (a3 : Int32) : Option (St) :=
  gd ((a1 * (5 : Int32)) + a2) (gN t 500) (nm (sA t 500 ((a1 * (5 : Int32)) + a2) a3) (fun t2 : St => some t2))
theorem mm_x5_put (t : St) (a1 : Int32) (a2 : Int32) (a3 : Int32) : MR (x5_put t a1 a2 a3) t (fun (a : St) => a) := by
  unfold x5_put
  exact MR_gd (MR_nmS mle_sA (fun t2 ht2 => MR_some ht2))
set_option maxHeartbeats 4000000 in
set_option maxRecDepth 100000 in
theorem c_x5_put (l : Launch) {D : va_G} {cI cJ cZ cR : ClassId} {am gm : Nat → Nat} {st : Nat} (sz : Nat) (t : St) (a1 : Int32) (a2 : Int32) (a3 : Int32) {t' : St} (ho : x5_put t a1 a2 a3 = some t') : Met l yX5_put (.code yX5_put cX5_put 4 none :: wsAll) (rmN 0 0) (va_Pc [.ref (am 1005), .int a1, .int a2, .int a3] (prX D (tyX cI cJ cZ cR) (wX cI cJ cZ cR am gm t) sz st)) (qV D (tyX cI cJ cZ cR) (wX cI cJ cZ cR am gm t') (va_A (wX cI cJ cZ cR am gm t) sz)) 0 0 (va_A (wX cI cJ cZ cR am gm t) sz) := by
  refine Met.ofW (cc := cX5_put) (maxL := 4) (ret := none) (by decide) rfl ?_
  intro p e s m args below meth c s₁ B hml hv
  obtain ⟨rfl, ⟨hsz, hP, hK, hD0⟩, hsx⟩ := hv
  have hx := B.exec
  have hb := B.bytes
  have hts := atoms_spec (ws := (.code yX5_put cX5_put 4 none :: wsAll)) B.pre
  have hta := fun w h => hts w (List.mem_cons_of_mem _ h)
  have hown : s.vm.findClass RX5 = some m.cls := findClass_of_methodNamed B.named
  have hlocks := B.notSynchronized
  subst hsz
  have hD := hD0.self (sz := s.heap.size)
  generalize hAe : va_A (wX cI cJ cZ cR am gm t) s.heap.size = A at hD ⊢
  have hA : ∀ q : Nat, s.heap.size ≤ q → A q := fun q h => by rw [← hAe]; exact Or.inr h
  have C0 : cxX p s m ([.ref (am 1005), .int a1, .int a2, .int a3].toArray) meth c cX5_put RX5 4 none D (tyX cI cJ cZ cR) st A := ⟨⟨hx, hb, B.returns, hml, hown, hta, hlocks, hK, hA⟩, by rw [← hAe]; exact hsx⟩
  have hW : wl D A s (wX cI cJ cZ cR am gm t) s.heap [] := ⟨hP, hD, va_S.rf⟩
  have hl := lv_entry [.ref (am 1005), .int a1, .int a2, .int a3] (n := 4) (Nat.le_of_ble_eq_true rfl)
  rw [lg_entry_eq]
  generalize (lg_sl [.ref (am 1005), .int a1, .int a2, .int a3] ++ List.replicate (4 - (lg_sl [.ref (am 1005), .int a1, .int a2, .int a3]).length) Slot.unset).toArray = ls at hl ⊢
  have hl : lv_has ls 4 [(0, .ref (am 1005)), (1, .int a1), (2, .int a2), (3, .int a3)] := hl
  unfold x5_put at ho
  refine lv_aload_n hx hb dX5_put_0 rfl (lv_at hl 0 rfl) ?_
  refine xGET_500 C0 kw_156 hW dX5_put_1 ?_
  refine lv_iload_n hx hb dX5_put_4 rfl (lv_at hl 1 rfl) ?_
  refine lv_iconst (v := (5 : Int32)) hx hb dX5_put_5 (by decide) ?_
  refine lv_imul hx hb dX5_put_6 ?_
  refine lv_iload_n hx hb dX5_put_7 rfl (lv_at hl 2 rfl) ?_
  refine lv_iadd hx hb dX5_put_8 ?_
  refine lv_iload_n hx hb dX5_put_9 rfl (lv_at hl 3 rfl) ?_
  obtain ⟨g1, ho⟩ := gd_some ho
  refine xST_500 C0 hW g1 dX5_put_10 (fun H locs hW => ?_)
  obtain ⟨t2, ho, hW⟩ := nm_w (P := fun t => wl D A s (wX cI cJ cZ cR am gm t) H locs) ho hW
  cases ho
  exact rtV C0.1 hW dX5_put_11
noncomputable def x4_forgetFront (t : St) : Option (St) :=
  nm (sI t 409 (-1 : Int32)) (fun t1 : St => some t1)
theorem mm_x4_forgetFront (t : St) : MR (x4_forgetFront t) t (fun (a : St) => a) := by
  unfold x4_forgetFront
  exact MR_nmS mle_sI (fun t1 ht1 => MR_some ht1)
set_option maxHeartbeats 4000000 in
set_option maxRecDepth 100000 in
theorem c_x4_forgetFront (l : Launch) {D : va_G} {cI cJ cZ cR : ClassId} {am gm : Nat → Nat} {st : Nat} (sz : Nat) (t : St) {t' : St} (ho : x4_forgetFront t = some t') : Met l yX4_forgetFront (.code yX4_forgetFront cX4_forgetFront 1 none :: wsAll) (rmN 0 0) (va_Pc [.ref (am 1004)] (prX D (tyX cI cJ cZ cR) (wX cI cJ cZ cR am gm t) sz st)) (qV D (tyX cI cJ cZ cR) (wX cI cJ cZ cR am gm t') (va_A (wX cI cJ cZ cR am gm t) sz)) 0 0 (va_A (wX cI cJ cZ cR am gm t) sz) := by
  refine Met.ofW (cc := cX4_forgetFront) (maxL := 1) (ret := none) (by decide) rfl ?_
  intro p e s m args below meth c s₁ B hml hv
  obtain ⟨rfl, ⟨hsz, hP, hK, hD0⟩, hsx⟩ := hv
  have hx := B.exec
  have hb := B.bytes
  have hts := atoms_spec (ws := (.code yX4_forgetFront cX4_forgetFront 1 none :: wsAll)) B.pre
  have hta := fun w h => hts w (List.mem_cons_of_mem _ h)
  have hown : s.vm.findClass RX4 = some m.cls := findClass_of_methodNamed B.named
  have hlocks := B.notSynchronized
  subst hsz
  have hD := hD0.self (sz := s.heap.size)
  generalize hAe : va_A (wX cI cJ cZ cR am gm t) s.heap.size = A at hD ⊢
  have hA : ∀ q : Nat, s.heap.size ≤ q → A q := fun q h => by rw [← hAe]; exact Or.inr h
  have C0 : cxX p s m ([.ref (am 1004)].toArray) meth c cX4_forgetFront RX4 1 none D (tyX cI cJ cZ cR) st A := ⟨⟨hx, hb, B.returns, hml, hown, hta, hlocks, hK, hA⟩, by rw [← hAe]; exact hsx⟩
  have hW : wl D A s (wX cI cJ cZ cR am gm t) s.heap [] := ⟨hP, hD, va_S.rf⟩
  have hl := lv_entry [.ref (am 1004)] (n := 1) (Nat.le_of_ble_eq_true rfl)
  rw [lg_entry_eq]
  generalize (lg_sl [.ref (am 1004)] ++ List.replicate (1 - (lg_sl [.ref (am 1004)]).length) Slot.unset).toArray = ls at hl ⊢
  have hl : lv_has ls 1 [(0, .ref (am 1004))] := hl
  unfold x4_forgetFront at ho
  refine lv_aload_n hx hb dX4_forgetFront_0 rfl (lv_at hl 0 rfl) ?_
  refine lv_iconst (v := (-1 : Int32)) hx hb dX4_forgetFront_1 (by decide) ?_
  refine xPUT_409 C0 kw_454 hW dX4_forgetFront_2 (fun H locs hW => ?_)
  obtain ⟨t1, ho, hW⟩ := nm_w (P := fun t => wl D A s (wX cI cJ cZ cR am gm t) H locs) ho hW
  cases ho
  exact rtV C0.1 hW dX4_forgetFront_5
noncomputable def x11_step (t : St) (a1 : Int32) (a2 : Int32) (a3 : Int32) (a4 : Int32) : Option (Int32 × St) :=
  (x11_noStep t a1).bind (fun q1 => if q1 = 0 then ((x11_outside t a2 (0 : Int32) (1000 : Int32)).bind (fun q5 => if q5 = 0 then ((x11_outside t a3 (1 : Int32) (50 : Int32)).bind (fun q9 => if q9 = 0 then ((x11_outside t a4 (0 : Int32) (1000 : Int32)).bind (fun q13 => if q13 = 0 then ((x5_put t a1 (0 : Int32) a2).bind (fun q17 => (x5_put q17 a1 (1 : Int32) a3).bind (fun q19 => (x5_put q19 a1 (2 : Int32) a4).bind (fun q21 => (x4_forgetFront q21).bind (fun q23 => some ((1 : Int32), q23)))))) else (some ((-2 : Int32), t)))) else (some ((-2 : Int32), t)))) else (some ((-2 : Int32), t)))) else (some ((-2 : Int32), t)))
theorem mm_x11_step (t : St) (a1 : Int32) (a2 : Int32) (a3 : Int32) (a4 : Int32) : MR (x11_step t a1 a2 a3 a4) t (fun (a : Int32 × St) => a.2) := by
  unfold x11_step
  exact MR_bindn (fun q1 => MR_ite (MR_bindn (fun q5 => MR_ite (MR_bindn (fun q9 => MR_ite (MR_bindn (fun q13 => MR_ite (MR_bind (mm_x5_put t a1 (0 : Int32) a2) (fun q17 hq17 => MR_bind (mm_x5_put q17 a1 (1 : Int32) a3) (fun q19 hq19 => MR_bind (mm_x5_put q19 a1 (2 : Int32) a4) (fun q21 hq21 => MR_bind (mm_x4_forgetFront q21) (fun q23 hq23 => MR_some (mle.trans (mle.trans (mle.trans hq17 hq19) hq21) hq23)))))) (MR_some mle.rfl))) (MR_some mle.rfl))) (MR_some mle.rfl))) (MR_some mle.rfl))
set_option maxHeartbeats 4000000 in
set_option maxRecDepth 100000 in
theorem c_x11_step (l : Launch) {D : va_G} {cI cJ cZ cR : ClassId} {am gm : Nat → Nat} {st : Nat} (sz : Nat) (t : St) (a1 : Int32) (a2 : Int32) (a3 : Int32) (a4 : Int32) {r : Int32} {t' : St} (ho : x11_step t a1 a2 a3 a4 = some (r, t')) : Met l yX11_step (.code yX11_step cX11_step 5 (some .int) :: wsAll) (rmN 2 42) (va_Pc [.ref (am 1011), .int a1, .int a2, .int a3, .int a4] (prX D (tyX cI cJ cZ cR) (wX cI cJ cZ cR am gm t) sz st)) (qI r D (tyX cI cJ cZ cR) (wX cI cJ cZ cR am gm t') (va_A (wX cI cJ cZ cR am gm t) sz)) 0 0 (va_A (wX cI cJ cZ cR am gm t) sz) := by
  refine Met.ofW (cc := cX11_step) (maxL := 5) (ret := (some .int)) (by decide) rfl ?_
  intro p e s m args below meth c s₁ B hml hv
  obtain ⟨rfl, ⟨hsz, hP, hK, hD0⟩, hsx⟩ := hv
  have hx := B.exec
  have hb := B.bytes
  have hts := atoms_spec (ws := (.code yX11_step cX11_step 5 (some .int) :: wsAll)) B.pre
  have hta := fun w h => hts w (List.mem_cons_of_mem _ h)
  have hown : s.vm.findClass RX11 = some m.cls := findClass_of_methodNamed B.named
  have hlocks := B.notSynchronized
  subst hsz
  have hD := hD0.self (sz := s.heap.size)
  generalize hAe : va_A (wX cI cJ cZ cR am gm t) s.heap.size = A at hD ⊢
  have hA : ∀ q : Nat, s.heap.size ≤ q → A q := fun q h => by rw [← hAe]; exact Or.inr h
  have C0 : cxX p s m ([.ref (am 1011), .int a1, .int a2, .int a3, .int a4].toArray) meth c cX11_step RX11 5 (some .int) D (tyX cI cJ cZ cR) st A := ⟨⟨hx, hb, B.returns, hml, hown, hta, hlocks, hK, hA⟩, by rw [← hAe]; exact hsx⟩
  have hW : wl D A s (wX cI cJ cZ cR am gm t) s.heap [] := ⟨hP, hD, va_S.rf⟩
  have hl := lv_entry [.ref (am 1011), .int a1, .int a2, .int a3, .int a4] (n := 5) (Nat.le_of_ble_eq_true rfl)
  rw [lg_entry_eq]
  generalize (lg_sl [.ref (am 1011), .int a1, .int a2, .int a3, .int a4] ++ List.replicate (5 - (lg_sl [.ref (am 1011), .int a1, .int a2, .int a3, .int a4]).length) Slot.unset).toArray = ls at hl ⊢
  have hl : lv_has ls 5 [(0, .ref (am 1011)), (1, .int a1), (2, .int a2), (3, .int a3), (4, .int a4)] := hl
  unfold x11_step at ho
  refine lv_iload_n hx hb dX11_step_0 rfl (lv_at hl 1 rfl) ?_
  obtain ⟨q1, hc2, ho⟩ := bd_some ho
  refine bkZ C0.1 hW (runSX (As := [.int a1]) (rest := []) C0 hW (c_x11_noStep l _ t a1 (r := q1) hc2) cb_X11_X11_noStep_98 rfl rfl ⟨rfl, rfl⟩ ⟨Nat.le_of_ble_eq_true rfl, Nat.le_of_ble_eq_true rfl⟩ (Nat.le_of_ble_eq_true rfl) hl.1 dX11_step_1 ⟨Nat.le_of_ble_eq_true rfl, Nat.le_of_ble_eq_true rfl⟩) (fun z3 H locs hW => ?_)
  refine lv_if_ne (tgt := 18) hx hb dX11_step_4 (by decide) (fun c4 => ?_) (fun c4 => ?_)
  · replace ho := ite_f c4 ho
    refine lv_bipush (v := (-2 : Int32)) hx hb dX11_step_18 (by decide) ?_
    cases ho
    exact rtI C0.1 hW dX11_step_20
  · replace ho := ite_t c4 ho
    refine lv_iload_n hx hb dX11_step_7 rfl (lv_at hl 2 rfl) ?_
    refine lv_iconst (v := (0 : Int32)) hx hb dX11_step_8 (by decide) ?_
    refine lv_sipush (v := (1000 : Int32)) hx hb dX11_step_9 (by decide) ?_
    obtain ⟨q5, hc6, ho⟩ := bd_some ho
    refine bkZ C0.1 hW (runSX (As := [.int a2, .int (0 : Int32), .int (1000 : Int32)]) (rest := []) C0 hW (c_x11_outside l _ t a2 (0 : Int32) (1000 : Int32) (r := q5) hc6) cb_X11_X11_outside_102 rfl rfl ⟨rfl, rfl⟩ ⟨Nat.le_of_ble_eq_true rfl, Nat.le_of_ble_eq_true rfl⟩ (Nat.le_of_ble_eq_true rfl) hl.1 dX11_step_12 ⟨Nat.le_of_ble_eq_true rfl, Nat.le_of_ble_eq_true rfl⟩) (fun z7 H locs hW => ?_)
    refine lv_if_eq (tgt := 21) hx hb dX11_step_15 (by decide) (fun c8 => ?_) (fun c8 => ?_)
    · replace ho := ite_t c8 ho
      refine lv_iload_n hx hb dX11_step_21 rfl (lv_at hl 3 rfl) ?_
      refine lv_iconst (v := (1 : Int32)) hx hb dX11_step_22 (by decide) ?_
      refine lv_bipush (v := (50 : Int32)) hx hb dX11_step_23 (by decide) ?_
      obtain ⟨q9, hc10, ho⟩ := bd_some ho
      refine bkZ C0.1 hW (runSX (As := [.int a3, .int (1 : Int32), .int (50 : Int32)]) (rest := []) C0 hW (c_x11_outside l _ t a3 (1 : Int32) (50 : Int32) (r := q9) hc10) cb_X11_X11_outside_102 rfl rfl ⟨rfl, rfl⟩ ⟨Nat.le_of_ble_eq_true rfl, Nat.le_of_ble_eq_true rfl⟩ (Nat.le_of_ble_eq_true rfl) hl.1 dX11_step_25 ⟨Nat.le_of_ble_eq_true rfl, Nat.le_of_ble_eq_true rfl⟩) (fun z11 H locs hW => ?_)
      refine lv_if_ne (tgt := 43) hx hb dX11_step_28 (by decide) (fun c12 => ?_) (fun c12 => ?_)
      · replace ho := ite_f c12 ho
        refine lv_bipush (v := (-2 : Int32)) hx hb dX11_step_43 (by decide) ?_
        cases ho
        exact rtI C0.1 hW dX11_step_45
      · replace ho := ite_t c12 ho
        refine lv_iload hx hb dX11_step_31 (lv_at hl 4 rfl) ?_
        refine lv_iconst (v := (0 : Int32)) hx hb dX11_step_33 (by decide) ?_
        refine lv_sipush (v := (1000 : Int32)) hx hb dX11_step_34 (by decide) ?_
        obtain ⟨q13, hc14, ho⟩ := bd_some ho
        refine bkZ C0.1 hW (runSX (As := [.int a4, .int (0 : Int32), .int (1000 : Int32)]) (rest := []) C0 hW (c_x11_outside l _ t a4 (0 : Int32) (1000 : Int32) (r := q13) hc14) cb_X11_X11_outside_102 rfl rfl ⟨rfl, rfl⟩ ⟨Nat.le_of_ble_eq_true rfl, Nat.le_of_ble_eq_true rfl⟩ (Nat.le_of_ble_eq_true rfl) hl.1 dX11_step_37 ⟨Nat.le_of_ble_eq_true rfl, Nat.le_of_ble_eq_true rfl⟩) (fun z15 H locs hW => ?_)
        refine lv_if_eq (tgt := 46) hx hb dX11_step_40 (by decide) (fun c16 => ?_) (fun c16 => ?_)
        · replace ho := ite_t c16 ho
          refine lv_aload_n hx hb dX11_step_46 rfl (lv_at hl 0 rfl) ?_
          refine xGET_1100 C0 kw_591 hW dX11_step_47 ?_
          refine lv_iload_n hx hb dX11_step_50 rfl (lv_at hl 1 rfl) ?_
          refine lv_iconst (v := (0 : Int32)) hx hb dX11_step_51 (by decide) ?_
          refine lv_iload_n hx hb dX11_step_52 rfl (lv_at hl 2 rfl) ?_
          obtain ⟨q17, hc18, ho⟩ := bd_some ho
          refine bkV C0.1 hW (runVX (As := [.int a1, .int (0 : Int32), .int a2]) (rest := []) C0 hW (c_x5_put l _ t a1 (0 : Int32) a2 (t' := q17) hc18) cb_X11_X5_put_106 5 5 rfl rfl rfl rfl rfl ⟨rfl, rfl⟩ ⟨Nat.le_of_ble_eq_true rfl, Nat.le_of_ble_eq_true rfl⟩ (Nat.le_of_ble_eq_true rfl) hl.1 dX11_step_53 ⟨Nat.le_of_ble_eq_true rfl, Nat.le_of_ble_eq_true rfl⟩) (fun H locs hW => ?_)
          refine lv_aload_n hx hb dX11_step_56 rfl (lv_at hl 0 rfl) ?_
          refine xGET_1100 C0 kw_591 hW dX11_step_57 ?_
          refine lv_iload_n hx hb dX11_step_60 rfl (lv_at hl 1 rfl) ?_
          refine lv_iconst (v := (1 : Int32)) hx hb dX11_step_61 (by decide) ?_
          refine lv_iload_n hx hb dX11_step_62 rfl (lv_at hl 3 rfl) ?_
          obtain ⟨q19, hc20, ho⟩ := bd_some ho
          refine bkV C0.1 hW (runVX (As := [.int a1, .int (1 : Int32), .int a3]) (rest := []) C0 hW (c_x5_put l _ q17 a1 (1 : Int32) a3 (t' := q19) hc20) cb_X11_X5_put_106 5 5 rfl rfl rfl rfl rfl ⟨rfl, rfl⟩ ⟨Nat.le_of_ble_eq_true rfl, Nat.le_of_ble_eq_true rfl⟩ (Nat.le_of_ble_eq_true rfl) hl.1 dX11_step_63 ⟨Nat.le_of_ble_eq_true rfl, Nat.le_of_ble_eq_true rfl⟩) (fun H locs hW => ?_)
          refine lv_aload_n hx hb dX11_step_66 rfl (lv_at hl 0 rfl) ?_
          refine xGET_1100 C0 kw_591 hW dX11_step_67 ?_
          refine lv_iload_n hx hb dX11_step_70 rfl (lv_at hl 1 rfl) ?_
          refine lv_iconst (v := (2 : Int32)) hx hb dX11_step_71 (by decide) ?_
          refine lv_iload hx hb dX11_step_72 (lv_at hl 4 rfl) ?_
          obtain ⟨q21, hc22, ho⟩ := bd_some ho
          refine bkV C0.1 hW (runVX (As := [.int a1, .int (2 : Int32), .int a4]) (rest := []) C0 hW (c_x5_put l _ q19 a1 (2 : Int32) a4 (t' := q21) hc22) cb_X11_X5_put_106 5 5 rfl rfl rfl rfl rfl ⟨rfl, rfl⟩ ⟨Nat.le_of_ble_eq_true rfl, Nat.le_of_ble_eq_true rfl⟩ (Nat.le_of_ble_eq_true rfl) hl.1 dX11_step_74 ⟨Nat.le_of_ble_eq_true rfl, Nat.le_of_ble_eq_true rfl⟩) (fun H locs hW => ?_)
          refine lv_aload_n hx hb dX11_step_77 rfl (lv_at hl 0 rfl) ?_
          refine xGET_1107 C0 kw_598 hW dX11_step_78 ?_
          obtain ⟨q23, hc24, ho⟩ := bd_some ho
          refine bkV C0.1 hW (runVX (As := []) (rest := []) C0 hW (c_x4_forgetFront l _ q21 (t' := q23) hc24) cb_X11_X4_forgetFront_110 4 4 rfl rfl rfl rfl rfl ⟨rfl, rfl⟩ ⟨Nat.le_of_ble_eq_true rfl, Nat.le_of_ble_eq_true rfl⟩ (Nat.le_of_ble_eq_true rfl) hl.1 dX11_step_81 ⟨Nat.le_of_ble_eq_true rfl, Nat.le_of_ble_eq_true rfl⟩) (fun H locs hW => ?_)
          refine lv_iconst (v := (1 : Int32)) hx hb dX11_step_84 (by decide) ?_
          cases ho
          exact rtI C0.1 hW dX11_step_85
        · replace ho := ite_f c16 ho
          refine lv_bipush (v := (-2 : Int32)) hx hb dX11_step_43 (by decide) ?_
          cases ho
          exact rtI C0.1 hW dX11_step_45
    · replace ho := ite_f c8 ho
      refine lv_bipush (v := (-2 : Int32)) hx hb dX11_step_18 (by decide) ?_
      cases ho
      exact rtI C0.1 hW dX11_step_20
noncomputable def x11_trace (t : St) (a1 : Int32) (a2 : Int32) (a3 : Int32) : Option (Int32 × St) :=
  (x11_noStep t a1).bind (fun q1 => if q1 = 0 then ((x11_outside t a2 (0 : Int32) (255 : Int32)).bind (fun q5 => if q5 = 0 then ((x11_outside t a3 (0 : Int32) (7 : Int32)).bind (fun q9 => if q9 = 0 then ((x5_put t a1 (3 : Int32) a2).bind (fun q13 => (x5_put q13 a1 (4 : Int32) a3).bind (fun q15 => some ((1 : Int32), q15)))) else (some ((-2 : Int32), t)))) else (some ((-2 : Int32), t)))) else (some ((-2 : Int32), t)))
theorem mm_x11_trace (t : St) (a1 : Int32) (a2 : Int32) (a3 : Int32) : MR (x11_trace t a1 a2 a3) t (fun (a : Int32 × St) => a.2) := by
  unfold x11_trace
  exact MR_bindn (fun q1 => MR_ite (MR_bindn (fun q5 => MR_ite (MR_bindn (fun q9 => MR_ite (MR_bind (mm_x5_put t a1 (3 : Int32) a2) (fun q13 hq13 => MR_bind (mm_x5_put q13 a1 (4 : Int32) a3) (fun q15 hq15 => MR_some (mle.trans hq13 hq15)))) (MR_some mle.rfl))) (MR_some mle.rfl))) (MR_some mle.rfl))
set_option maxHeartbeats 4000000 in
set_option maxRecDepth 100000 in
theorem c_x11_trace (l : Launch) {D : va_G} {cI cJ cZ cR : ClassId} {am gm : Nat → Nat} {st : Nat} (sz : Nat) (t : St) (a1 : Int32) (a2 : Int32) (a3 : Int32) {r : Int32} {t' : St} (ho : x11_trace t a1 a2 a3 = some (r, t')) : Met l yX11_trace (.code yX11_trace cX11_trace 4 (some .int) :: wsAll) (rmN 2 42) (va_Pc [.ref (am 1011), .int a1, .int a2, .int a3] (prX D (tyX cI cJ cZ cR) (wX cI cJ cZ cR am gm t) sz st)) (qI r D (tyX cI cJ cZ cR) (wX cI cJ cZ cR am gm t') (va_A (wX cI cJ cZ cR am gm t) sz)) 0 0 (va_A (wX cI cJ cZ cR am gm t) sz) := by
  refine Met.ofW (cc := cX11_trace) (maxL := 4) (ret := (some .int)) (by decide) rfl ?_
  intro p e s m args below meth c s₁ B hml hv
  obtain ⟨rfl, ⟨hsz, hP, hK, hD0⟩, hsx⟩ := hv
  have hx := B.exec
  have hb := B.bytes
  have hts := atoms_spec (ws := (.code yX11_trace cX11_trace 4 (some .int) :: wsAll)) B.pre
  have hta := fun w h => hts w (List.mem_cons_of_mem _ h)
  have hown : s.vm.findClass RX11 = some m.cls := findClass_of_methodNamed B.named
  have hlocks := B.notSynchronized
  subst hsz
  have hD := hD0.self (sz := s.heap.size)
  generalize hAe : va_A (wX cI cJ cZ cR am gm t) s.heap.size = A at hD ⊢
  have hA : ∀ q : Nat, s.heap.size ≤ q → A q := fun q h => by rw [← hAe]; exact Or.inr h
  have C0 : cxX p s m ([.ref (am 1011), .int a1, .int a2, .int a3].toArray) meth c cX11_trace RX11 4 (some .int) D (tyX cI cJ cZ cR) st A := ⟨⟨hx, hb, B.returns, hml, hown, hta, hlocks, hK, hA⟩, by rw [← hAe]; exact hsx⟩
  have hW : wl D A s (wX cI cJ cZ cR am gm t) s.heap [] := ⟨hP, hD, va_S.rf⟩
  have hl := lv_entry [.ref (am 1011), .int a1, .int a2, .int a3] (n := 4) (Nat.le_of_ble_eq_true rfl)
  rw [lg_entry_eq]
  generalize (lg_sl [.ref (am 1011), .int a1, .int a2, .int a3] ++ List.replicate (4 - (lg_sl [.ref (am 1011), .int a1, .int a2, .int a3]).length) Slot.unset).toArray = ls at hl ⊢
  have hl : lv_has ls 4 [(0, .ref (am 1011)), (1, .int a1), (2, .int a2), (3, .int a3)] := hl
  unfold x11_trace at ho
  refine lv_iload_n hx hb dX11_trace_0 rfl (lv_at hl 1 rfl) ?_
  obtain ⟨q1, hc2, ho⟩ := bd_some ho
  refine bkZ C0.1 hW (runSX (As := [.int a1]) (rest := []) C0 hW (c_x11_noStep l _ t a1 (r := q1) hc2) cb_X11_X11_noStep_98 rfl rfl ⟨rfl, rfl⟩ ⟨Nat.le_of_ble_eq_true rfl, Nat.le_of_ble_eq_true rfl⟩ (Nat.le_of_ble_eq_true rfl) hl.1 dX11_trace_1 ⟨Nat.le_of_ble_eq_true rfl, Nat.le_of_ble_eq_true rfl⟩) (fun z3 H locs hW => ?_)
  refine lv_if_ne (tgt := 28) hx hb dX11_trace_4 (by decide) (fun c4 => ?_) (fun c4 => ?_)
  · replace ho := ite_f c4 ho
    refine lv_bipush (v := (-2 : Int32)) hx hb dX11_trace_28 (by decide) ?_
    cases ho
    exact rtI C0.1 hW dX11_trace_30
  · replace ho := ite_t c4 ho
    refine lv_iload_n hx hb dX11_trace_7 rfl (lv_at hl 2 rfl) ?_
    refine lv_iconst (v := (0 : Int32)) hx hb dX11_trace_8 (by decide) ?_
    refine lv_sipush (v := (255 : Int32)) hx hb dX11_trace_9 (by decide) ?_
    obtain ⟨q5, hc6, ho⟩ := bd_some ho
    refine bkZ C0.1 hW (runSX (As := [.int a2, .int (0 : Int32), .int (255 : Int32)]) (rest := []) C0 hW (c_x11_outside l _ t a2 (0 : Int32) (255 : Int32) (r := q5) hc6) cb_X11_X11_outside_102 rfl rfl ⟨rfl, rfl⟩ ⟨Nat.le_of_ble_eq_true rfl, Nat.le_of_ble_eq_true rfl⟩ (Nat.le_of_ble_eq_true rfl) hl.1 dX11_trace_12 ⟨Nat.le_of_ble_eq_true rfl, Nat.le_of_ble_eq_true rfl⟩) (fun z7 H locs hW => ?_)
    refine lv_if_ne (tgt := 28) hx hb dX11_trace_15 (by decide) (fun c8 => ?_) (fun c8 => ?_)
    · replace ho := ite_f c8 ho
      refine lv_bipush (v := (-2 : Int32)) hx hb dX11_trace_28 (by decide) ?_
      cases ho
      exact rtI C0.1 hW dX11_trace_30
    · replace ho := ite_t c8 ho
      refine lv_iload_n hx hb dX11_trace_18 rfl (lv_at hl 3 rfl) ?_
      refine lv_iconst (v := (0 : Int32)) hx hb dX11_trace_19 (by decide) ?_
      refine lv_bipush (v := (7 : Int32)) hx hb dX11_trace_20 (by decide) ?_
      obtain ⟨q9, hc10, ho⟩ := bd_some ho
      refine bkZ C0.1 hW (runSX (As := [.int a3, .int (0 : Int32), .int (7 : Int32)]) (rest := []) C0 hW (c_x11_outside l _ t a3 (0 : Int32) (7 : Int32) (r := q9) hc10) cb_X11_X11_outside_102 rfl rfl ⟨rfl, rfl⟩ ⟨Nat.le_of_ble_eq_true rfl, Nat.le_of_ble_eq_true rfl⟩ (Nat.le_of_ble_eq_true rfl) hl.1 dX11_trace_22 ⟨Nat.le_of_ble_eq_true rfl, Nat.le_of_ble_eq_true rfl⟩) (fun z11 H locs hW => ?_)
      refine lv_if_eq (tgt := 31) hx hb dX11_trace_25 (by decide) (fun c12 => ?_) (fun c12 => ?_)
      · replace ho := ite_t c12 ho
        refine lv_aload_n hx hb dX11_trace_31 rfl (lv_at hl 0 rfl) ?_
        refine xGET_1100 C0 kw_591 hW dX11_trace_32 ?_
        refine lv_iload_n hx hb dX11_trace_35 rfl (lv_at hl 1 rfl) ?_
        refine lv_iconst (v := (3 : Int32)) hx hb dX11_trace_36 (by decide) ?_
        refine lv_iload_n hx hb dX11_trace_37 rfl (lv_at hl 2 rfl) ?_
        obtain ⟨q13, hc14, ho⟩ := bd_some ho
        refine bkV C0.1 hW (runVX (As := [.int a1, .int (3 : Int32), .int a2]) (rest := []) C0 hW (c_x5_put l _ t a1 (3 : Int32) a2 (t' := q13) hc14) cb_X11_X5_put_106 5 5 rfl rfl rfl rfl rfl ⟨rfl, rfl⟩ ⟨Nat.le_of_ble_eq_true rfl, Nat.le_of_ble_eq_true rfl⟩ (Nat.le_of_ble_eq_true rfl) hl.1 dX11_trace_38 ⟨Nat.le_of_ble_eq_true rfl, Nat.le_of_ble_eq_true rfl⟩) (fun H locs hW => ?_)
        refine lv_aload_n hx hb dX11_trace_41 rfl (lv_at hl 0 rfl) ?_
        refine xGET_1100 C0 kw_591 hW dX11_trace_42 ?_
        refine lv_iload_n hx hb dX11_trace_45 rfl (lv_at hl 1 rfl) ?_
        refine lv_iconst (v := (4 : Int32)) hx hb dX11_trace_46 (by decide) ?_
        refine lv_iload_n hx hb dX11_trace_47 rfl (lv_at hl 3 rfl) ?_
        obtain ⟨q15, hc16, ho⟩ := bd_some ho
        refine bkV C0.1 hW (runVX (As := [.int a1, .int (4 : Int32), .int a3]) (rest := []) C0 hW (c_x5_put l _ q13 a1 (4 : Int32) a3 (t' := q15) hc16) cb_X11_X5_put_106 5 5 rfl rfl rfl rfl rfl ⟨rfl, rfl⟩ ⟨Nat.le_of_ble_eq_true rfl, Nat.le_of_ble_eq_true rfl⟩ (Nat.le_of_ble_eq_true rfl) hl.1 dX11_trace_48 ⟨Nat.le_of_ble_eq_true rfl, Nat.le_of_ble_eq_true rfl⟩) (fun H locs hW => ?_)
        refine lv_iconst (v := (1 : Int32)) hx hb dX11_trace_51 (by decide) ?_
        cases ho
        exact rtI C0.1 hW dX11_trace_52
      · replace ho := ite_f c12 ho
        refine lv_bipush (v := (-2 : Int32)) hx hb dX11_trace_28 (by decide) ?_
        cases ho
        exact rtI C0.1 hW dX11_trace_30
noncomputable def x5_get (t : St) (a1 : Int32) (a2 : Int32) : Option (Int32) :=
  gd ((a1 * (5 : Int32)) + a2) (gN t 500) (some (gA t 500 (((a1 * (5 : Int32)) + a2)).toNatClampNeg))
set_option maxHeartbeats 4000000 in
set_option maxRecDepth 100000 in
theorem c_x5_get (l : Launch) {D : va_G} {cI cJ cZ cR : ClassId} {am gm : Nat → Nat} {st : Nat} (sz : Nat) (t : St) (a1 : Int32) (a2 : Int32) {r : Int32} (ho : x5_get t a1 a2 = some r) : Met l yX5_get (.code yX5_get cX5_get 3 (some .int) :: wsAll) (rmN 0 0) (va_Pc [.ref (am 1005), .int a1, .int a2] (prX D (tyX cI cJ cZ cR) (wX cI cJ cZ cR am gm t) sz st)) (qI r D (tyX cI cJ cZ cR) (wX cI cJ cZ cR am gm t) (va_A (wX cI cJ cZ cR am gm t) sz)) 0 0 (va_A (wX cI cJ cZ cR am gm t) sz) := by
  refine Met.ofW (cc := cX5_get) (maxL := 3) (ret := (some .int)) (by decide) rfl ?_
  intro p e s m args below meth c s₁ B hml hv
  obtain ⟨rfl, ⟨hsz, hP, hK, hD0⟩, hsx⟩ := hv
  have hx := B.exec
  have hb := B.bytes
  have hts := atoms_spec (ws := (.code yX5_get cX5_get 3 (some .int) :: wsAll)) B.pre
  have hta := fun w h => hts w (List.mem_cons_of_mem _ h)
  have hown : s.vm.findClass RX5 = some m.cls := findClass_of_methodNamed B.named
  have hlocks := B.notSynchronized
  subst hsz
  have hD := hD0.self (sz := s.heap.size)
  generalize hAe : va_A (wX cI cJ cZ cR am gm t) s.heap.size = A at hD ⊢
  have hA : ∀ q : Nat, s.heap.size ≤ q → A q := fun q h => by rw [← hAe]; exact Or.inr h
  have C0 : cxX p s m ([.ref (am 1005), .int a1, .int a2].toArray) meth c cX5_get RX5 3 (some .int) D (tyX cI cJ cZ cR) st A := ⟨⟨hx, hb, B.returns, hml, hown, hta, hlocks, hK, hA⟩, by rw [← hAe]; exact hsx⟩
  have hW : wl D A s (wX cI cJ cZ cR am gm t) s.heap [] := ⟨hP, hD, va_S.rf⟩
  have hl := lv_entry [.ref (am 1005), .int a1, .int a2] (n := 3) (Nat.le_of_ble_eq_true rfl)
  rw [lg_entry_eq]
  generalize (lg_sl [.ref (am 1005), .int a1, .int a2] ++ List.replicate (3 - (lg_sl [.ref (am 1005), .int a1, .int a2]).length) Slot.unset).toArray = ls at hl ⊢
  have hl : lv_has ls 3 [(0, .ref (am 1005)), (1, .int a1), (2, .int a2)] := hl
  unfold x5_get at ho
  refine lv_aload_n hx hb dX5_get_0 rfl (lv_at hl 0 rfl) ?_
  refine xGET_500 C0 kw_156 hW dX5_get_1 ?_
  refine lv_iload_n hx hb dX5_get_4 rfl (lv_at hl 1 rfl) ?_
  refine lv_iconst (v := (5 : Int32)) hx hb dX5_get_5 (by decide) ?_
  refine lv_imul hx hb dX5_get_6 ?_
  refine lv_iload_n hx hb dX5_get_7 rfl (lv_at hl 2 rfl) ?_
  refine lv_iadd hx hb dX5_get_8 ?_
  obtain ⟨g1, ho⟩ := gd_some ho
  refine xLD_500 C0 hW g1 dX5_get_9 ?_
  cases ho
  exact rtI C0.1 hW dX5_get_10
noncomputable def x11_about (t : St) (a1 : Int32) (a2 : Int32) : Option (Int32) :=
  (x11_noStep t a1).bind (fun q1 => if q1 = 0 then ((x11_outside t a2 (0 : Int32) (4 : Int32)).bind (fun q5 => if q5 = 0 then ((x5_get t a1 a2).bind (fun q9 => some q9)) else (some (-2 : Int32)))) else (some (-2 : Int32)))
set_option maxHeartbeats 4000000 in
set_option maxRecDepth 100000 in
theorem c_x11_about (l : Launch) {D : va_G} {cI cJ cZ cR : ClassId} {am gm : Nat → Nat} {st : Nat} (sz : Nat) (t : St) (a1 : Int32) (a2 : Int32) {r : Int32} (ho : x11_about t a1 a2 = some r) : Met l yX11_about (.code yX11_about cX11_about 3 (some .int) :: wsAll) (rmN 2 42) (va_Pc [.ref (am 1011), .int a1, .int a2] (prX D (tyX cI cJ cZ cR) (wX cI cJ cZ cR am gm t) sz st)) (qI r D (tyX cI cJ cZ cR) (wX cI cJ cZ cR am gm t) (va_A (wX cI cJ cZ cR am gm t) sz)) 0 0 (va_A (wX cI cJ cZ cR am gm t) sz) := by
  refine Met.ofW (cc := cX11_about) (maxL := 3) (ret := (some .int)) (by decide) rfl ?_
  intro p e s m args below meth c s₁ B hml hv
  obtain ⟨rfl, ⟨hsz, hP, hK, hD0⟩, hsx⟩ := hv
  have hx := B.exec
  have hb := B.bytes
  have hts := atoms_spec (ws := (.code yX11_about cX11_about 3 (some .int) :: wsAll)) B.pre
  have hta := fun w h => hts w (List.mem_cons_of_mem _ h)
  have hown : s.vm.findClass RX11 = some m.cls := findClass_of_methodNamed B.named
  have hlocks := B.notSynchronized
  subst hsz
  have hD := hD0.self (sz := s.heap.size)
  generalize hAe : va_A (wX cI cJ cZ cR am gm t) s.heap.size = A at hD ⊢
  have hA : ∀ q : Nat, s.heap.size ≤ q → A q := fun q h => by rw [← hAe]; exact Or.inr h
  have C0 : cxX p s m ([.ref (am 1011), .int a1, .int a2].toArray) meth c cX11_about RX11 3 (some .int) D (tyX cI cJ cZ cR) st A := ⟨⟨hx, hb, B.returns, hml, hown, hta, hlocks, hK, hA⟩, by rw [← hAe]; exact hsx⟩
  have hW : wl D A s (wX cI cJ cZ cR am gm t) s.heap [] := ⟨hP, hD, va_S.rf⟩
  have hl := lv_entry [.ref (am 1011), .int a1, .int a2] (n := 3) (Nat.le_of_ble_eq_true rfl)
  rw [lg_entry_eq]
  generalize (lg_sl [.ref (am 1011), .int a1, .int a2] ++ List.replicate (3 - (lg_sl [.ref (am 1011), .int a1, .int a2]).length) Slot.unset).toArray = ls at hl ⊢
  have hl : lv_has ls 3 [(0, .ref (am 1011)), (1, .int a1), (2, .int a2)] := hl
  unfold x11_about at ho
  refine lv_iload_n hx hb dX11_about_0 rfl (lv_at hl 1 rfl) ?_
  obtain ⟨q1, hc2, ho⟩ := bd_some ho
  refine bkZ C0.1 hW (runSX (As := [.int a1]) (rest := []) C0 hW (c_x11_noStep l _ t a1 (r := q1) hc2) cb_X11_X11_noStep_98 rfl rfl ⟨rfl, rfl⟩ ⟨Nat.le_of_ble_eq_true rfl, Nat.le_of_ble_eq_true rfl⟩ (Nat.le_of_ble_eq_true rfl) hl.1 dX11_about_1 ⟨Nat.le_of_ble_eq_true rfl, Nat.le_of_ble_eq_true rfl⟩) (fun z3 H locs hW => ?_)
  refine lv_if_ne (tgt := 16) hx hb dX11_about_4 (by decide) (fun c4 => ?_) (fun c4 => ?_)
  · replace ho := ite_f c4 ho
    refine lv_bipush (v := (-2 : Int32)) hx hb dX11_about_16 (by decide) ?_
    cases ho
    exact rtI C0.1 hW dX11_about_18
  · replace ho := ite_t c4 ho
    refine lv_iload_n hx hb dX11_about_7 rfl (lv_at hl 2 rfl) ?_
    refine lv_iconst (v := (0 : Int32)) hx hb dX11_about_8 (by decide) ?_
    refine lv_iconst (v := (4 : Int32)) hx hb dX11_about_9 (by decide) ?_
    obtain ⟨q5, hc6, ho⟩ := bd_some ho
    refine bkZ C0.1 hW (runSX (As := [.int a2, .int (0 : Int32), .int (4 : Int32)]) (rest := []) C0 hW (c_x11_outside l _ t a2 (0 : Int32) (4 : Int32) (r := q5) hc6) cb_X11_X11_outside_102 rfl rfl ⟨rfl, rfl⟩ ⟨Nat.le_of_ble_eq_true rfl, Nat.le_of_ble_eq_true rfl⟩ (Nat.le_of_ble_eq_true rfl) hl.1 dX11_about_10 ⟨Nat.le_of_ble_eq_true rfl, Nat.le_of_ble_eq_true rfl⟩) (fun z7 H locs hW => ?_)
    refine lv_if_eq (tgt := 19) hx hb dX11_about_13 (by decide) (fun c8 => ?_) (fun c8 => ?_)
    · replace ho := ite_t c8 ho
      refine lv_aload_n hx hb dX11_about_19 rfl (lv_at hl 0 rfl) ?_
      refine xGET_1100 C0 kw_591 hW dX11_about_20 ?_
      refine lv_iload_n hx hb dX11_about_23 rfl (lv_at hl 1 rfl) ?_
      refine lv_iload_n hx hb dX11_about_24 rfl (lv_at hl 2 rfl) ?_
      obtain ⟨q9, hc10, ho⟩ := bd_some ho
      refine bkI C0.1 hW (runVX (As := [.int a1, .int a2]) (rest := []) C0 hW (c_x5_get l _ t a1 a2 (r := q9) hc10) cb_X11_X5_get_113 5 5 rfl rfl rfl rfl rfl ⟨rfl, rfl⟩ ⟨Nat.le_of_ble_eq_true rfl, Nat.le_of_ble_eq_true rfl⟩ (Nat.le_of_ble_eq_true rfl) hl.1 dX11_about_25 ⟨Nat.le_of_ble_eq_true rfl, Nat.le_of_ble_eq_true rfl⟩) (fun H locs hW => ?_)
      cases ho
      exact rtI C0.1 hW dX11_about_28
    · replace ho := ite_f c8 ho
      refine lv_bipush (v := (-2 : Int32)) hx hb dX11_about_16 (by decide) ?_
      cases ho
      exact rtI C0.1 hW dX11_about_18
noncomputable def x6_append (t : St) (a1 : Int32) : Option (Int32 × St) :=
  if (gI t 601) < (80 : Int32) then (gd (gI t 601) (gN t 600) (nm (sA t 600 (gI t 601) a1) (fun t3 : St => nm (sI t3 601 ((gI t3 601) + (1 : Int32))) (fun t4 : St => some ((1 : Int32), t4))))) else (some ((0 : Int32), t))
theorem mm_x6_append (t : St) (a1 : Int32) : MR (x6_append t a1) t (fun (a : Int32 × St) => a.2) := by
  unfold x6_append
  exact MR_ite (MR_gd (MR_nmS mle_sA (fun t3 ht3 => MR_nmS mle_sI (fun t4 ht4 => MR_some (mle.trans ht3 ht4))))) (MR_some mle.rfl)
set_option maxHeartbeats 4000000 in
set_option maxRecDepth 100000 in
theorem c_x6_append (l : Launch) {D : va_G} {cI cJ cZ cR : ClassId} {am gm : Nat → Nat} {st : Nat} (sz : Nat) (t : St) (a1 : Int32) {r : Int32} {t' : St} (ho : x6_append t a1 = some (r, t')) : Met l yX6_append (.code yX6_append cX6_append 2 (some .boolean) :: wsAll) (rmN 0 0) (va_Pc [.ref (am 1006), .int a1] (prX D (tyX cI cJ cZ cR) (wX cI cJ cZ cR am gm t) sz st)) (qZ r D (tyX cI cJ cZ cR) (wX cI cJ cZ cR am gm t') (va_A (wX cI cJ cZ cR am gm t) sz)) 0 0 (va_A (wX cI cJ cZ cR am gm t) sz) := by
  refine Met.ofW (cc := cX6_append) (maxL := 2) (ret := (some .boolean)) (by decide) rfl ?_
  intro p e s m args below meth c s₁ B hml hv
  obtain ⟨rfl, ⟨hsz, hP, hK, hD0⟩, hsx⟩ := hv
  have hx := B.exec
  have hb := B.bytes
  have hts := atoms_spec (ws := (.code yX6_append cX6_append 2 (some .boolean) :: wsAll)) B.pre
  have hta := fun w h => hts w (List.mem_cons_of_mem _ h)
  have hown : s.vm.findClass RX6 = some m.cls := findClass_of_methodNamed B.named
  have hlocks := B.notSynchronized
  subst hsz
  have hD := hD0.self (sz := s.heap.size)
  generalize hAe : va_A (wX cI cJ cZ cR am gm t) s.heap.size = A at hD ⊢
  have hA : ∀ q : Nat, s.heap.size ≤ q → A q := fun q h => by rw [← hAe]; exact Or.inr h
  have C0 : cxX p s m ([.ref (am 1006), .int a1].toArray) meth c cX6_append RX6 2 (some .boolean) D (tyX cI cJ cZ cR) st A := ⟨⟨hx, hb, B.returns, hml, hown, hta, hlocks, hK, hA⟩, by rw [← hAe]; exact hsx⟩
  have hW : wl D A s (wX cI cJ cZ cR am gm t) s.heap [] := ⟨hP, hD, va_S.rf⟩
  have hl := lv_entry [.ref (am 1006), .int a1] (n := 2) (Nat.le_of_ble_eq_true rfl)
  rw [lg_entry_eq]
  generalize (lg_sl [.ref (am 1006), .int a1] ++ List.replicate (2 - (lg_sl [.ref (am 1006), .int a1]).length) Slot.unset).toArray = ls at hl ⊢
  have hl : lv_has ls 2 [(0, .ref (am 1006)), (1, .int a1)] := hl
  unfold x6_append at ho
  refine lv_aload_n hx hb dX6_append_0 rfl (lv_at hl 0 rfl) ?_
  refine xGET_601 C0 kw_180 hW dX6_append_1 ?_
  refine lv_bipush (v := (80 : Int32)) hx hb dX6_append_4 (by decide) ?_
  refine lv_icmp_lt (tgt := 11) hx hb dX6_append_6 (by decide) (fun c1 => ?_) (fun c1 => ?_)
  · replace ho := ite_t c1 ho
    refine lv_aload_n hx hb dX6_append_11 rfl (lv_at hl 0 rfl) ?_
    refine xGET_600 C0 kw_178 hW dX6_append_12 ?_
    refine lv_aload_n hx hb dX6_append_15 rfl (lv_at hl 0 rfl) ?_
    refine xGET_601 C0 kw_180 hW dX6_append_16 ?_
    refine lv_iload_n hx hb dX6_append_19 rfl (lv_at hl 1 rfl) ?_
    obtain ⟨g2, ho⟩ := gd_some ho
    refine xST_600 C0 hW g2 dX6_append_20 (fun H locs hW => ?_)
    obtain ⟨t3, ho, hW⟩ := nm_w (P := fun t => wl D A s (wX cI cJ cZ cR am gm t) H locs) ho hW
    refine lv_aload_n hx hb dX6_append_21 rfl (lv_at hl 0 rfl) ?_
    refine lv_dup hx hb dX6_append_22 rfl ?_
    refine xGET_601 C0 kw_180 hW dX6_append_23 ?_
    refine lv_iconst (v := (1 : Int32)) hx hb dX6_append_26 (by decide) ?_
    refine lv_iadd hx hb dX6_append_27 ?_
    refine xPUT_601 C0 kw_180 hW dX6_append_28 (fun H locs hW => ?_)
    obtain ⟨t4, ho, hW⟩ := nm_w (P := fun t => wl D A s (wX cI cJ cZ cR am gm t) H locs) ho hW
    refine lv_iconst (v := (1 : Int32)) hx hb dX6_append_31 (by decide) ?_
    cases ho
    exact rtZ C0.1 hW (Or.inr (rfl : (1 : Int32) = 1)) dX6_append_32
  · replace ho := ite_f c1 ho
    refine lv_iconst (v := (0 : Int32)) hx hb dX6_append_9 (by decide) ?_
    cases ho
    exact rtZ C0.1 hW (Or.inl (rfl : (0 : Int32) = 0)) dX6_append_10
noncomputable def x11_write (t : St) (a1 : Int32) : Option (Int32 × St) :=
  (x11_outside t a1 (0 : Int32) (127 : Int32)).bind (fun q1 => if q1 = 0 then ((x6_append t a1).bind (fun q5 => if q5.1 = 0 then (some ((-4 : Int32), q5.2)) else (some ((gI q5.2 601), q5.2)))) else (some ((-2 : Int32), t)))
theorem mm_x11_write (t : St) (a1 : Int32) : MR (x11_write t a1) t (fun (a : Int32 × St) => a.2) := by
  unfold x11_write
  exact MR_bindn (fun q1 => MR_ite (MR_bind (mm_x6_append t a1) (fun q5 hq5 => MR_ite (MR_some hq5) (MR_some hq5))) (MR_some mle.rfl))
set_option maxHeartbeats 4000000 in
set_option maxRecDepth 100000 in
theorem c_x11_write (l : Launch) {D : va_G} {cI cJ cZ cR : ClassId} {am gm : Nat → Nat} {st : Nat} (sz : Nat) (t : St) (a1 : Int32) {r : Int32} {t' : St} (ho : x11_write t a1 = some (r, t')) : Met l yX11_write (.code yX11_write cX11_write 2 (some .int) :: wsAll) (rmN 1 22) (va_Pc [.ref (am 1011), .int a1] (prX D (tyX cI cJ cZ cR) (wX cI cJ cZ cR am gm t) sz st)) (qI r D (tyX cI cJ cZ cR) (wX cI cJ cZ cR am gm t') (va_A (wX cI cJ cZ cR am gm t) sz)) 0 0 (va_A (wX cI cJ cZ cR am gm t) sz) := by
  refine Met.ofW (cc := cX11_write) (maxL := 2) (ret := (some .int)) (by decide) rfl ?_
  intro p e s m args below meth c s₁ B hml hv
  obtain ⟨rfl, ⟨hsz, hP, hK, hD0⟩, hsx⟩ := hv
  have hx := B.exec
  have hb := B.bytes
  have hts := atoms_spec (ws := (.code yX11_write cX11_write 2 (some .int) :: wsAll)) B.pre
  have hta := fun w h => hts w (List.mem_cons_of_mem _ h)
  have hown : s.vm.findClass RX11 = some m.cls := findClass_of_methodNamed B.named
  have hlocks := B.notSynchronized
  subst hsz
  have hD := hD0.self (sz := s.heap.size)
  generalize hAe : va_A (wX cI cJ cZ cR am gm t) s.heap.size = A at hD ⊢
  have hA : ∀ q : Nat, s.heap.size ≤ q → A q := fun q h => by rw [← hAe]; exact Or.inr h
  have C0 : cxX p s m ([.ref (am 1011), .int a1].toArray) meth c cX11_write RX11 2 (some .int) D (tyX cI cJ cZ cR) st A := ⟨⟨hx, hb, B.returns, hml, hown, hta, hlocks, hK, hA⟩, by rw [← hAe]; exact hsx⟩
  have hW : wl D A s (wX cI cJ cZ cR am gm t) s.heap [] := ⟨hP, hD, va_S.rf⟩
  have hl := lv_entry [.ref (am 1011), .int a1] (n := 2) (Nat.le_of_ble_eq_true rfl)
  rw [lg_entry_eq]
  generalize (lg_sl [.ref (am 1011), .int a1] ++ List.replicate (2 - (lg_sl [.ref (am 1011), .int a1]).length) Slot.unset).toArray = ls at hl ⊢
  have hl : lv_has ls 2 [(0, .ref (am 1011)), (1, .int a1)] := hl
  unfold x11_write at ho
  refine lv_iload_n hx hb dX11_write_0 rfl (lv_at hl 1 rfl) ?_
  refine lv_iconst (v := (0 : Int32)) hx hb dX11_write_1 (by decide) ?_
  refine lv_bipush (v := (127 : Int32)) hx hb dX11_write_2 (by decide) ?_
  obtain ⟨q1, hc2, ho⟩ := bd_some ho
  refine bkZ C0.1 hW (runSX (As := [.int a1, .int (0 : Int32), .int (127 : Int32)]) (rest := []) C0 hW (c_x11_outside l _ t a1 (0 : Int32) (127 : Int32) (r := q1) hc2) cb_X11_X11_outside_102 rfl rfl ⟨rfl, rfl⟩ ⟨Nat.le_of_ble_eq_true rfl, Nat.le_of_ble_eq_true rfl⟩ (Nat.le_of_ble_eq_true rfl) hl.1 dX11_write_4 ⟨Nat.le_of_ble_eq_true rfl, Nat.le_of_ble_eq_true rfl⟩) (fun z3 H locs hW => ?_)
  refine lv_if_eq (tgt := 13) hx hb dX11_write_7 (by decide) (fun c4 => ?_) (fun c4 => ?_)
  · replace ho := ite_t c4 ho
    refine lv_aload_n hx hb dX11_write_13 rfl (lv_at hl 0 rfl) ?_
    refine xGET_1101 C0 kw_592 hW dX11_write_14 ?_
    refine lv_iload_n hx hb dX11_write_17 rfl (lv_at hl 1 rfl) ?_
    obtain ⟨q5, hc6, ho⟩ := bd_some ho
    refine bkZ C0.1 hW (runVX (As := [.int a1]) (rest := []) C0 hW (c_x6_append l _ t a1 (r := q5.1) (t' := q5.2) hc6) cb_X11_X6_append_117 6 6 rfl rfl rfl rfl rfl ⟨rfl, rfl⟩ ⟨Nat.le_of_ble_eq_true rfl, Nat.le_of_ble_eq_true rfl⟩ (Nat.le_of_ble_eq_true rfl) hl.1 dX11_write_18 ⟨Nat.le_of_ble_eq_true rfl, Nat.le_of_ble_eq_true rfl⟩) (fun z7 H locs hW => ?_)
    refine lv_if_eq (tgt := 34) hx hb dX11_write_21 (by decide) (fun c8 => ?_) (fun c8 => ?_)
    · replace ho := ite_t c8 ho
      refine lv_bipush (v := (-4 : Int32)) hx hb dX11_write_34 (by decide) ?_
      cases ho
      exact rtI C0.1 hW dX11_write_36
    · replace ho := ite_f c8 ho
      refine lv_aload_n hx hb dX11_write_24 rfl (lv_at hl 0 rfl) ?_
      refine xGET_1101 C0 kw_592 hW dX11_write_25 ?_
      refine xGET_601 C0 kw_182 hW dX11_write_28 ?_
      refine lv_goto (tgt := 36) hx hb dX11_write_31 (by decide) ?_
      cases ho
      exact rtI C0.1 hW dX11_write_36
  · replace ho := ite_f c4 ho
    refine lv_bipush (v := (-2 : Int32)) hx hb dX11_write_10 (by decide) ?_
    cases ho
    exact rtI C0.1 hW dX11_write_12
noncomputable def x11_erase (t : St) : Option (Int32 × St) :=
  nm (gI t 601) (fun x1 : Int32 => nm (sI t 601 (0 : Int32)) (fun t2 : St => some (x1, t2)))
theorem mm_x11_erase (t : St) : MR (x11_erase t) t (fun (a : Int32 × St) => a.2) := by
  unfold x11_erase
  exact MR_nm (fun x1 _ => MR_nmS mle_sI (fun t2 ht2 => MR_some ht2))
set_option maxHeartbeats 4000000 in
set_option maxRecDepth 100000 in
theorem c_x11_erase (l : Launch) {D : va_G} {cI cJ cZ cR : ClassId} {am gm : Nat → Nat} {st : Nat} (sz : Nat) (t : St) {r : Int32} {t' : St} (ho : x11_erase t = some (r, t')) : Met l yX11_erase (.code yX11_erase cX11_erase 2 (some .int) :: wsAll) (rmN 0 0) (va_Pc [.ref (am 1011)] (prX D (tyX cI cJ cZ cR) (wX cI cJ cZ cR am gm t) sz st)) (qI r D (tyX cI cJ cZ cR) (wX cI cJ cZ cR am gm t') (va_A (wX cI cJ cZ cR am gm t) sz)) 0 0 (va_A (wX cI cJ cZ cR am gm t) sz) := by
  refine Met.ofW (cc := cX11_erase) (maxL := 2) (ret := (some .int)) (by decide) rfl ?_
  intro p e s m args below meth c s₁ B hml hv
  obtain ⟨rfl, ⟨hsz, hP, hK, hD0⟩, hsx⟩ := hv
  have hx := B.exec
  have hb := B.bytes
  have hts := atoms_spec (ws := (.code yX11_erase cX11_erase 2 (some .int) :: wsAll)) B.pre
  have hta := fun w h => hts w (List.mem_cons_of_mem _ h)
  have hown : s.vm.findClass RX11 = some m.cls := findClass_of_methodNamed B.named
  have hlocks := B.notSynchronized
  subst hsz
  have hD := hD0.self (sz := s.heap.size)
  generalize hAe : va_A (wX cI cJ cZ cR am gm t) s.heap.size = A at hD ⊢
  have hA : ∀ q : Nat, s.heap.size ≤ q → A q := fun q h => by rw [← hAe]; exact Or.inr h
  have C0 : cxX p s m ([.ref (am 1011)].toArray) meth c cX11_erase RX11 2 (some .int) D (tyX cI cJ cZ cR) st A := ⟨⟨hx, hb, B.returns, hml, hown, hta, hlocks, hK, hA⟩, by rw [← hAe]; exact hsx⟩
  have hW : wl D A s (wX cI cJ cZ cR am gm t) s.heap [] := ⟨hP, hD, va_S.rf⟩
  have hl := lv_entry [.ref (am 1011)] (n := 2) (Nat.le_of_ble_eq_true rfl)
  rw [lg_entry_eq]
  generalize (lg_sl [.ref (am 1011)] ++ List.replicate (2 - (lg_sl [.ref (am 1011)]).length) Slot.unset).toArray = ls at hl ⊢
  have hl : lv_has ls 2 [(0, .ref (am 1011))] := hl
  unfold x11_erase at ho
  refine lv_aload_n hx hb dX11_erase_0 rfl (lv_at hl 0 rfl) ?_
  refine xGET_1101 C0 kw_592 hW dX11_erase_1 ?_
  refine xGET_601 C0 kw_182 hW dX11_erase_4 ?_
  refine lv_nmi ho (fun x1 ho => ?_)
  refine lv_istore_n (lv' := [(1, .int x1), (0, .ref (am 1011))]) hx hb dX11_erase_7 rfl hl (by decide) rfl (fun ls hl => ?_)
  refine lv_aload_n hx hb dX11_erase_8 rfl (lv_at hl 1 rfl) ?_
  refine xGET_1101 C0 kw_592 hW dX11_erase_9 ?_
  refine lv_iconst (v := (0 : Int32)) hx hb dX11_erase_12 (by decide) ?_
  refine xPUT_601 C0 kw_182 hW dX11_erase_13 (fun H locs hW => ?_)
  obtain ⟨t2, ho, hW⟩ := nm_w (P := fun t => wl D A s (wX cI cJ cZ cR am gm t) H locs) ho hW
  refine lv_iload_n hx hb dX11_erase_16 rfl (lv_at hl 0 rfl) ?_
  cases ho
  exact rtI C0.1 hW dX11_erase_17
noncomputable def x11_noNet (t : St) (a0 : Int32) : Option (Int32) :=
  (x11_outside t a0 (0 : Int32) (9 : Int32)).bind (fun q1 => some q1)
set_option maxHeartbeats 4000000 in
set_option maxRecDepth 100000 in
theorem c_x11_noNet (l : Launch) {D : va_G} {cI cJ cZ cR : ClassId} {am gm : Nat → Nat} {st : Nat} (sz : Nat) (t : St) (a0 : Int32) {r : Int32} (ho : x11_noNet t a0 = some r) : Met l yX11_noNet (.code yX11_noNet cX11_noNet 1 (some .boolean) :: wsAll) (rmN 1 22) (va_Pc [.int a0] (prX D (tyX cI cJ cZ cR) (wX cI cJ cZ cR am gm t) sz st)) (qZ r D (tyX cI cJ cZ cR) (wX cI cJ cZ cR am gm t) (va_A (wX cI cJ cZ cR am gm t) sz)) 0 0 (va_A (wX cI cJ cZ cR am gm t) sz) := by
  refine Met.ofW (cc := cX11_noNet) (maxL := 1) (ret := (some .boolean)) (by decide) rfl ?_
  intro p e s m args below meth c s₁ B hml hv
  obtain ⟨rfl, ⟨hsz, hP, hK, hD0⟩, hsx⟩ := hv
  have hx := B.exec
  have hb := B.bytes
  have hts := atoms_spec (ws := (.code yX11_noNet cX11_noNet 1 (some .boolean) :: wsAll)) B.pre
  have hta := fun w h => hts w (List.mem_cons_of_mem _ h)
  have hown : s.vm.findClass RX11 = some m.cls := findClass_of_methodNamed B.named
  have hlocks := B.notSynchronized
  subst hsz
  have hD := hD0.self (sz := s.heap.size)
  generalize hAe : va_A (wX cI cJ cZ cR am gm t) s.heap.size = A at hD ⊢
  have hA : ∀ q : Nat, s.heap.size ≤ q → A q := fun q h => by rw [← hAe]; exact Or.inr h
  have C0 : cxX p s m ([.int a0].toArray) meth c cX11_noNet RX11 1 (some .boolean) D (tyX cI cJ cZ cR) st A := ⟨⟨hx, hb, B.returns, hml, hown, hta, hlocks, hK, hA⟩, by rw [← hAe]; exact hsx⟩
  have hW : wl D A s (wX cI cJ cZ cR am gm t) s.heap [] := ⟨hP, hD, va_S.rf⟩
  have hl := lv_entry [.int a0] (n := 1) (Nat.le_of_ble_eq_true rfl)
  rw [lg_entry_eq]
  generalize (lg_sl [.int a0] ++ List.replicate (1 - (lg_sl [.int a0]).length) Slot.unset).toArray = ls at hl ⊢
  have hl : lv_has ls 1 [(0, .int a0)] := hl
  unfold x11_noNet at ho
  refine lv_iload_n hx hb dX11_noNet_0 rfl (lv_at hl 0 rfl) ?_
  refine lv_iconst (v := (0 : Int32)) hx hb dX11_noNet_1 (by decide) ?_
  refine lv_bipush (v := (9 : Int32)) hx hb dX11_noNet_2 (by decide) ?_
  obtain ⟨q1, hc2, ho⟩ := bd_some ho
  refine bkZ C0.1 hW (runSX (As := [.int a0, .int (0 : Int32), .int (9 : Int32)]) (rest := []) C0 hW (c_x11_outside l _ t a0 (0 : Int32) (9 : Int32) (r := q1) hc2) cb_X11_X11_outside_102 rfl rfl ⟨rfl, rfl⟩ ⟨Nat.le_of_ble_eq_true rfl, Nat.le_of_ble_eq_true rfl⟩ (Nat.le_of_ble_eq_true rfl) hl.1 dX11_noNet_4 ⟨Nat.le_of_ble_eq_true rfl, Nat.le_of_ble_eq_true rfl⟩) (fun z3 H locs hW => ?_)
  cases ho
  exact rtZ C0.1 hW z3 dX11_noNet_7
noncomputable def x7_next_B0 (t : St) : Option ((St) ⊕ (St)) :=
  if (gI t 601) ≤ (gI t 703) then (some (.inr t)) else (gd (gI t 703) (gN t 600) (if (gA t 600 ((gI t 703)).toNatClampNeg) = (32 : Int32) then (nm (sI t 703 ((gI t 703) + (1 : Int32))) (fun t4 : St => some (.inl t4))) else (some (.inr t))))
theorem mm_x7_next_B0 (t : St) : MR (x7_next_B0 t) t (Sum.elim (fun (x : St) => x) (fun (y : St) => y)) := by
  unfold x7_next_B0
  exact MR_ite (MR_some mle.rfl) (MR_gd (MR_ite (MR_nmS mle_sI (fun t4 ht4 => MR_some ht4)) (MR_some mle.rfl)))
theorem mm_x7_next_L0 (t : St) : MR (lp (fun x => x7_next_B0 x) t) t (fun (y : St) => y) := MR_lp (p := (fun (x : St) => x)) (q := (fun (y : St) => y)) (fun x => mm_x7_next_B0 x) t
noncomputable def x7_next (t : St) : Option (Int32 × St) :=
  (lp (fun x => x7_next_B0 x) t).bind (fun y5 => if (gI y5 601) ≤ (gI y5 703) then (some ((-1 : Int32), y5)) else (gd (gI y5 703) (gN y5 600) (some ((gA y5 600 ((gI y5 703)).toNatClampNeg), y5))))
theorem mm_x7_next (t : St) : MR (x7_next t) t (fun (a : Int32 × St) => a.2) := by
  unfold x7_next
  exact MR_bind (mm_x7_next_L0 t) (fun y5 hm6 => MR_ite (MR_some hm6) (MR_gd (MR_some hm6)))
set_option maxHeartbeats 4000000 in
set_option maxRecDepth 100000 in
theorem x7_next_L0 {p : Program} {l : Launch} {e : Env} {s : State} {m : MethodId} {args : Array Value} {below : List Frame} {meth : Method} {c : Code} {Q : State → Prop} {D : va_G} {cI cJ cZ cR : ClassId} {am gm : Nat → Nat} {st : Nat} {A : Nat → Prop} (C0 : cxX p s m args meth c cX7_next RX7 1 (some .int) D (tyX cI cJ cZ cR) st A) {y : St} (hK0 : ∀ (H : Heap) (locs : List Loc) (ls : Array Slot), wl D A s (wX cI cJ cZ cR am gm y) H locs → lv_has ls 1 [(0, .ref (am 1007))] → W p l e (rmN 0 0) s m args below meth c H locs 0 0 Q (F0 m 44 ls [])) :
    ∀ (n : Nat) (t : St), lpn (fun x => x7_next_B0 x) n t = some y → ∀ (H : Heap) (locs : List Loc) (ls : Array Slot), wl D A s (wX cI cJ cZ cR am gm t) H locs → lv_has ls 1 [(0, .ref (am 1007))] → W p l e (rmN 0 0) s m args below meth c H locs 0 0 Q (F0 m 0 ls []) := by
  have hx := C0.1.1
  have hb := C0.1.2.1
  have hta := C0.1.2.2.2.2.2.1
  have hown := C0.1.2.2.2.2.1
  intro n
  induction n with
  | zero => intro _ h; cases h
  | succ n ih =>
    intro t hrun H locs ls hW hl
    obtain ⟨o, ho, hrun⟩ := bd_some hrun
    unfold x7_next_B0 at ho
    refine lv_aload_n hx hb dX7_next_0 rfl (lv_at hl 0 rfl) ?_
    refine xGET_703 C0 kw_249 hW dX7_next_1 ?_
    refine lv_aload_n hx hb dX7_next_4 rfl (lv_at hl 0 rfl) ?_
    refine xGET_700 C0 kw_246 hW dX7_next_5 ?_
    refine xGET_601 C0 kw_181 hW dX7_next_8 ?_
    refine lv_icmp_ge (tgt := 44) hx hb dX7_next_11 (by decide) (fun c1 => ?_) (fun c1 => ?_)
    · replace ho := ite_t c1 ho
      cases ho
      cases hrun
      exact hK0 _ _ _ hW (lv_sub hl [0] rfl)
    · replace ho := ite_f c1 ho
      refine lv_aload_n hx hb dX7_next_14 rfl (lv_at hl 0 rfl) ?_
      refine xGET_700 C0 kw_246 hW dX7_next_15 ?_
      refine xGET_600 C0 kw_179 hW dX7_next_18 ?_
      refine lv_aload_n hx hb dX7_next_21 rfl (lv_at hl 0 rfl) ?_
      refine xGET_703 C0 kw_249 hW dX7_next_22 ?_
      obtain ⟨g2, ho⟩ := gd_some ho
      refine xLD_600 C0 hW g2 dX7_next_25 ?_
      refine lv_bipush (v := (32 : Int32)) hx hb dX7_next_26 (by decide) ?_
      refine lv_icmp_ne (tgt := 44) hx hb dX7_next_28 (by decide) (fun c3 => ?_) (fun c3 => ?_)
      · replace ho := ite_f c3 ho
        cases ho
        cases hrun
        exact hK0 _ _ _ hW (lv_sub hl [0] rfl)
      · replace ho := ite_t c3 ho
        refine lv_aload_n hx hb dX7_next_31 rfl (lv_at hl 0 rfl) ?_
        refine lv_dup hx hb dX7_next_32 rfl ?_
        refine xGET_703 C0 kw_249 hW dX7_next_33 ?_
        refine lv_iconst (v := (1 : Int32)) hx hb dX7_next_36 (by decide) ?_
        refine lv_iadd hx hb dX7_next_37 ?_
        refine xPUT_703 C0 kw_249 hW dX7_next_38 (fun H locs hW => ?_)
        obtain ⟨t4, ho, hW⟩ := nm_w (P := fun t => wl D A s (wX cI cJ cZ cR am gm t) H locs) ho hW
        refine lv_goto (tgt := 0) hx hb dX7_next_41 (by decide) ?_
        cases ho
        exact ih _ hrun _ _ _ hW (lv_sub hl [0] rfl)
set_option maxHeartbeats 4000000 in
set_option maxRecDepth 100000 in
theorem c_x7_next (l : Launch) {D : va_G} {cI cJ cZ cR : ClassId} {am gm : Nat → Nat} {st : Nat} (sz : Nat) (t : St) {r : Int32} {t' : St} (ho : x7_next t = some (r, t')) : Met l yX7_next (.code yX7_next cX7_next 1 (some .int) :: wsAll) (rmN 0 0) (va_Pc [.ref (am 1007)] (prX D (tyX cI cJ cZ cR) (wX cI cJ cZ cR am gm t) sz st)) (qI r D (tyX cI cJ cZ cR) (wX cI cJ cZ cR am gm t') (va_A (wX cI cJ cZ cR am gm t) sz)) 0 0 (va_A (wX cI cJ cZ cR am gm t) sz) := by
  refine Met.ofW (cc := cX7_next) (maxL := 1) (ret := (some .int)) (by decide) rfl ?_
  intro p e s m args below meth c s₁ B hml hv
  obtain ⟨rfl, ⟨hsz, hP, hK, hD0⟩, hsx⟩ := hv
  have hx := B.exec
  have hb := B.bytes
  have hts := atoms_spec (ws := (.code yX7_next cX7_next 1 (some .int) :: wsAll)) B.pre
  have hta := fun w h => hts w (List.mem_cons_of_mem _ h)
  have hown : s.vm.findClass RX7 = some m.cls := findClass_of_methodNamed B.named
  have hlocks := B.notSynchronized
  subst hsz
  have hD := hD0.self (sz := s.heap.size)
  generalize hAe : va_A (wX cI cJ cZ cR am gm t) s.heap.size = A at hD ⊢
  have hA : ∀ q : Nat, s.heap.size ≤ q → A q := fun q h => by rw [← hAe]; exact Or.inr h
  have C0 : cxX p s m ([.ref (am 1007)].toArray) meth c cX7_next RX7 1 (some .int) D (tyX cI cJ cZ cR) st A := ⟨⟨hx, hb, B.returns, hml, hown, hta, hlocks, hK, hA⟩, by rw [← hAe]; exact hsx⟩
  have hW : wl D A s (wX cI cJ cZ cR am gm t) s.heap [] := ⟨hP, hD, va_S.rf⟩
  have hl := lv_entry [.ref (am 1007)] (n := 1) (Nat.le_of_ble_eq_true rfl)
  rw [lg_entry_eq]
  generalize (lg_sl [.ref (am 1007)] ++ List.replicate (1 - (lg_sl [.ref (am 1007)]).length) Slot.unset).toArray = ls at hl ⊢
  have hl : lv_has ls 1 [(0, .ref (am 1007))] := hl
  unfold x7_next at ho
  obtain ⟨y5, hc7, ho⟩ := bd_some ho
  obtain ⟨ny5, hc7⟩ := lp_to hc7
  refine x7_next_L0 C0 ?_ ny5 _ hc7 _ _ _ hW (lv_sub hl [0] rfl)
  intro H locs ls hW hl
  refine lv_aload_n hx hb dX7_next_44 rfl (lv_at hl 0 rfl) ?_
  refine xGET_703 C0 kw_249 hW dX7_next_45 ?_
  refine lv_aload_n hx hb dX7_next_48 rfl (lv_at hl 0 rfl) ?_
  refine xGET_700 C0 kw_246 hW dX7_next_49 ?_
  refine xGET_601 C0 kw_181 hW dX7_next_52 ?_
  refine lv_icmp_ge (tgt := 73) hx hb dX7_next_55 (by decide) (fun c8 => ?_) (fun c8 => ?_)
  · replace ho := ite_t c8 ho
    refine lv_iconst (v := (-1 : Int32)) hx hb dX7_next_73 (by decide) ?_
    cases ho
    exact rtI C0.1 hW dX7_next_74
  · replace ho := ite_f c8 ho
    refine lv_aload_n hx hb dX7_next_58 rfl (lv_at hl 0 rfl) ?_
    refine xGET_700 C0 kw_246 hW dX7_next_59 ?_
    refine xGET_600 C0 kw_179 hW dX7_next_62 ?_
    refine lv_aload_n hx hb dX7_next_65 rfl (lv_at hl 0 rfl) ?_
    refine xGET_703 C0 kw_249 hW dX7_next_66 ?_
    obtain ⟨g9, ho⟩ := gd_some ho
    refine xLD_600 C0 hW g9 dX7_next_69 ?_
    refine lv_goto (tgt := 74) hx hb dX7_next_70 (by decide) ?_
    cases ho
    exact rtI C0.1 hW dX7_next_74
noncomputable def x7_refuse (t : St) (a1 : Int32) (a2 : Int32) : Option (Int32 × St) :=
  nm (sI t 704 (((10 : Int32) * a1) + a2)) (fun t1 : St => some ((-1 : Int32), t1))
theorem mm_x7_refuse (t : St) (a1 : Int32) (a2 : Int32) : MR (x7_refuse t a1 a2) t (fun (a : Int32 × St) => a.2) := by
  unfold x7_refuse
  exact MR_nmS mle_sI (fun t1 ht1 => MR_some ht1)
set_option maxHeartbeats 4000000 in
set_option maxRecDepth 100000 in
theorem c_x7_refuse (l : Launch) {D : va_G} {cI cJ cZ cR : ClassId} {am gm : Nat → Nat} {st : Nat} (sz : Nat) (t : St) (a1 : Int32) (a2 : Int32) {r : Int32} {t' : St} (ho : x7_refuse t a1 a2 = some (r, t')) : Met l yX7_refuse (.code yX7_refuse cX7_refuse 3 (some .int) :: wsAll) (rmN 0 0) (va_Pc [.ref (am 1007), .int a1, .int a2] (prX D (tyX cI cJ cZ cR) (wX cI cJ cZ cR am gm t) sz st)) (qI r D (tyX cI cJ cZ cR) (wX cI cJ cZ cR am gm t') (va_A (wX cI cJ cZ cR am gm t) sz)) 0 0 (va_A (wX cI cJ cZ cR am gm t) sz) := by
  refine Met.ofW (cc := cX7_refuse) (maxL := 3) (ret := (some .int)) (by decide) rfl ?_
  intro p e s m args below meth c s₁ B hml hv
  obtain ⟨rfl, ⟨hsz, hP, hK, hD0⟩, hsx⟩ := hv
  have hx := B.exec
  have hb := B.bytes
  have hts := atoms_spec (ws := (.code yX7_refuse cX7_refuse 3 (some .int) :: wsAll)) B.pre
  have hta := fun w h => hts w (List.mem_cons_of_mem _ h)
  have hown : s.vm.findClass RX7 = some m.cls := findClass_of_methodNamed B.named
  have hlocks := B.notSynchronized
  subst hsz
  have hD := hD0.self (sz := s.heap.size)
  generalize hAe : va_A (wX cI cJ cZ cR am gm t) s.heap.size = A at hD ⊢
  have hA : ∀ q : Nat, s.heap.size ≤ q → A q := fun q h => by rw [← hAe]; exact Or.inr h
  have C0 : cxX p s m ([.ref (am 1007), .int a1, .int a2].toArray) meth c cX7_refuse RX7 3 (some .int) D (tyX cI cJ cZ cR) st A := ⟨⟨hx, hb, B.returns, hml, hown, hta, hlocks, hK, hA⟩, by rw [← hAe]; exact hsx⟩
  have hW : wl D A s (wX cI cJ cZ cR am gm t) s.heap [] := ⟨hP, hD, va_S.rf⟩
  have hl := lv_entry [.ref (am 1007), .int a1, .int a2] (n := 3) (Nat.le_of_ble_eq_true rfl)
  rw [lg_entry_eq]
  generalize (lg_sl [.ref (am 1007), .int a1, .int a2] ++ List.replicate (3 - (lg_sl [.ref (am 1007), .int a1, .int a2]).length) Slot.unset).toArray = ls at hl ⊢
  have hl : lv_has ls 3 [(0, .ref (am 1007)), (1, .int a1), (2, .int a2)] := hl
  unfold x7_refuse at ho
  refine lv_aload_n hx hb dX7_refuse_0 rfl (lv_at hl 0 rfl) ?_
  refine lv_bipush (v := (10 : Int32)) hx hb dX7_refuse_1 (by decide) ?_
  refine lv_iload_n hx hb dX7_refuse_3 rfl (lv_at hl 1 rfl) ?_
  refine lv_imul hx hb dX7_refuse_4 ?_
  refine lv_iload_n hx hb dX7_refuse_5 rfl (lv_at hl 2 rfl) ?_
  refine lv_iadd hx hb dX7_refuse_6 ?_
  refine xPUT_704 C0 kw_250 hW dX7_refuse_7 (fun H locs hW => ?_)
  obtain ⟨t1, ho, hW⟩ := nm_w (P := fun t => wl D A s (wX cI cJ cZ cR am gm t) H locs) ho hW
  refine lv_iconst (v := (-1 : Int32)) hx hb dX7_refuse_10 (by decide) ?_
  cases ho
  exact rtI C0.1 hW dX7_refuse_11
noncomputable def x7_refuseHere_J17 (t : St) (w1 : Int32) (w2 : Int32) : Option (Int32 × St) :=
  (x7_refuse t w1 w2).bind (fun q1 => some (q1.1, q1.2))
theorem mm_x7_refuseHere_J17 (t : St) (w1 : Int32) (w2 : Int32) : MR (x7_refuseHere_J17 t w1 w2) t (fun (a : Int32 × St) => a.2) := by
  unfold x7_refuseHere_J17
  exact MR_bind (mm_x7_refuse t w1 w2) (fun q1 hq1 => MR_some hq1)
noncomputable def x7_refuseHere (t : St) : Option (Int32 × St) :=
  (x7_next t).bind (fun q3 => if 0 ≤ q3.1 then (x7_refuseHere_J17 q3.2 (gI t 703) (1 : Int32)) else (x7_refuseHere_J17 q3.2 (gI t 703) (2 : Int32)))
theorem mm_x7_refuseHere (t : St) : MR (x7_refuseHere t) t (fun (a : Int32 × St) => a.2) := by
  unfold x7_refuseHere
  exact MR_bind (mm_x7_next t) (fun q3 hq3 => MR_ite (MR_wk hq3 (mm_x7_refuseHere_J17 q3.2 (gI t 703) (1 : Int32))) (MR_wk hq3 (mm_x7_refuseHere_J17 q3.2 (gI t 703) (2 : Int32))))
set_option maxHeartbeats 4000000 in
set_option maxRecDepth 100000 in
theorem c_x7_refuseHere (l : Launch) {D : va_G} {cI cJ cZ cR : ClassId} {am gm : Nat → Nat} {st : Nat} (sz : Nat) (t : St) {r : Int32} {t' : St} (ho : x7_refuseHere t = some (r, t')) : Met l yX7_refuseHere (.code yX7_refuseHere cX7_refuseHere 1 (some .int) :: wsAll) (rmN 1 22) (va_Pc [.ref (am 1007)] (prX D (tyX cI cJ cZ cR) (wX cI cJ cZ cR am gm t) sz st)) (qI r D (tyX cI cJ cZ cR) (wX cI cJ cZ cR am gm t') (va_A (wX cI cJ cZ cR am gm t) sz)) 0 0 (va_A (wX cI cJ cZ cR am gm t) sz) := by
  refine Met.ofW (cc := cX7_refuseHere) (maxL := 1) (ret := (some .int)) (by decide) rfl ?_
  intro p e s m args below meth c s₁ B hml hv
  obtain ⟨rfl, ⟨hsz, hP, hK, hD0⟩, hsx⟩ := hv
  have hx := B.exec
  have hb := B.bytes
  have hts := atoms_spec (ws := (.code yX7_refuseHere cX7_refuseHere 1 (some .int) :: wsAll)) B.pre
  have hta := fun w h => hts w (List.mem_cons_of_mem _ h)
  have hown : s.vm.findClass RX7 = some m.cls := findClass_of_methodNamed B.named
  have hlocks := B.notSynchronized
  subst hsz
  have hD := hD0.self (sz := s.heap.size)
  generalize hAe : va_A (wX cI cJ cZ cR am gm t) s.heap.size = A at hD ⊢
  have hA : ∀ q : Nat, s.heap.size ≤ q → A q := fun q h => by rw [← hAe]; exact Or.inr h
  have C0 : cxX p s m ([.ref (am 1007)].toArray) meth c cX7_refuseHere RX7 1 (some .int) D (tyX cI cJ cZ cR) st A := ⟨⟨hx, hb, B.returns, hml, hown, hta, hlocks, hK, hA⟩, by rw [← hAe]; exact hsx⟩
  have hW : wl D A s (wX cI cJ cZ cR am gm t) s.heap [] := ⟨hP, hD, va_S.rf⟩
  have hl := lv_entry [.ref (am 1007)] (n := 1) (Nat.le_of_ble_eq_true rfl)
  rw [lg_entry_eq]
  generalize (lg_sl [.ref (am 1007)] ++ List.replicate (1 - (lg_sl [.ref (am 1007)]).length) Slot.unset).toArray = ls at hl ⊢
  have hl : lv_has ls 1 [(0, .ref (am 1007))] := hl
  clear hAe hD hP hD0 hts
  have J17 : ∀ (t : St) (w1 : Int32) (w2 : Int32) (_ : x7_refuseHere_J17 t w1 w2 = some (r, t')) (H : Heap) (locs : List Loc) (ls : Array Slot), wl D A s (wX cI cJ cZ cR am gm t) H locs → lv_has ls 1 [(0, .ref (am 1007))] → W p l e (rmN 1 22) s m ([.ref (am 1007)].toArray) below meth c H locs 0 0 (MQ below (qI r D (tyX cI cJ cZ cR) (wX cI cJ cZ cR am gm t') A) ([.ref (am 1007)].toArray) s 0 0 A) (F0 m 17 ls [.int w2, .int w1, .ref (am 1007)]) := by
    intro t w1 w2 ho H locs ls hW hl
    unfold x7_refuseHere_J17 at ho
    obtain ⟨q1, hc2, ho⟩ := bd_some ho
    refine bkI C0.1 hW (runVX (As := [.int w1, .int w2]) (rest := []) C0 hW (c_x7_refuse l _ t w1 w2 (r := q1.1) (t' := q1.2) hc2) cb_X7_X7_refuse_43 7 7 rfl rfl rfl rfl rfl ⟨rfl, rfl⟩ ⟨Nat.le_of_ble_eq_true rfl, Nat.le_of_ble_eq_true rfl⟩ (Nat.le_of_ble_eq_true rfl) hl.1 dX7_refuseHere_17 ⟨Nat.le_of_ble_eq_true rfl, Nat.le_of_ble_eq_true rfl⟩) (fun H locs hW => ?_)
    cases ho
    exact rtI C0.1 hW dX7_refuseHere_20
  unfold x7_refuseHere at ho
  refine lv_aload_n hx hb dX7_refuseHere_0 rfl (lv_at hl 0 rfl) ?_
  refine lv_aload_n hx hb dX7_refuseHere_1 rfl (lv_at hl 0 rfl) ?_
  refine xGET_703 C0 kw_249 hW dX7_refuseHere_2 ?_
  refine lv_aload_n hx hb dX7_refuseHere_5 rfl (lv_at hl 0 rfl) ?_
  obtain ⟨q3, hc4, ho⟩ := bd_some ho
  refine bkI C0.1 hW (runVX (As := []) (rest := [.int (gI t 703), .ref (am 1007)]) C0 hW (c_x7_next l _ t (r := q3.1) (t' := q3.2) hc4) cb_X7_X7_next_39 7 7 rfl rfl rfl rfl rfl ⟨rfl, rfl⟩ ⟨Nat.le_of_ble_eq_true rfl, Nat.le_of_ble_eq_true rfl⟩ (Nat.le_of_ble_eq_true rfl) hl.1 dX7_refuseHere_6 ⟨Nat.le_of_ble_eq_true rfl, Nat.le_of_ble_eq_true rfl⟩) (fun H locs hW => ?_)
  refine lv_if_ge (tgt := 16) hx hb dX7_refuseHere_9 (by decide) (fun c5 => ?_) (fun c5 => ?_)
  · replace ho := ite_t c5 ho
    refine lv_iconst (v := (1 : Int32)) hx hb dX7_refuseHere_16 (by decide) ?_
    exact J17 _ _ _ ho _ _ _ hW (lv_sub hl [0] rfl)
  · replace ho := ite_f c5 ho
    refine lv_iconst (v := (2 : Int32)) hx hb dX7_refuseHere_12 (by decide) ?_
    refine lv_goto (tgt := 17) hx hb dX7_refuseHere_13 (by decide) ?_
    exact J17 _ _ _ ho _ _ _ hW (lv_sub hl [0] rfl)
noncomputable def x7_hold (t : St) (a1 : Int32) : Option (St) :=
  if (gI t 702) < (Int32.ofNat (gN t 701)) then (gd (gI t 702) (gN t 701) (nm (sA t 701 (gI t 702) a1) (fun t3 : St => nm (sI t3 702 ((gI t3 702) + (1 : Int32))) (fun t4 : St => some t4)))) else (some t)
theorem mm_x7_hold (t : St) (a1 : Int32) : MR (x7_hold t a1) t (fun (a : St) => a) := by
  unfold x7_hold
  exact MR_ite (MR_gd (MR_nmS mle_sA (fun t3 ht3 => MR_nmS mle_sI (fun t4 ht4 => MR_some (mle.trans ht3 ht4))))) (MR_some mle.rfl)
set_option maxHeartbeats 4000000 in
set_option maxRecDepth 100000 in
theorem c_x7_hold (l : Launch) {D : va_G} {cI cJ cZ cR : ClassId} {am gm : Nat → Nat} {st : Nat} (sz : Nat) (t : St) (a1 : Int32) {t' : St} (ho : x7_hold t a1 = some t') : Met l yX7_hold (.code yX7_hold cX7_hold 2 none :: wsAll) (rmN 0 0) (va_Pc [.ref (am 1007), .int a1] (prX D (tyX cI cJ cZ cR) (wX cI cJ cZ cR am gm t) sz st)) (qV D (tyX cI cJ cZ cR) (wX cI cJ cZ cR am gm t') (va_A (wX cI cJ cZ cR am gm t) sz)) 0 0 (va_A (wX cI cJ cZ cR am gm t) sz) := by
  refine Met.ofW (cc := cX7_hold) (maxL := 2) (ret := none) (by decide) rfl ?_
  intro p e s m args below meth c s₁ B hml hv
  obtain ⟨rfl, ⟨hsz, hP, hK, hD0⟩, hsx⟩ := hv
  have hx := B.exec
  have hb := B.bytes
  have hts := atoms_spec (ws := (.code yX7_hold cX7_hold 2 none :: wsAll)) B.pre
  have hta := fun w h => hts w (List.mem_cons_of_mem _ h)
  have hown : s.vm.findClass RX7 = some m.cls := findClass_of_methodNamed B.named
  have hlocks := B.notSynchronized
  subst hsz
  have hD := hD0.self (sz := s.heap.size)
  generalize hAe : va_A (wX cI cJ cZ cR am gm t) s.heap.size = A at hD ⊢
  have hA : ∀ q : Nat, s.heap.size ≤ q → A q := fun q h => by rw [← hAe]; exact Or.inr h
  have C0 : cxX p s m ([.ref (am 1007), .int a1].toArray) meth c cX7_hold RX7 2 none D (tyX cI cJ cZ cR) st A := ⟨⟨hx, hb, B.returns, hml, hown, hta, hlocks, hK, hA⟩, by rw [← hAe]; exact hsx⟩
  have hW : wl D A s (wX cI cJ cZ cR am gm t) s.heap [] := ⟨hP, hD, va_S.rf⟩
  have hl := lv_entry [.ref (am 1007), .int a1] (n := 2) (Nat.le_of_ble_eq_true rfl)
  rw [lg_entry_eq]
  generalize (lg_sl [.ref (am 1007), .int a1] ++ List.replicate (2 - (lg_sl [.ref (am 1007), .int a1]).length) Slot.unset).toArray = ls at hl ⊢
  have hl : lv_has ls 2 [(0, .ref (am 1007)), (1, .int a1)] := hl
  unfold x7_hold at ho
  refine lv_aload_n hx hb dX7_hold_0 rfl (lv_at hl 0 rfl) ?_
  refine xGET_702 C0 kw_248 hW dX7_hold_1 ?_
  refine lv_aload_n hx hb dX7_hold_4 rfl (lv_at hl 0 rfl) ?_
  refine xGET_701 C0 kw_247 hW dX7_hold_5 ?_
  refine xLEN_701 C0 hW dX7_hold_8 ?_
  refine lv_icmp_lt (tgt := 13) hx hb dX7_hold_9 (by decide) (fun c1 => ?_) (fun c1 => ?_)
  · replace ho := ite_t c1 ho
    refine lv_aload_n hx hb dX7_hold_13 rfl (lv_at hl 0 rfl) ?_
    refine xGET_701 C0 kw_247 hW dX7_hold_14 ?_
    refine lv_aload_n hx hb dX7_hold_17 rfl (lv_at hl 0 rfl) ?_
    refine xGET_702 C0 kw_248 hW dX7_hold_18 ?_
    refine lv_iload_n hx hb dX7_hold_21 rfl (lv_at hl 1 rfl) ?_
    obtain ⟨g2, ho⟩ := gd_some ho
    refine xST_701 C0 hW g2 dX7_hold_22 (fun H locs hW => ?_)
    obtain ⟨t3, ho, hW⟩ := nm_w (P := fun t => wl D A s (wX cI cJ cZ cR am gm t) H locs) ho hW
    refine lv_aload_n hx hb dX7_hold_23 rfl (lv_at hl 0 rfl) ?_
    refine lv_dup hx hb dX7_hold_24 rfl ?_
    refine xGET_702 C0 kw_248 hW dX7_hold_25 ?_
    refine lv_iconst (v := (1 : Int32)) hx hb dX7_hold_28 (by decide) ?_
    refine lv_iadd hx hb dX7_hold_29 ?_
    refine xPUT_702 C0 kw_248 hW dX7_hold_30 (fun H locs hW => ?_)
    obtain ⟨t4, ho, hW⟩ := nm_w (P := fun t => wl D A s (wX cI cJ cZ cR am gm t) H locs) ho hW
    cases ho
    exact rtV C0.1 hW dX7_hold_33
  · replace ho := ite_f c1 ho
    cases ho
    exact rtV C0.1 hW dX7_hold_12
noncomputable def x7_closes (t : St) (a1 : Int32) : Option (Int32 × St) :=
  (x7_next t).bind (fun q1 => if q1.1 = a1 then (nm (sI q1.2 703 ((gI q1.2 703) + (1 : Int32))) (fun t6 : St => some ((1 : Int32), t6))) else ((x7_refuseHere q1.2).bind (fun q4 => some ((0 : Int32), q4.2))))
theorem mm_x7_closes (t : St) (a1 : Int32) : MR (x7_closes t a1) t (fun (a : Int32 × St) => a.2) := by
  unfold x7_closes
  exact MR_bind (mm_x7_next t) (fun q1 hq1 => MR_ite (MR_nmS mle_sI (fun t6 ht6 => MR_some (mle.trans hq1 ht6))) (MR_bind (mm_x7_refuseHere q1.2) (fun q4 hq4 => MR_some (mle.trans hq1 hq4))))
set_option maxHeartbeats 4000000 in
set_option maxRecDepth 100000 in
theorem c_x7_closes (l : Launch) {D : va_G} {cI cJ cZ cR : ClassId} {am gm : Nat → Nat} {st : Nat} (sz : Nat) (t : St) (a1 : Int32) {r : Int32} {t' : St} (ho : x7_closes t a1 = some (r, t')) : Met l yX7_closes (.code yX7_closes cX7_closes 2 (some .boolean) :: wsAll) (rmN 2 42) (va_Pc [.ref (am 1007), .int a1] (prX D (tyX cI cJ cZ cR) (wX cI cJ cZ cR am gm t) sz st)) (qZ r D (tyX cI cJ cZ cR) (wX cI cJ cZ cR am gm t') (va_A (wX cI cJ cZ cR am gm t) sz)) 0 0 (va_A (wX cI cJ cZ cR am gm t) sz) := by
  refine Met.ofW (cc := cX7_closes) (maxL := 2) (ret := (some .boolean)) (by decide) rfl ?_
  intro p e s m args below meth c s₁ B hml hv
  obtain ⟨rfl, ⟨hsz, hP, hK, hD0⟩, hsx⟩ := hv
  have hx := B.exec
  have hb := B.bytes
  have hts := atoms_spec (ws := (.code yX7_closes cX7_closes 2 (some .boolean) :: wsAll)) B.pre
  have hta := fun w h => hts w (List.mem_cons_of_mem _ h)
  have hown : s.vm.findClass RX7 = some m.cls := findClass_of_methodNamed B.named
  have hlocks := B.notSynchronized
  subst hsz
  have hD := hD0.self (sz := s.heap.size)
  generalize hAe : va_A (wX cI cJ cZ cR am gm t) s.heap.size = A at hD ⊢
  have hA : ∀ q : Nat, s.heap.size ≤ q → A q := fun q h => by rw [← hAe]; exact Or.inr h
  have C0 : cxX p s m ([.ref (am 1007), .int a1].toArray) meth c cX7_closes RX7 2 (some .boolean) D (tyX cI cJ cZ cR) st A := ⟨⟨hx, hb, B.returns, hml, hown, hta, hlocks, hK, hA⟩, by rw [← hAe]; exact hsx⟩
  have hW : wl D A s (wX cI cJ cZ cR am gm t) s.heap [] := ⟨hP, hD, va_S.rf⟩
  have hl := lv_entry [.ref (am 1007), .int a1] (n := 2) (Nat.le_of_ble_eq_true rfl)
  rw [lg_entry_eq]
  generalize (lg_sl [.ref (am 1007), .int a1] ++ List.replicate (2 - (lg_sl [.ref (am 1007), .int a1]).length) Slot.unset).toArray = ls at hl ⊢
  have hl : lv_has ls 2 [(0, .ref (am 1007)), (1, .int a1)] := hl
  unfold x7_closes at ho
  refine lv_aload_n hx hb dX7_closes_0 rfl (lv_at hl 0 rfl) ?_
  obtain ⟨q1, hc2, ho⟩ := bd_some ho
  refine bkI C0.1 hW (runVX (As := []) (rest := []) C0 hW (c_x7_next l _ t (r := q1.1) (t' := q1.2) hc2) cb_X7_X7_next_39 7 7 rfl rfl rfl rfl rfl ⟨rfl, rfl⟩ ⟨Nat.le_of_ble_eq_true rfl, Nat.le_of_ble_eq_true rfl⟩ (Nat.le_of_ble_eq_true rfl) hl.1 dX7_closes_1 ⟨Nat.le_of_ble_eq_true rfl, Nat.le_of_ble_eq_true rfl⟩) (fun H locs hW => ?_)
  refine lv_iload_n hx hb dX7_closes_4 rfl (lv_at hl 1 rfl) ?_
  refine lv_icmp_ne (tgt := 20) hx hb dX7_closes_5 (by decide) (fun c3 => ?_) (fun c3 => ?_)
  · replace ho := ite_f c3 ho
    refine lv_aload_n hx hb dX7_closes_20 rfl (lv_at hl 0 rfl) ?_
    obtain ⟨q4, hc5, ho⟩ := bd_some ho
    refine bkI C0.1 hW (runVX (As := []) (rest := []) C0 hW (c_x7_refuseHere l _ q1.2 (r := q4.1) (t' := q4.2) hc5) cb_X7_X7_refuseHere_80 7 7 rfl rfl rfl rfl rfl ⟨rfl, rfl⟩ ⟨Nat.le_of_ble_eq_true rfl, Nat.le_of_ble_eq_true rfl⟩ (Nat.le_of_ble_eq_true rfl) hl.1 dX7_closes_21 ⟨Nat.le_of_ble_eq_true rfl, Nat.le_of_ble_eq_true rfl⟩) (fun H locs hW => ?_)
    refine lv_pop hx hb dX7_closes_24 rfl ?_
    refine lv_iconst (v := (0 : Int32)) hx hb dX7_closes_25 (by decide) ?_
    cases ho
    exact rtZ C0.1 hW (Or.inl (rfl : (0 : Int32) = 0)) dX7_closes_26
  · replace ho := ite_t c3 ho
    refine lv_aload_n hx hb dX7_closes_8 rfl (lv_at hl 0 rfl) ?_
    refine lv_dup hx hb dX7_closes_9 rfl ?_
    refine xGET_703 C0 kw_249 hW dX7_closes_10 ?_
    refine lv_iconst (v := (1 : Int32)) hx hb dX7_closes_13 (by decide) ?_
    refine lv_iadd hx hb dX7_closes_14 ?_
    refine xPUT_703 C0 kw_249 hW dX7_closes_15 (fun H locs hW => ?_)
    obtain ⟨t6, ho, hW⟩ := nm_w (P := fun t => wl D A s (wX cI cJ cZ cR am gm t) H locs) ho hW
    refine lv_iconst (v := (1 : Int32)) hx hb dX7_closes_18 (by decide) ?_
    cases ho
    exact rtZ C0.1 hW (Or.inr (rfl : (1 : Int32) = 1)) dX7_closes_19
noncomputable def x6_addKnot (t : St) (a1 : Int32) (a2 : Int32) (a3 : Int32) (a4 : Int32) : Option (Int32 × St) :=
  if (gI t 609) < (330 : Int32) then (gd (gI t 609) (gN t 603) (nm (sA t 603 (gI t 609) a1) (fun t3 : St => gd (gI t3 609) (gN t3 604) (nm (sA t3 604 (gI t3 609) a2) (fun t5 : St => gd (gI t5 609) (gN t5 605) (nm (sA t5 605 (gI t5 609) a3) (fun t7 : St => gd (gI t7 609) (gN t7 606) (nm (sA t7 606 (gI t7 609) (gI t7 610)) (fun t9 : St => gd (gI t9 609) (gN t9 607) (nm (sA t9 607 (gI t9 609) a4) (fun t11 : St => nm (sI t11 609 ((gI t11 609) + (1 : Int32))) (fun t12 : St => some (((gI t12 609) - (1 : Int32)), t12))))))))))))) else (some ((329 : Int32), t))
theorem mm_x6_addKnot (t : St) (a1 : Int32) (a2 : Int32) (a3 : Int32) (a4 : Int32) : MR (x6_addKnot t a1 a2 a3 a4) t (fun (a : Int32 × St) => a.2) := by
  unfold x6_addKnot
  exact MR_ite (MR_gd (MR_nmS mle_sA (fun t3 ht3 => MR_gd (MR_nmS mle_sA (fun t5 ht5 => MR_gd (MR_nmS mle_sA (fun t7 ht7 => MR_gd (MR_nmS mle_sA (fun t9 ht9 => MR_gd (MR_nmS mle_sA (fun t11 ht11 => MR_nmS mle_sI (fun t12 ht12 => MR_some (mle.trans (mle.trans (mle.trans (mle.trans (mle.trans ht3 ht5) ht7) ht9) ht11) ht12))))))))))))) (MR_some mle.rfl)
set_option maxHeartbeats 4000000 in
set_option maxRecDepth 100000 in
theorem c_x6_addKnot (l : Launch) {D : va_G} {cI cJ cZ cR : ClassId} {am gm : Nat → Nat} {st : Nat} (sz : Nat) (t : St) (a1 : Int32) (a2 : Int32) (a3 : Int32) (a4 : Int32) {r : Int32} {t' : St} (ho : x6_addKnot t a1 a2 a3 a4 = some (r, t')) : Met l yX6_addKnot (.code yX6_addKnot cX6_addKnot 5 (some .int) :: wsAll) (rmN 0 0) (va_Pc [.ref (am 1006), .int a1, .int a2, .int a3, .int a4] (prX D (tyX cI cJ cZ cR) (wX cI cJ cZ cR am gm t) sz st)) (qI r D (tyX cI cJ cZ cR) (wX cI cJ cZ cR am gm t') (va_A (wX cI cJ cZ cR am gm t) sz)) 0 0 (va_A (wX cI cJ cZ cR am gm t) sz) := by
  refine Met.ofW (cc := cX6_addKnot) (maxL := 5) (ret := (some .int)) (by decide) rfl ?_
  intro p e s m args below meth c s₁ B hml hv
  obtain ⟨rfl, ⟨hsz, hP, hK, hD0⟩, hsx⟩ := hv
  have hx := B.exec
  have hb := B.bytes
  have hts := atoms_spec (ws := (.code yX6_addKnot cX6_addKnot 5 (some .int) :: wsAll)) B.pre
  have hta := fun w h => hts w (List.mem_cons_of_mem _ h)
  have hown : s.vm.findClass RX6 = some m.cls := findClass_of_methodNamed B.named
  have hlocks := B.notSynchronized
  subst hsz
  have hD := hD0.self (sz := s.heap.size)
  generalize hAe : va_A (wX cI cJ cZ cR am gm t) s.heap.size = A at hD ⊢
  have hA : ∀ q : Nat, s.heap.size ≤ q → A q := fun q h => by rw [← hAe]; exact Or.inr h
  have C0 : cxX p s m ([.ref (am 1006), .int a1, .int a2, .int a3, .int a4].toArray) meth c cX6_addKnot RX6 5 (some .int) D (tyX cI cJ cZ cR) st A := ⟨⟨hx, hb, B.returns, hml, hown, hta, hlocks, hK, hA⟩, by rw [← hAe]; exact hsx⟩
  have hW : wl D A s (wX cI cJ cZ cR am gm t) s.heap [] := ⟨hP, hD, va_S.rf⟩
  have hl := lv_entry [.ref (am 1006), .int a1, .int a2, .int a3, .int a4] (n := 5) (Nat.le_of_ble_eq_true rfl)
  rw [lg_entry_eq]
  generalize (lg_sl [.ref (am 1006), .int a1, .int a2, .int a3, .int a4] ++ List.replicate (5 - (lg_sl [.ref (am 1006), .int a1, .int a2, .int a3, .int a4]).length) Slot.unset).toArray = ls at hl ⊢
  have hl : lv_has ls 5 [(0, .ref (am 1006)), (1, .int a1), (2, .int a2), (3, .int a3), (4, .int a4)] := hl
  unfold x6_addKnot at ho
  refine lv_aload_n hx hb dX6_addKnot_0 rfl (lv_at hl 0 rfl) ?_
  refine xGET_609 C0 kw_203 hW dX6_addKnot_1 ?_
  refine lv_sipush (v := (330 : Int32)) hx hb dX6_addKnot_4 (by decide) ?_
  refine lv_icmp_lt (tgt := 14) hx hb dX6_addKnot_7 (by decide) (fun c1 => ?_) (fun c1 => ?_)
  · replace ho := ite_t c1 ho
    refine lv_aload_n hx hb dX6_addKnot_14 rfl (lv_at hl 0 rfl) ?_
    refine xGET_603 C0 kw_186 hW dX6_addKnot_15 ?_
    refine lv_aload_n hx hb dX6_addKnot_18 rfl (lv_at hl 0 rfl) ?_
    refine xGET_609 C0 kw_203 hW dX6_addKnot_19 ?_
    refine lv_iload_n hx hb dX6_addKnot_22 rfl (lv_at hl 1 rfl) ?_
    obtain ⟨g2, ho⟩ := gd_some ho
    refine xST_603 C0 hW g2 dX6_addKnot_23 (fun H locs hW => ?_)
    obtain ⟨t3, ho, hW⟩ := nm_w (P := fun t => wl D A s (wX cI cJ cZ cR am gm t) H locs) ho hW
    refine lv_aload_n hx hb dX6_addKnot_24 rfl (lv_at hl 0 rfl) ?_
    refine xGET_604 C0 kw_190 hW dX6_addKnot_25 ?_
    refine lv_aload_n hx hb dX6_addKnot_28 rfl (lv_at hl 0 rfl) ?_
    refine xGET_609 C0 kw_203 hW dX6_addKnot_29 ?_
    refine lv_iload_n hx hb dX6_addKnot_32 rfl (lv_at hl 2 rfl) ?_
    obtain ⟨g4, ho⟩ := gd_some ho
    refine xST_604 C0 hW g4 dX6_addKnot_33 (fun H locs hW => ?_)
    obtain ⟨t5, ho, hW⟩ := nm_w (P := fun t => wl D A s (wX cI cJ cZ cR am gm t) H locs) ho hW
    refine lv_aload_n hx hb dX6_addKnot_34 rfl (lv_at hl 0 rfl) ?_
    refine xGET_605 C0 kw_194 hW dX6_addKnot_35 ?_
    refine lv_aload_n hx hb dX6_addKnot_38 rfl (lv_at hl 0 rfl) ?_
    refine xGET_609 C0 kw_203 hW dX6_addKnot_39 ?_
    refine lv_iload_n hx hb dX6_addKnot_42 rfl (lv_at hl 3 rfl) ?_
    obtain ⟨g6, ho⟩ := gd_some ho
    refine xST_605 C0 hW g6 dX6_addKnot_43 (fun H locs hW => ?_)
    obtain ⟨t7, ho, hW⟩ := nm_w (P := fun t => wl D A s (wX cI cJ cZ cR am gm t) H locs) ho hW
    refine lv_aload_n hx hb dX6_addKnot_44 rfl (lv_at hl 0 rfl) ?_
    refine xGET_606 C0 kw_198 hW dX6_addKnot_45 ?_
    refine lv_aload_n hx hb dX6_addKnot_48 rfl (lv_at hl 0 rfl) ?_
    refine xGET_609 C0 kw_203 hW dX6_addKnot_49 ?_
    refine lv_aload_n hx hb dX6_addKnot_52 rfl (lv_at hl 0 rfl) ?_
    refine xGET_610 C0 kw_206 hW dX6_addKnot_53 ?_
    obtain ⟨g8, ho⟩ := gd_some ho
    refine xST_606 C0 hW g8 dX6_addKnot_56 (fun H locs hW => ?_)
    obtain ⟨t9, ho, hW⟩ := nm_w (P := fun t => wl D A s (wX cI cJ cZ cR am gm t) H locs) ho hW
    refine lv_aload_n hx hb dX6_addKnot_57 rfl (lv_at hl 0 rfl) ?_
    refine xGET_607 C0 kw_199 hW dX6_addKnot_58 ?_
    refine lv_aload_n hx hb dX6_addKnot_61 rfl (lv_at hl 0 rfl) ?_
    refine xGET_609 C0 kw_203 hW dX6_addKnot_62 ?_
    refine lv_iload hx hb dX6_addKnot_65 (lv_at hl 4 rfl) ?_
    obtain ⟨g10, ho⟩ := gd_some ho
    refine xST_607 C0 hW g10 dX6_addKnot_67 (fun H locs hW => ?_)
    obtain ⟨t11, ho, hW⟩ := nm_w (P := fun t => wl D A s (wX cI cJ cZ cR am gm t) H locs) ho hW
    refine lv_aload_n hx hb dX6_addKnot_68 rfl (lv_at hl 0 rfl) ?_
    refine lv_dup hx hb dX6_addKnot_69 rfl ?_
    refine xGET_609 C0 kw_203 hW dX6_addKnot_70 ?_
    refine lv_iconst (v := (1 : Int32)) hx hb dX6_addKnot_73 (by decide) ?_
    refine lv_iadd hx hb dX6_addKnot_74 ?_
    refine xPUT_609 C0 kw_203 hW dX6_addKnot_75 (fun H locs hW => ?_)
    obtain ⟨t12, ho, hW⟩ := nm_w (P := fun t => wl D A s (wX cI cJ cZ cR am gm t) H locs) ho hW
    refine lv_aload_n hx hb dX6_addKnot_78 rfl (lv_at hl 0 rfl) ?_
    refine xGET_609 C0 kw_203 hW dX6_addKnot_79 ?_
    refine lv_iconst (v := (1 : Int32)) hx hb dX6_addKnot_82 (by decide) ?_
    refine lv_isub hx hb dX6_addKnot_83 ?_
    cases ho
    exact rtI C0.1 hW dX6_addKnot_84
  · replace ho := ite_f c1 ho
    refine lv_sipush (v := (329 : Int32)) hx hb dX6_addKnot_10 (by decide) ?_
    cases ho
    exact rtI C0.1 hW dX6_addKnot_13
noncomputable def x6_addRow_701_B49 (v1 : Int32) (v2 : Int32) (v4 : Int32) (v5 : Int32) (v6 : Int32) (v7 : Int32) (t : St) : Option ((Int32 × Int32 × St) ⊕ (Int32 × St)) :=
  if v5 ≤ v7 then (some (.inr (v6, t))) else (gd (v4 + v7) (gN t 701) (nm (gA t 701 ((v4 + v7)).toNatClampNeg) (fun x3 : Int32 => gd ((gI t 610) + v7) (gN t 608) (nm (sA t 608 ((gI t 610) + v7) x3) (fun t5 : St => gd x3 (gN t5 607) (nm (v6 ||| (gA t5 607 (x3).toNatClampNeg)) (fun x7 : Int32 => nm (v7 + (1 : Int32)) (fun x8 : Int32 => some (.inl (x7, x8, t5))))))))))
theorem mm_x6_addRow_701_B49 (v1 : Int32) (v2 : Int32) (v4 : Int32) (v5 : Int32) (v6 : Int32) (v7 : Int32) (t : St) : MR (x6_addRow_701_B49 v1 v2 v4 v5 v6 v7 t) t (Sum.elim (fun (x : Int32 × Int32 × St) => x.2.2) (fun (y : Int32 × St) => y.2)) := by
  unfold x6_addRow_701_B49
  exact MR_ite (MR_some mle.rfl) (MR_gd (MR_nm (fun x3 _ => MR_gd (MR_nmS mle_sA (fun t5 ht5 => MR_gd (MR_nm (fun x7 _ => MR_nm (fun x8 _ => MR_some ht5))))))))
theorem mm_x6_addRow_701_L49 (v1 : Int32) (v2 : Int32) (v4 : Int32) (v5 : Int32) (v6 : Int32) (v7 : Int32) (t : St) : MR (lp (fun x => x6_addRow_701_B49 v1 v2 v4 v5 x.1 x.2.1 x.2.2) (v6, v7, t)) t (fun (y : Int32 × St) => y.2) := MR_lp (p := (fun (x : Int32 × Int32 × St) => x.2.2)) (q := (fun (y : Int32 × St) => y.2)) (fun x => mm_x6_addRow_701_B49 v1 v2 v4 v5 x.1 x.2.1 x.2.2) (v6, v7, t)
noncomputable def x6_addRow_701_J43 (t : St) (v1 : Int32) (v2 : Int32) (v4 : Int32) (v5 : Int32) : Option (Int32 × St) :=
  (lp (fun x => x6_addRow_701_B49 v1 v2 v4 v5 x.1 x.2.1 x.2.2) ((0 : Int32), (0 : Int32), t)).bind (fun y9 => (x6_addKnot y9.2 v1 v5 v2 y9.1).bind (fun q12 => nm (sI q12.2 610 ((gI q12.2 610) + v5)) (fun t14 : St => some (q12.1, t14))))
theorem mm_x6_addRow_701_J43 (t : St) (v1 : Int32) (v2 : Int32) (v4 : Int32) (v5 : Int32) : MR (x6_addRow_701_J43 t v1 v2 v4 v5) t (fun (a : Int32 × St) => a.2) := by
  unfold x6_addRow_701_J43
  exact MR_bind (mm_x6_addRow_701_L49 v1 v2 v4 v5 (0 : Int32) (0 : Int32) t) (fun y9 hm10 => MR_bind (mm_x6_addKnot y9.2 v1 v5 v2 y9.1) (fun q12 hq12 => MR_nmS mle_sI (fun t14 ht14 => MR_some (mle.trans (mle.trans hm10 hq12) ht14))))
noncomputable def x6_addRow_701 (t0 : St) (a1 : Int32) (a2 : Int32) (a4 : Int32) (a5 : Int32) : Option (Int32 × St) :=
  if ((gI t0 610) + a5) ≤ (Int32.ofNat (gN t0 608)) then (x6_addRow_701_J43 t0 a1 a2 a4 a5) else (cpy t0 608 (if ((2 : Int32) * (Int32.ofNat (gN t0 608))) < ((gI t0 610) + a5) then ((gI t0 610) + a5) else ((2 : Int32) * (Int32.ofNat (gN t0 608)))) (fun t16 : St => x6_addRow_701_J43 t16 a1 a2 a4 a5))
theorem mm_x6_addRow_701 (t0 : St) (a1 : Int32) (a2 : Int32) (a4 : Int32) (a5 : Int32) : MR (x6_addRow_701 t0 a1 a2 a4 a5) t0 (fun (a : Int32 × St) => a.2) := by
  unfold x6_addRow_701
  exact MR_ite (MR_wk mle.rfl (mm_x6_addRow_701_J43 t0 a1 a2 a4 a5)) (MR_cpy (fun t16 ht16 => MR_wk ht16 (mm_x6_addRow_701_J43 t16 a1 a2 a4 a5)))
set_option maxHeartbeats 4000000 in
set_option maxRecDepth 100000 in
theorem x6_addRow_701_L49 {p : Program} {l : Launch} {e : Env} {s : State} {m : MethodId} {args : Array Value} {below : List Frame} {meth : Method} {c : Code} {Q : State → Prop} {D : va_G} {cI cJ cZ cR : ClassId} {am gm : Nat → Nat} {st : Nat} {A : Nat → Prop} (C0 : cxX p s m args meth c cX6_addRow RX6 9 (some .int) D (tyX cI cJ cZ cR) st A) {t0 t' : St} {cells slots : Nat} (hR : cells ≤ mC t0 t' ∧ slots ≤ mS t0 t') {v1 : Int32} {v2 : Int32} {v4 : Int32} {v5 : Int32} {y : Int32 × St} (hK0 : ∀ (H : Heap) (locs : List Loc) (ls : Array Slot), wl D A s (wX cI cJ cZ cR am gm y.2) H locs → lv_has ls 9 [(0, .ref (am 1006)), (1, .int v1), (2, .int v2), (5, .int v5), (6, .int y.1)] → W p l e (rmA 2 82 t0 t') s m args below meth c H locs cells slots Q (F0 m 97 ls [])) :
    ∀ (n : Nat) (v6 : Int32) (v7 : Int32) (t : St), lpn (fun x => x6_addRow_701_B49 v1 v2 v4 v5 x.1 x.2.1 x.2.2) n (v6, v7, t) = some y → ∀ (H : Heap) (locs : List Loc) (ls : Array Slot), wl D A s (wX cI cJ cZ cR am gm t) H locs → lv_has ls 9 [(0, .ref (am 1006)), (1, .int v1), (2, .int v2), (3, .ref (am 701)), (4, .int v4), (5, .int v5), (6, .int v6), (7, .int v7)] → W p l e (rmA 2 82 t0 t') s m args below meth c H locs cells slots Q (F0 m 49 ls []) := by
  have hx := C0.1.1
  have hb := C0.1.2.1
  have hta := C0.1.2.2.2.2.2.1
  have hown := C0.1.2.2.2.2.1
  intro n
  induction n with
  | zero => intro _ _ _ h; cases h
  | succ n ih =>
    intro v6 v7 t hrun H locs ls hW hl
    obtain ⟨o, ho, hrun⟩ := bd_some hrun
    unfold x6_addRow_701_B49 at ho
    refine lv_iload hx hb dX6_addRow_49 (lv_at hl 7 rfl) ?_
    refine lv_iload hx hb dX6_addRow_51 (lv_at hl 5 rfl) ?_
    refine lv_icmp_ge (tgt := 97) hx hb dX6_addRow_53 (by decide) (fun c1 => ?_) (fun c1 => ?_)
    · replace ho := ite_t c1 ho
      cases ho
      cases hrun
      exact hK0 _ _ _ hW (lv_sub hl [0, 1, 2, 5, 6] rfl)
    · replace ho := ite_f c1 ho
      refine lv_aload_n hx hb dX6_addRow_56 rfl (lv_at hl 3 rfl) ?_
      refine lv_iload hx hb dX6_addRow_57 (lv_at hl 4 rfl) ?_
      refine lv_iload hx hb dX6_addRow_59 (lv_at hl 7 rfl) ?_
      refine lv_iadd hx hb dX6_addRow_61 ?_
      obtain ⟨g2, ho⟩ := gd_some ho
      refine xLD_701 C0 hW g2 dX6_addRow_62 ?_
      refine lv_nmi ho (fun x3 ho => ?_)
      refine lv_istore (lv' := [(8, .int x3), (0, .ref (am 1006)), (1, .int v1), (2, .int v2), (3, .ref (am 701)), (4, .int v4), (5, .int v5), (6, .int v6), (7, .int v7)]) hx hb dX6_addRow_63 hl (by decide) rfl (fun ls hl => ?_)
      refine lv_aload_n hx hb dX6_addRow_65 rfl (lv_at hl 1 rfl) ?_
      refine xGET_608 C0 kw_202 hW dX6_addRow_66 ?_
      refine lv_aload_n hx hb dX6_addRow_69 rfl (lv_at hl 1 rfl) ?_
      refine xGET_610 C0 kw_206 hW dX6_addRow_70 ?_
      refine lv_iload hx hb dX6_addRow_73 (lv_at hl 8 rfl) ?_
      refine lv_iadd hx hb dX6_addRow_75 ?_
      refine lv_iload hx hb dX6_addRow_76 (lv_at hl 0 rfl) ?_
      obtain ⟨g4, ho⟩ := gd_some ho
      refine xST_608 C0 hW g4 dX6_addRow_78 (fun H locs hW => ?_)
      obtain ⟨t5, ht5, ho, hW⟩ := nm_wm (P := fun t => wl D A s (wX cI cJ cZ cR am gm t) H locs) mle_sA ho hW
      refine lv_iload hx hb dX6_addRow_79 (lv_at hl 7 rfl) ?_
      refine lv_aload_n hx hb dX6_addRow_81 rfl (lv_at hl 1 rfl) ?_
      refine xGET_607 C0 kw_199 hW dX6_addRow_82 ?_
      refine lv_iload hx hb dX6_addRow_85 (lv_at hl 0 rfl) ?_
      obtain ⟨g6, ho⟩ := gd_some ho
      refine xLD_607 C0 hW g6 dX6_addRow_87 ?_
      refine lv_ior hx hb dX6_addRow_88 ?_
      refine lv_nmi ho (fun x7 ho => ?_)
      refine lv_istore (lv' := [(6, .int x7), (8, .int x3), (0, .ref (am 1006)), (1, .int v1), (2, .int v2), (3, .ref (am 701)), (4, .int v4), (5, .int v5), (7, .int v7)]) hx hb dX6_addRow_89 hl (by decide) rfl (fun ls hl => ?_)
      obtain ⟨x8, ex8, ho⟩ := nm_x ho
      refine lv_iinc (v := x8) (lv' := [(7, .int x8), (6, .int x7), (8, .int x3), (0, .ref (am 1006)), (1, .int v1), (2, .int v2), (3, .ref (am 701)), (4, .int v4), (5, .int v5)]) hx hb dX6_addRow_91 hl (k := 8) rfl (by rw [ex8]; rfl) (by decide) rfl (fun ls hl => ?_)
      clear ex8
      refine lv_goto (tgt := 49) hx hb dX6_addRow_94 (by decide) ?_
      cases ho
      exact ih _ _ _ hrun _ _ _ hW (lv_sub hl [3, 4, 5, 6, 7, 8, 1, 0] rfl)
set_option maxHeartbeats 4000000 in
set_option maxRecDepth 100000 in
theorem c_x6_addRow_701 (l : Launch) {D : va_G} {cI cJ cZ cR : ClassId} {am gm : Nat → Nat} {st : Nat} (sz : Nat) (t0 : St) (a1 : Int32) (a2 : Int32) (a4 : Int32) (a5 : Int32) {r : Int32} {t' : St} (ho : x6_addRow_701 t0 a1 a2 a4 a5 = some (r, t')) : Met l yX6_addRow (.code yX6_addRow cX6_addRow 9 (some .int) :: wsAll) (rmA 2 82 t0 t') (va_Pc [.ref (am 1006), .int a1, .int a2, .ref (am 701), .int a4, .int a5] (prX D (tyX cI cJ cZ cR) (wX cI cJ cZ cR am gm t0) sz st)) (qIa r D (tyX cI cJ cZ cR) (fun gm => wX cI cJ cZ cR am gm t') (va_A (wX cI cJ cZ cR am gm t0) sz)) (mC t0 t') (mS t0 t') (va_A (wX cI cJ cZ cR am gm t0) sz) := by
  refine Met.ofW (cc := cX6_addRow) (maxL := 9) (ret := (some .int)) (by decide) rfl ?_
  intro p e s m args below meth c s₁ B hml hv
  obtain ⟨rfl, ⟨hsz, hP, hK, hD0⟩, hsx⟩ := hv
  have hx := B.exec
  have hb := B.bytes
  have hts := atoms_spec (ws := (.code yX6_addRow cX6_addRow 9 (some .int) :: wsAll)) B.pre
  have hta := fun w h => hts w (List.mem_cons_of_mem _ h)
  have hown : s.vm.findClass RX6 = some m.cls := findClass_of_methodNamed B.named
  have hlocks := B.notSynchronized
  subst hsz
  have hD := hD0.self (sz := s.heap.size)
  generalize hAe : va_A (wX cI cJ cZ cR am gm t0) s.heap.size = A at hD ⊢
  have hA : ∀ q : Nat, s.heap.size ≤ q → A q := fun q h => by rw [← hAe]; exact Or.inr h
  have C0 : cxX p s m ([.ref (am 1006), .int a1, .int a2, .ref (am 701), .int a4, .int a5].toArray) meth c cX6_addRow RX6 9 (some .int) D (tyX cI cJ cZ cR) st A := ⟨⟨hx, hb, B.returns, hml, hown, hta, hlocks, hK, hA⟩, by rw [← hAe]; exact hsx⟩
  have hW : wl D A s (wX cI cJ cZ cR am gm t0) s.heap [] := ⟨hP, hD, va_S.rf⟩
  have hl := lv_entry [.ref (am 1006), .int a1, .int a2, .ref (am 701), .int a4, .int a5] (n := 9) (Nat.le_of_ble_eq_true rfl)
  rw [lg_entry_eq]
  generalize (lg_sl [.ref (am 1006), .int a1, .int a2, .ref (am 701), .int a4, .int a5] ++ List.replicate (9 - (lg_sl [.ref (am 1006), .int a1, .int a2, .ref (am 701), .int a4, .int a5]).length) Slot.unset).toArray = ls at hl ⊢
  have hl : lv_has ls 9 [(0, .ref (am 1006)), (1, .int a1), (2, .int a2), (3, .ref (am 701)), (4, .int a4), (5, .int a5)] := hl
  clear hAe hD hP hD0 hts
  have J43 : ∀ (gm : Nat → Nat) (t : St) (v1 : Int32) (v2 : Int32) (v4 : Int32) (v5 : Int32) (_ : x6_addRow_701_J43 t v1 v2 v4 v5 = some (r, t')) (_ : mle t0 t) (H : Heap) (locs : List Loc) (ls : Array Slot), wl D A s (wX cI cJ cZ cR am gm t) H locs → lv_has ls 9 [(0, .ref (am 1006)), (1, .int v1), (2, .int v2), (3, .ref (am 701)), (4, .int v4), (5, .int v5)] → W p l e (rmA 2 82 t0 t') s m ([.ref (am 1006), .int a1, .int a2, .ref (am 701), .int a4, .int a5].toArray) below meth c H locs (mC t0 t) (mS t0 t) (MQ below (qIa r D (tyX cI cJ cZ cR) (fun gm => wX cI cJ cZ cR am gm t') A) ([.ref (am 1006), .int a1, .int a2, .ref (am 701), .int a4, .int a5].toArray) s (mC t0 t') (mS t0 t') A) (F0 m 43 ls []) := by
    intro gm t v1 v2 v4 v5 ho h0 H locs ls hW hl
    have hE : mle t t' := (mm_x6_addRow_701_J43 _ _ _ _ _ _ ho)
    have hR := hR_of (t0 := t0) hE
    unfold x6_addRow_701_J43 at ho
    refine lv_iconst (v := (0 : Int32)) hx hb dX6_addRow_43 (by decide) ?_
    refine lv_istore (lv' := [(6, .int (0 : Int32)), (0, .ref (am 1006)), (1, .int v1), (2, .int v2), (3, .ref (am 701)), (4, .int v4), (5, .int v5)]) hx hb dX6_addRow_44 hl (by decide) rfl (fun ls hl => ?_)
    refine lv_iconst (v := (0 : Int32)) hx hb dX6_addRow_46 (by decide) ?_
    refine lv_istore (lv' := [(7, .int (0 : Int32)), (6, .int (0 : Int32)), (0, .ref (am 1006)), (1, .int v1), (2, .int v2), (3, .ref (am 701)), (4, .int v4), (5, .int v5)]) hx hb dX6_addRow_47 hl (by decide) rfl (fun ls hl => ?_)
    obtain ⟨y9, hc11, ho⟩ := bd_some ho
    have hm10 := mm_x6_addRow_701_L49 v1 v2 v4 v5 (0 : Int32) (0 : Int32) t _ hc11
    obtain ⟨ny9, hc11⟩ := lp_to hc11
    refine x6_addRow_701_L49 C0 hR ?_ ny9 _ _ _ hc11 _ _ _ hW (lv_sub hl [2, 3, 4, 5, 6, 7, 1, 0] rfl)
    intro H locs ls hW hl
    refine lv_aload_n hx hb dX6_addRow_97 rfl (lv_at hl 0 rfl) ?_
    refine lv_iload_n hx hb dX6_addRow_98 rfl (lv_at hl 1 rfl) ?_
    refine lv_iload hx hb dX6_addRow_99 (lv_at hl 3 rfl) ?_
    refine lv_iload_n hx hb dX6_addRow_101 rfl (lv_at hl 2 rfl) ?_
    refine lv_iload hx hb dX6_addRow_102 (lv_at hl 4 rfl) ?_
    obtain ⟨q12, hc13, ho⟩ := bd_some ho
    have hq12 := mm_x6_addKnot y9.2 v1 v5 v2 y9.1 _ hc13
    refine bkI C0.1 hW (runVX (As := [.int v1, .int v5, .int v2, .int y9.1]) (rest := []) C0 hW (c_x6_addKnot l _ y9.2 v1 v5 v2 y9.1 (r := q12.1) (t' := q12.2) hc13) cb_X6_X6_addKnot_68 6 6 rfl rfl rfl rfl rfl ⟨rfl, rfl⟩ ⟨Nat.le_of_ble_eq_true rfl, Nat.le_of_ble_eq_true rfl⟩ (Nat.le_of_ble_eq_true rfl) hl.1 dX6_addRow_104 ⟨hR.1, hR.2⟩) (fun H locs hW => ?_)
    refine lv_istore (lv' := [(7, .int q12.1), (0, .ref (am 1006)), (1, .int v1), (2, .int v2), (5, .int v5), (6, .int y9.1)]) hx hb dX6_addRow_107 hl (by decide) rfl (fun ls hl => ?_)
    refine lv_aload_n hx hb dX6_addRow_109 rfl (lv_at hl 1 rfl) ?_
    refine lv_dup hx hb dX6_addRow_110 rfl ?_
    refine xGET_610 C0 kw_206 hW dX6_addRow_111 ?_
    refine lv_iload hx hb dX6_addRow_114 (lv_at hl 4 rfl) ?_
    refine lv_iadd hx hb dX6_addRow_116 ?_
    refine xPUT_610 C0 kw_206 hW dX6_addRow_117 (fun H locs hW => ?_)
    obtain ⟨t14, ht14, ho, hW⟩ := nm_wm (P := fun t => wl D A s (wX cI cJ cZ cR am gm t) H locs) mle_sI ho hW
    refine lv_iload hx hb dX6_addRow_120 (lv_at hl 0 rfl) ?_
    refine W_up h0 (mle.trans (mle.trans hm10 hq12) ht14) ?_
    cases ho
    exact rtIa gm C0.1 hW dX6_addRow_122
  have hE : mle t0 t' := mm_x6_addRow_701 _ _ _ _ _ _ ho
  have hR := hR_of (t0 := t0) hE
  have h0 : mle t0 t0 := mle.rfl
  refine W_0 (t0 := t0) ?_
  unfold x6_addRow_701 at ho
  refine lv_aload_n hx hb dX6_addRow_0 rfl (lv_at hl 0 rfl) ?_
  refine xGET_610 C0 kw_206 hW dX6_addRow_1 ?_
  refine lv_iload hx hb dX6_addRow_4 (lv_at hl 5 rfl) ?_
  refine lv_iadd hx hb dX6_addRow_6 ?_
  refine lv_aload_n hx hb dX6_addRow_7 rfl (lv_at hl 0 rfl) ?_
  refine xGET_608 C0 kw_202 hW dX6_addRow_8 ?_
  refine xLEN_608 C0 hW dX6_addRow_11 ?_
  refine lv_icmp_le (tgt := 43) hx hb dX6_addRow_12 (by decide) (fun c15 => ?_) (fun c15 => ?_)
  · replace ho := ite_t c15 ho
    exact J43 gm _ _ _ _ _ ho h0 _ _ _ hW (lv_sub hl [0, 1, 2, 3, 4, 5] rfl)
  · replace ho := ite_f c15 ho
    refine lv_aload_n hx hb dX6_addRow_15 rfl (lv_at hl 0 rfl) ?_
    refine lv_aload_n hx hb dX6_addRow_16 rfl (lv_at hl 0 rfl) ?_
    refine xGET_608 C0 kw_202 hW dX6_addRow_17 ?_
    refine lv_iconst (v := (2 : Int32)) hx hb dX6_addRow_20 (by decide) ?_
    refine lv_aload_n hx hb dX6_addRow_21 rfl (lv_at hl 0 rfl) ?_
    refine xGET_608 C0 kw_202 hW dX6_addRow_22 ?_
    refine xLEN_608 C0 hW dX6_addRow_25 ?_
    refine lv_imul hx hb dX6_addRow_26 ?_
    refine lv_aload_n hx hb dX6_addRow_27 rfl (lv_at hl 0 rfl) ?_
    refine xGET_610 C0 kw_206 hW dX6_addRow_28 ?_
    refine lv_iload hx hb dX6_addRow_31 (lv_at hl 5 rfl) ?_
    refine lv_iadd hx hb dX6_addRow_33 ?_
    refine va_mmax (rest := [.ref (gm 608), .ref (am 1006)]) hx hb (C0.1.2.2.2.1.trans hl.1.symm) hown (hta _ kw_734) (hta _ kw_735) (hta _ kw_136) (hta _ kw_736) (Nat.le_of_ble_eq_true rfl) (Nat.le_of_ble_eq_true rfl) hR.1 hR.2 dX6_addRow_34 ?_
    obtain ⟨t16, g17, ho⟩ := cpy_some ho
    have ht16 := g17.mle
    have hEt16 := (mm_x6_addRow_701_J43 _ _ _ _ _ _ ho)
    refine xCOPY_608 (rest := []) C0 cb_X6_J7_copyOf_59c91_78 kw_202 hl.1 hW g17 h0 hEt16 (Nat.le_of_ble_eq_true rfl) (Nat.le_of_ble_eq_true rfl) (Nat.le_of_ble_eq_true rfl) dX6_addRow_37 dX6_addRow_40 (fun gm H locs hW => ?_)
    have h0 := mle.trans h0 ht16
    exact J43 gm _ _ _ _ _ ho h0 _ _ _ hW (lv_sub hl [0, 1, 2, 3, 4, 5] rfl)
noncomputable def x7_readDigit (t : St) (a1 : Int32) : Option (Int32 × St) :=
  gd a1 (gN t 602) (if 0 ≤ (gA t 602 (a1).toNatClampNeg) then (nm (sI t 703 ((gI t 703) + (1 : Int32))) (fun t3 : St => gd a1 (gN t3 602) (some ((gA t3 602 (a1).toNatClampNeg), t3)))) else ((x7_refuse t (gI t 703) (3 : Int32)).bind (fun q5 => some (q5.1, q5.2))))
theorem mm_x7_readDigit (t : St) (a1 : Int32) : MR (x7_readDigit t a1) t (fun (a : Int32 × St) => a.2) := by
  unfold x7_readDigit
  exact MR_gd (MR_ite (MR_nmS mle_sI (fun t3 ht3 => MR_gd (MR_some ht3))) (MR_bind (mm_x7_refuse t (gI t 703) (3 : Int32)) (fun q5 hq5 => MR_some hq5)))
set_option maxHeartbeats 4000000 in
set_option maxRecDepth 100000 in
theorem c_x7_readDigit (l : Launch) {D : va_G} {cI cJ cZ cR : ClassId} {am gm : Nat → Nat} {st : Nat} (sz : Nat) (t : St) (a1 : Int32) {r : Int32} {t' : St} (ho : x7_readDigit t a1 = some (r, t')) : Met l yX7_readDigit (.code yX7_readDigit cX7_readDigit 2 (some .int) :: wsAll) (rmN 1 22) (va_Pc [.ref (am 1007), .int a1] (prX D (tyX cI cJ cZ cR) (wX cI cJ cZ cR am gm t) sz st)) (qI r D (tyX cI cJ cZ cR) (wX cI cJ cZ cR am gm t') (va_A (wX cI cJ cZ cR am gm t) sz)) 0 0 (va_A (wX cI cJ cZ cR am gm t) sz) := by
  refine Met.ofW (cc := cX7_readDigit) (maxL := 2) (ret := (some .int)) (by decide) rfl ?_
  intro p e s m args below meth c s₁ B hml hv
  obtain ⟨rfl, ⟨hsz, hP, hK, hD0⟩, hsx⟩ := hv
  have hx := B.exec
  have hb := B.bytes
  have hts := atoms_spec (ws := (.code yX7_readDigit cX7_readDigit 2 (some .int) :: wsAll)) B.pre
  have hta := fun w h => hts w (List.mem_cons_of_mem _ h)
  have hown : s.vm.findClass RX7 = some m.cls := findClass_of_methodNamed B.named
  have hlocks := B.notSynchronized
  subst hsz
  have hD := hD0.self (sz := s.heap.size)
  generalize hAe : va_A (wX cI cJ cZ cR am gm t) s.heap.size = A at hD ⊢
  have hA : ∀ q : Nat, s.heap.size ≤ q → A q := fun q h => by rw [← hAe]; exact Or.inr h
  have C0 : cxX p s m ([.ref (am 1007), .int a1].toArray) meth c cX7_readDigit RX7 2 (some .int) D (tyX cI cJ cZ cR) st A := ⟨⟨hx, hb, B.returns, hml, hown, hta, hlocks, hK, hA⟩, by rw [← hAe]; exact hsx⟩
  have hW : wl D A s (wX cI cJ cZ cR am gm t) s.heap [] := ⟨hP, hD, va_S.rf⟩
  have hl := lv_entry [.ref (am 1007), .int a1] (n := 2) (Nat.le_of_ble_eq_true rfl)
  rw [lg_entry_eq]
  generalize (lg_sl [.ref (am 1007), .int a1] ++ List.replicate (2 - (lg_sl [.ref (am 1007), .int a1]).length) Slot.unset).toArray = ls at hl ⊢
  have hl : lv_has ls 2 [(0, .ref (am 1007)), (1, .int a1)] := hl
  unfold x7_readDigit at ho
  refine lv_aload_n hx hb dX7_readDigit_0 rfl (lv_at hl 0 rfl) ?_
  refine xGET_700 C0 kw_246 hW dX7_readDigit_1 ?_
  refine xGET_602 C0 kw_185 hW dX7_readDigit_4 ?_
  refine lv_iload_n hx hb dX7_readDigit_7 rfl (lv_at hl 1 rfl) ?_
  obtain ⟨g1, ho⟩ := gd_some ho
  refine xLD_602 C0 hW g1 dX7_readDigit_8 ?_
  refine lv_if_ge (tgt := 22) hx hb dX7_readDigit_9 (by decide) (fun c2 => ?_) (fun c2 => ?_)
  · replace ho := ite_t c2 ho
    refine lv_aload_n hx hb dX7_readDigit_22 rfl (lv_at hl 0 rfl) ?_
    refine lv_dup hx hb dX7_readDigit_23 rfl ?_
    refine xGET_703 C0 kw_249 hW dX7_readDigit_24 ?_
    refine lv_iconst (v := (1 : Int32)) hx hb dX7_readDigit_27 (by decide) ?_
    refine lv_iadd hx hb dX7_readDigit_28 ?_
    refine xPUT_703 C0 kw_249 hW dX7_readDigit_29 (fun H locs hW => ?_)
    obtain ⟨t3, ho, hW⟩ := nm_w (P := fun t => wl D A s (wX cI cJ cZ cR am gm t) H locs) ho hW
    refine lv_aload_n hx hb dX7_readDigit_32 rfl (lv_at hl 0 rfl) ?_
    refine xGET_700 C0 kw_246 hW dX7_readDigit_33 ?_
    refine xGET_602 C0 kw_185 hW dX7_readDigit_36 ?_
    refine lv_iload_n hx hb dX7_readDigit_39 rfl (lv_at hl 1 rfl) ?_
    obtain ⟨g4, ho⟩ := gd_some ho
    refine xLD_602 C0 hW g4 dX7_readDigit_40 ?_
    cases ho
    exact rtI C0.1 hW dX7_readDigit_41
  · replace ho := ite_f c2 ho
    refine lv_aload_n hx hb dX7_readDigit_12 rfl (lv_at hl 0 rfl) ?_
    refine lv_aload_n hx hb dX7_readDigit_13 rfl (lv_at hl 0 rfl) ?_
    refine xGET_703 C0 kw_249 hW dX7_readDigit_14 ?_
    refine lv_iconst (v := (3 : Int32)) hx hb dX7_readDigit_17 (by decide) ?_
    obtain ⟨q5, hc6, ho⟩ := bd_some ho
    refine bkI C0.1 hW (runVX (As := [.int (gI t 703), .int (3 : Int32)]) (rest := []) C0 hW (c_x7_refuse l _ t (gI t 703) (3 : Int32) (r := q5.1) (t' := q5.2) hc6) cb_X7_X7_refuse_43 7 7 rfl rfl rfl rfl rfl ⟨rfl, rfl⟩ ⟨Nat.le_of_ble_eq_true rfl, Nat.le_of_ble_eq_true rfl⟩ (Nat.le_of_ble_eq_true rfl) hl.1 dX7_readDigit_18 ⟨Nat.le_of_ble_eq_true rfl, Nat.le_of_ble_eq_true rfl⟩) (fun H locs hW => ?_)
    cases ho
    exact rtI C0.1 hW dX7_readDigit_21
noncomputable def x6_addLetter (t : St) (a1 : Int32) : Option (Int32 × St) :=
  (x6_addKnot t (0 : Int32) a1 (0 : Int32) ((1 : Int32) <<< (a1 &&& 31))).bind (fun q1 => some (q1.1, q1.2))
theorem mm_x6_addLetter (t : St) (a1 : Int32) : MR (x6_addLetter t a1) t (fun (a : Int32 × St) => a.2) := by
  unfold x6_addLetter
  exact MR_bind (mm_x6_addKnot t (0 : Int32) a1 (0 : Int32) ((1 : Int32) <<< (a1 &&& 31))) (fun q1 hq1 => MR_some hq1)
set_option maxHeartbeats 4000000 in
set_option maxRecDepth 100000 in
theorem c_x6_addLetter (l : Launch) {D : va_G} {cI cJ cZ cR : ClassId} {am gm : Nat → Nat} {st : Nat} (sz : Nat) (t : St) (a1 : Int32) {r : Int32} {t' : St} (ho : x6_addLetter t a1 = some (r, t')) : Met l yX6_addLetter (.code yX6_addLetter cX6_addLetter 2 (some .int) :: wsAll) (rmN 1 24) (va_Pc [.ref (am 1006), .int a1] (prX D (tyX cI cJ cZ cR) (wX cI cJ cZ cR am gm t) sz st)) (qI r D (tyX cI cJ cZ cR) (wX cI cJ cZ cR am gm t') (va_A (wX cI cJ cZ cR am gm t) sz)) 0 0 (va_A (wX cI cJ cZ cR am gm t) sz) := by
  refine Met.ofW (cc := cX6_addLetter) (maxL := 2) (ret := (some .int)) (by decide) rfl ?_
  intro p e s m args below meth c s₁ B hml hv
  obtain ⟨rfl, ⟨hsz, hP, hK, hD0⟩, hsx⟩ := hv
  have hx := B.exec
  have hb := B.bytes
  have hts := atoms_spec (ws := (.code yX6_addLetter cX6_addLetter 2 (some .int) :: wsAll)) B.pre
  have hta := fun w h => hts w (List.mem_cons_of_mem _ h)
  have hown : s.vm.findClass RX6 = some m.cls := findClass_of_methodNamed B.named
  have hlocks := B.notSynchronized
  subst hsz
  have hD := hD0.self (sz := s.heap.size)
  generalize hAe : va_A (wX cI cJ cZ cR am gm t) s.heap.size = A at hD ⊢
  have hA : ∀ q : Nat, s.heap.size ≤ q → A q := fun q h => by rw [← hAe]; exact Or.inr h
  have C0 : cxX p s m ([.ref (am 1006), .int a1].toArray) meth c cX6_addLetter RX6 2 (some .int) D (tyX cI cJ cZ cR) st A := ⟨⟨hx, hb, B.returns, hml, hown, hta, hlocks, hK, hA⟩, by rw [← hAe]; exact hsx⟩
  have hW : wl D A s (wX cI cJ cZ cR am gm t) s.heap [] := ⟨hP, hD, va_S.rf⟩
  have hl := lv_entry [.ref (am 1006), .int a1] (n := 2) (Nat.le_of_ble_eq_true rfl)
  rw [lg_entry_eq]
  generalize (lg_sl [.ref (am 1006), .int a1] ++ List.replicate (2 - (lg_sl [.ref (am 1006), .int a1]).length) Slot.unset).toArray = ls at hl ⊢
  have hl : lv_has ls 2 [(0, .ref (am 1006)), (1, .int a1)] := hl
  unfold x6_addLetter at ho
  refine lv_aload_n hx hb dX6_addLetter_0 rfl (lv_at hl 0 rfl) ?_
  refine lv_iconst (v := (0 : Int32)) hx hb dX6_addLetter_1 (by decide) ?_
  refine lv_iload_n hx hb dX6_addLetter_2 rfl (lv_at hl 1 rfl) ?_
  refine lv_iconst (v := (0 : Int32)) hx hb dX6_addLetter_3 (by decide) ?_
  refine lv_iconst (v := (1 : Int32)) hx hb dX6_addLetter_4 (by decide) ?_
  refine lv_iload_n hx hb dX6_addLetter_5 rfl (lv_at hl 1 rfl) ?_
  refine lv_ishl hx hb dX6_addLetter_6 ?_
  obtain ⟨q1, hc2, ho⟩ := bd_some ho
  refine bkI C0.1 hW (runVX (As := [.int (0 : Int32), .int a1, .int (0 : Int32), .int ((1 : Int32) <<< (a1 &&& 31))]) (rest := []) C0 hW (c_x6_addKnot l _ t (0 : Int32) a1 (0 : Int32) ((1 : Int32) <<< (a1 &&& 31)) (r := q1.1) (t' := q1.2) hc2) cb_X6_X6_addKnot_68 6 6 rfl rfl rfl rfl rfl ⟨rfl, rfl⟩ ⟨Nat.le_of_ble_eq_true rfl, Nat.le_of_ble_eq_true rfl⟩ (Nat.le_of_ble_eq_true rfl) hl.1 dX6_addLetter_7 ⟨Nat.le_of_ble_eq_true rfl, Nat.le_of_ble_eq_true rfl⟩) (fun H locs hW => ?_)
  cases ho
  exact rtI C0.1 hW dX6_addLetter_10
noncomputable def x7_separator (t : St) (a0 : Int32) : Option (Int32) :=
  if a0 = (1 : Int32) then (some (124 : Int32)) else (if a0 = (2 : Int32) then (some (62 : Int32)) else (some (38 : Int32)))
set_option maxHeartbeats 4000000 in
set_option maxRecDepth 100000 in
theorem c_x7_separator (l : Launch) {D : va_G} {cI cJ cZ cR : ClassId} {am gm : Nat → Nat} {st : Nat} (sz : Nat) (t : St) (a0 : Int32) {r : Int32} (ho : x7_separator t a0 = some r) : Met l yX7_separator (.code yX7_separator cX7_separator 1 (some .int) :: wsAll) (rmN 0 0) (va_Pc [.int a0] (prX D (tyX cI cJ cZ cR) (wX cI cJ cZ cR am gm t) sz st)) (qI r D (tyX cI cJ cZ cR) (wX cI cJ cZ cR am gm t) (va_A (wX cI cJ cZ cR am gm t) sz)) 0 0 (va_A (wX cI cJ cZ cR am gm t) sz) := by
  refine Met.ofW (cc := cX7_separator) (maxL := 1) (ret := (some .int)) (by decide) rfl ?_
  intro p e s m args below meth c s₁ B hml hv
  obtain ⟨rfl, ⟨hsz, hP, hK, hD0⟩, hsx⟩ := hv
  have hx := B.exec
  have hb := B.bytes
  have hts := atoms_spec (ws := (.code yX7_separator cX7_separator 1 (some .int) :: wsAll)) B.pre
  have hta := fun w h => hts w (List.mem_cons_of_mem _ h)
  have hown : s.vm.findClass RX7 = some m.cls := findClass_of_methodNamed B.named
  have hlocks := B.notSynchronized
  subst hsz
  have hD := hD0.self (sz := s.heap.size)
  generalize hAe : va_A (wX cI cJ cZ cR am gm t) s.heap.size = A at hD ⊢
  have hA : ∀ q : Nat, s.heap.size ≤ q → A q := fun q h => by rw [← hAe]; exact Or.inr h
  have C0 : cxX p s m ([.int a0].toArray) meth c cX7_separator RX7 1 (some .int) D (tyX cI cJ cZ cR) st A := ⟨⟨hx, hb, B.returns, hml, hown, hta, hlocks, hK, hA⟩, by rw [← hAe]; exact hsx⟩
  have hW : wl D A s (wX cI cJ cZ cR am gm t) s.heap [] := ⟨hP, hD, va_S.rf⟩
  have hl := lv_entry [.int a0] (n := 1) (Nat.le_of_ble_eq_true rfl)
  rw [lg_entry_eq]
  generalize (lg_sl [.int a0] ++ List.replicate (1 - (lg_sl [.int a0]).length) Slot.unset).toArray = ls at hl ⊢
  have hl : lv_has ls 1 [(0, .int a0)] := hl
  unfold x7_separator at ho
  refine lv_iload_n hx hb dX7_separator_0 rfl (lv_at hl 0 rfl) ?_
  refine lv_iconst (v := (1 : Int32)) hx hb dX7_separator_1 (by decide) ?_
  refine lv_icmp_ne (tgt := 8) hx hb dX7_separator_2 (by decide) (fun c1 => ?_) (fun c1 => ?_)
  · replace ho := ite_f c1 ho
    refine lv_iload_n hx hb dX7_separator_8 rfl (lv_at hl 0 rfl) ?_
    refine lv_iconst (v := (2 : Int32)) hx hb dX7_separator_9 (by decide) ?_
    refine lv_icmp_ne (tgt := 18) hx hb dX7_separator_10 (by decide) (fun c2 => ?_) (fun c2 => ?_)
    · replace ho := ite_f c2 ho
      refine lv_bipush (v := (38 : Int32)) hx hb dX7_separator_18 (by decide) ?_
      cases ho
      exact rtI C0.1 hW dX7_separator_20
    · replace ho := ite_t c2 ho
      refine lv_bipush (v := (62 : Int32)) hx hb dX7_separator_13 (by decide) ?_
      refine lv_goto (tgt := 20) hx hb dX7_separator_15 (by decide) ?_
      cases ho
      exact rtI C0.1 hW dX7_separator_20
  · replace ho := ite_t c1 ho
    refine lv_bipush (v := (124 : Int32)) hx hb dX7_separator_5 (by decide) ?_
    cases ho
    exact rtI C0.1 hW dX7_separator_7
noncomputable def x6_shrinkTo (t : St) (a1 : Int32) (a2 : Int32) : Option (St) :=
  nm (sI t 609 a1) (fun t1 : St => nm (sI t1 610 a2) (fun t2 : St => some t2))
theorem mm_x6_shrinkTo (t : St) (a1 : Int32) (a2 : Int32) : MR (x6_shrinkTo t a1 a2) t (fun (a : St) => a) := by
  unfold x6_shrinkTo
  exact MR_nmS mle_sI (fun t1 ht1 => MR_nmS mle_sI (fun t2 ht2 => MR_some (mle.trans ht1 ht2)))
set_option maxHeartbeats 4000000 in
set_option maxRecDepth 100000 in
theorem c_x6_shrinkTo (l : Launch) {D : va_G} {cI cJ cZ cR : ClassId} {am gm : Nat → Nat} {st : Nat} (sz : Nat) (t : St) (a1 : Int32) (a2 : Int32) {t' : St} (ho : x6_shrinkTo t a1 a2 = some t') : Met l yX6_shrinkTo (.code yX6_shrinkTo cX6_shrinkTo 3 none :: wsAll) (rmN 0 0) (va_Pc [.ref (am 1006), .int a1, .int a2] (prX D (tyX cI cJ cZ cR) (wX cI cJ cZ cR am gm t) sz st)) (qV D (tyX cI cJ cZ cR) (wX cI cJ cZ cR am gm t') (va_A (wX cI cJ cZ cR am gm t) sz)) 0 0 (va_A (wX cI cJ cZ cR am gm t) sz) := by
  refine Met.ofW (cc := cX6_shrinkTo) (maxL := 3) (ret := none) (by decide) rfl ?_
  intro p e s m args below meth c s₁ B hml hv
  obtain ⟨rfl, ⟨hsz, hP, hK, hD0⟩, hsx⟩ := hv
  have hx := B.exec
  have hb := B.bytes
  have hts := atoms_spec (ws := (.code yX6_shrinkTo cX6_shrinkTo 3 none :: wsAll)) B.pre
  have hta := fun w h => hts w (List.mem_cons_of_mem _ h)
  have hown : s.vm.findClass RX6 = some m.cls := findClass_of_methodNamed B.named
  have hlocks := B.notSynchronized
  subst hsz
  have hD := hD0.self (sz := s.heap.size)
  generalize hAe : va_A (wX cI cJ cZ cR am gm t) s.heap.size = A at hD ⊢
  have hA : ∀ q : Nat, s.heap.size ≤ q → A q := fun q h => by rw [← hAe]; exact Or.inr h
  have C0 : cxX p s m ([.ref (am 1006), .int a1, .int a2].toArray) meth c cX6_shrinkTo RX6 3 none D (tyX cI cJ cZ cR) st A := ⟨⟨hx, hb, B.returns, hml, hown, hta, hlocks, hK, hA⟩, by rw [← hAe]; exact hsx⟩
  have hW : wl D A s (wX cI cJ cZ cR am gm t) s.heap [] := ⟨hP, hD, va_S.rf⟩
  have hl := lv_entry [.ref (am 1006), .int a1, .int a2] (n := 3) (Nat.le_of_ble_eq_true rfl)
  rw [lg_entry_eq]
  generalize (lg_sl [.ref (am 1006), .int a1, .int a2] ++ List.replicate (3 - (lg_sl [.ref (am 1006), .int a1, .int a2]).length) Slot.unset).toArray = ls at hl ⊢
  have hl : lv_has ls 3 [(0, .ref (am 1006)), (1, .int a1), (2, .int a2)] := hl
  unfold x6_shrinkTo at ho
  refine lv_aload_n hx hb dX6_shrinkTo_0 rfl (lv_at hl 0 rfl) ?_
  refine lv_iload_n hx hb dX6_shrinkTo_1 rfl (lv_at hl 1 rfl) ?_
  refine xPUT_609 C0 kw_203 hW dX6_shrinkTo_2 (fun H locs hW => ?_)
  obtain ⟨t1, ho, hW⟩ := nm_w (P := fun t => wl D A s (wX cI cJ cZ cR am gm t) H locs) ho hW
  refine lv_aload_n hx hb dX6_shrinkTo_5 rfl (lv_at hl 0 rfl) ?_
  refine lv_iload_n hx hb dX6_shrinkTo_6 rfl (lv_at hl 2 rfl) ?_
  refine xPUT_610 C0 kw_206 hW dX6_shrinkTo_7 (fun H locs hW => ?_)
  obtain ⟨t2, ho, hW⟩ := nm_w (P := fun t => wl D A s (wX cI cJ cZ cR am gm t) H locs) ho hW
  cases ho
  exact rtV C0.1 hW dX6_shrinkTo_10
noncomputable def j7_fill_53178_602_B5 (v1 : Int32) (v3 : Int32) (v2 : Int32) (t : St) : Option ((Int32 × St) ⊕ (St)) :=
  if v3 ≤ v2 then (some (.inr t)) else (gd v2 (gN t 602) (nm (sA t 602 v2 v1) (fun t3 : St => nm (v2 + (1 : Int32)) (fun x4 : Int32 => some (.inl (x4, t3))))))
theorem mm_j7_fill_53178_602_B5 (v1 : Int32) (v3 : Int32) (v2 : Int32) (t : St) : MR (j7_fill_53178_602_B5 v1 v3 v2 t) t (Sum.elim (fun (x : Int32 × St) => x.2) (fun (y : St) => y)) := by
  unfold j7_fill_53178_602_B5
  exact MR_ite (MR_some mle.rfl) (MR_gd (MR_nmS mle_sA (fun t3 ht3 => MR_nm (fun x4 _ => MR_some ht3))))
theorem mm_j7_fill_53178_602_L5 (v1 : Int32) (v3 : Int32) (v2 : Int32) (t : St) : MR (lp (fun x => j7_fill_53178_602_B5 v1 v3 x.1 x.2) (v2, t)) t (fun (y : St) => y) := MR_lp (p := (fun (x : Int32 × St) => x.2)) (q := (fun (y : St) => y)) (fun x => mm_j7_fill_53178_602_B5 v1 v3 x.1 x.2) (v2, t)
noncomputable def j7_fill_53178_602 (t : St) (a1 : Int32) : Option (St) :=
  nm (Int32.ofNat (gN t 602)) (fun x5 : Int32 => (lp (fun x => j7_fill_53178_602_B5 a1 x5 x.1 x.2) ((0 : Int32), t)).bind (fun y6 => some y6))
theorem mm_j7_fill_53178_602 (t : St) (a1 : Int32) : MR (j7_fill_53178_602 t a1) t (fun (a : St) => a) := by
  unfold j7_fill_53178_602
  exact MR_nm (fun x5 _ => MR_bind (mm_j7_fill_53178_602_L5 a1 x5 (0 : Int32) t) (fun y6 hm7 => MR_some hm7))
set_option maxHeartbeats 4000000 in
set_option maxRecDepth 100000 in
theorem j7_fill_53178_602_L5 {p : Program} {l : Launch} {e : Env} {s : State} {m : MethodId} {args : Array Value} {below : List Frame} {meth : Method} {c : Code} {Q : State → Prop} {D : va_G} {cI cJ cZ cR : ClassId} {am gm : Nat → Nat} {st : Nat} {A : Nat → Prop} (C0 : cxX p s m args meth c cJ7_fill_53178 RJ7 4 none D (tyX cI cJ cZ cR) st A) {v1 : Int32} {v3 : Int32} {y : St} (hK0 : ∀ (H : Heap) (locs : List Loc) (ls : Array Slot), wl D A s (wX cI cJ cZ cR am gm y) H locs → lv_has ls 4 [] → W p l e (rmN 0 0) s m args below meth c H locs 0 0 Q (F0 m 20 ls [])) :
    ∀ (n : Nat) (v2 : Int32) (t : St), lpn (fun x => j7_fill_53178_602_B5 v1 v3 x.1 x.2) n (v2, t) = some y → ∀ (H : Heap) (locs : List Loc) (ls : Array Slot), wl D A s (wX cI cJ cZ cR am gm t) H locs → lv_has ls 4 [(0, .ref (am 602)), (1, .int v1), (2, .int v2), (3, .int v3)] → W p l e (rmN 0 0) s m args below meth c H locs 0 0 Q (F0 m 5 ls []) := by
  have hx := C0.1.1
  have hb := C0.1.2.1
  have hta := C0.1.2.2.2.2.2.1
  have hown := C0.1.2.2.2.2.1
  intro n
  induction n with
  | zero => intro _ _ h; cases h
  | succ n ih =>
    intro v2 t hrun H locs ls hW hl
    obtain ⟨o, ho, hrun⟩ := bd_some hrun
    unfold j7_fill_53178_602_B5 at ho
    refine lv_iload_n hx hb dJ7_fill_53178_5 rfl (lv_at hl 2 rfl) ?_
    refine lv_iload_n hx hb dJ7_fill_53178_6 rfl (lv_at hl 3 rfl) ?_
    refine lv_icmp_ge (tgt := 20) hx hb dJ7_fill_53178_7 (by decide) (fun c1 => ?_) (fun c1 => ?_)
    · replace ho := ite_t c1 ho
      cases ho
      cases hrun
      exact hK0 _ _ _ hW (lv_sub hl [] rfl)
    · replace ho := ite_f c1 ho
      refine lv_aload_n hx hb dJ7_fill_53178_10 rfl (lv_at hl 0 rfl) ?_
      refine lv_iload_n hx hb dJ7_fill_53178_11 rfl (lv_at hl 2 rfl) ?_
      refine lv_iload_n hx hb dJ7_fill_53178_12 rfl (lv_at hl 1 rfl) ?_
      obtain ⟨g2, ho⟩ := gd_some ho
      refine xST_602 C0 hW g2 dJ7_fill_53178_13 (fun H locs hW => ?_)
      obtain ⟨t3, ho, hW⟩ := nm_w (P := fun t => wl D A s (wX cI cJ cZ cR am gm t) H locs) ho hW
      obtain ⟨x4, ex4, ho⟩ := nm_x ho
      refine lv_iinc (v := x4) (lv' := [(2, .int x4), (0, .ref (am 602)), (1, .int v1), (3, .int v3)]) hx hb dJ7_fill_53178_14 hl (k := 2) rfl (by rw [ex4]; rfl) (by decide) rfl (fun ls hl => ?_)
      clear ex4
      refine lv_goto (tgt := 5) hx hb dJ7_fill_53178_17 (by decide) ?_
      cases ho
      exact ih _ _ hrun _ _ _ hW (lv_sub hl [1, 2, 0, 3] rfl)
set_option maxHeartbeats 4000000 in
set_option maxRecDepth 100000 in
theorem c_j7_fill_53178_602 (l : Launch) {D : va_G} {cI cJ cZ cR : ClassId} {am gm : Nat → Nat} {st : Nat} (sz : Nat) (t : St) (a1 : Int32) {t' : St} (ho : j7_fill_53178_602 t a1 = some t') : Met l yJ7_fill_53178 (.code yJ7_fill_53178 cJ7_fill_53178 4 none :: wsAll) (rmN 0 0) (va_Pc [.ref (am 602), .int a1] (prX D (tyX cI cJ cZ cR) (wX cI cJ cZ cR am gm t) sz st)) (qV D (tyX cI cJ cZ cR) (wX cI cJ cZ cR am gm t') (va_A (wX cI cJ cZ cR am gm t) sz)) 0 0 (va_A (wX cI cJ cZ cR am gm t) sz) := by
  refine Met.ofW (cc := cJ7_fill_53178) (maxL := 4) (ret := none) (by decide) rfl ?_
  intro p e s m args below meth c s₁ B hml hv
  obtain ⟨rfl, ⟨hsz, hP, hK, hD0⟩, hsx⟩ := hv
  have hx := B.exec
  have hb := B.bytes
  have hts := atoms_spec (ws := (.code yJ7_fill_53178 cJ7_fill_53178 4 none :: wsAll)) B.pre
  have hta := fun w h => hts w (List.mem_cons_of_mem _ h)
  have hown : s.vm.findClass RJ7 = some m.cls := findClass_of_methodNamed B.named
  have hlocks := B.notSynchronized
  subst hsz
  have hD := hD0.self (sz := s.heap.size)
  generalize hAe : va_A (wX cI cJ cZ cR am gm t) s.heap.size = A at hD ⊢
  have hA : ∀ q : Nat, s.heap.size ≤ q → A q := fun q h => by rw [← hAe]; exact Or.inr h
  have C0 : cxX p s m ([.ref (am 602), .int a1].toArray) meth c cJ7_fill_53178 RJ7 4 none D (tyX cI cJ cZ cR) st A := ⟨⟨hx, hb, B.returns, hml, hown, hta, hlocks, hK, hA⟩, by rw [← hAe]; exact hsx⟩
  have hW : wl D A s (wX cI cJ cZ cR am gm t) s.heap [] := ⟨hP, hD, va_S.rf⟩
  have hl := lv_entry [.ref (am 602), .int a1] (n := 4) (Nat.le_of_ble_eq_true rfl)
  rw [lg_entry_eq]
  generalize (lg_sl [.ref (am 602), .int a1] ++ List.replicate (4 - (lg_sl [.ref (am 602), .int a1]).length) Slot.unset).toArray = ls at hl ⊢
  have hl : lv_has ls 4 [(0, .ref (am 602)), (1, .int a1)] := hl
  unfold j7_fill_53178_602 at ho
  refine lv_iconst (v := (0 : Int32)) hx hb dJ7_fill_53178_0 (by decide) ?_
  refine lv_istore_n (lv' := [(2, .int (0 : Int32)), (0, .ref (am 602)), (1, .int a1)]) hx hb dJ7_fill_53178_1 rfl hl (by decide) rfl (fun ls hl => ?_)
  refine lv_aload_n hx hb dJ7_fill_53178_2 rfl (lv_at hl 1 rfl) ?_
  refine xLEN_602 C0 hW dJ7_fill_53178_3 ?_
  refine lv_nmi ho (fun x5 ho => ?_)
  refine lv_istore_n (lv' := [(3, .int x5), (2, .int (0 : Int32)), (0, .ref (am 602)), (1, .int a1)]) hx hb dJ7_fill_53178_4 rfl hl (by decide) rfl (fun ls hl => ?_)
  obtain ⟨y6, hc8, ho⟩ := bd_some ho
  obtain ⟨ny6, hc8⟩ := lp_to hc8
  refine j7_fill_53178_602_L5 C0 ?_ ny6 _ _ hc8 _ _ _ hW (lv_sub hl [2, 3, 1, 0] rfl)
  intro H locs ls hW hl
  cases ho
  exact rtV C0.1 hW dJ7_fill_53178_20
noncomputable def x6_forget (t : St) : Option (St) :=
  (j7_fill_53178_602 t (-1 : Int32)).bind (fun q1 => (x6_shrinkTo q1 (0 : Int32) (0 : Int32)).bind (fun q3 => some q3))
theorem mm_x6_forget (t : St) : MR (x6_forget t) t (fun (a : St) => a) := by
  unfold x6_forget
  exact MR_bind (mm_j7_fill_53178_602 t (-1 : Int32)) (fun q1 hq1 => MR_bind (mm_x6_shrinkTo q1 (0 : Int32) (0 : Int32)) (fun q3 hq3 => MR_some (mle.trans hq1 hq3)))
set_option maxHeartbeats 4000000 in
set_option maxRecDepth 100000 in
theorem c_x6_forget (l : Launch) {D : va_G} {cI cJ cZ cR : ClassId} {am gm : Nat → Nat} {st : Nat} (sz : Nat) (t : St) {t' : St} (ho : x6_forget t = some t') : Met l yX6_forget (.code yX6_forget cX6_forget 1 none :: wsAll) (rmN 1 23) (va_Pc [.ref (am 1006)] (prX D (tyX cI cJ cZ cR) (wX cI cJ cZ cR am gm t) sz st)) (qV D (tyX cI cJ cZ cR) (wX cI cJ cZ cR am gm t') (va_A (wX cI cJ cZ cR am gm t) sz)) 0 0 (va_A (wX cI cJ cZ cR am gm t) sz) := by
  refine Met.ofW (cc := cX6_forget) (maxL := 1) (ret := none) (by decide) rfl ?_
  intro p e s m args below meth c s₁ B hml hv
  obtain ⟨rfl, ⟨hsz, hP, hK, hD0⟩, hsx⟩ := hv
  have hx := B.exec
  have hb := B.bytes
  have hts := atoms_spec (ws := (.code yX6_forget cX6_forget 1 none :: wsAll)) B.pre
  have hta := fun w h => hts w (List.mem_cons_of_mem _ h)
  have hown : s.vm.findClass RX6 = some m.cls := findClass_of_methodNamed B.named
  have hlocks := B.notSynchronized
  subst hsz
  have hD := hD0.self (sz := s.heap.size)
  generalize hAe : va_A (wX cI cJ cZ cR am gm t) s.heap.size = A at hD ⊢
  have hA : ∀ q : Nat, s.heap.size ≤ q → A q := fun q h => by rw [← hAe]; exact Or.inr h
  have C0 : cxX p s m ([.ref (am 1006)].toArray) meth c cX6_forget RX6 1 none D (tyX cI cJ cZ cR) st A := ⟨⟨hx, hb, B.returns, hml, hown, hta, hlocks, hK, hA⟩, by rw [← hAe]; exact hsx⟩
  have hW : wl D A s (wX cI cJ cZ cR am gm t) s.heap [] := ⟨hP, hD, va_S.rf⟩
  have hl := lv_entry [.ref (am 1006)] (n := 1) (Nat.le_of_ble_eq_true rfl)
  rw [lg_entry_eq]
  generalize (lg_sl [.ref (am 1006)] ++ List.replicate (1 - (lg_sl [.ref (am 1006)]).length) Slot.unset).toArray = ls at hl ⊢
  have hl : lv_has ls 1 [(0, .ref (am 1006))] := hl
  unfold x6_forget at ho
  refine lv_aload_n hx hb dX6_forget_0 rfl (lv_at hl 0 rfl) ?_
  refine xGET_602 C0 kw_183 hW dX6_forget_1 ?_
  refine lv_iconst (v := (-1 : Int32)) hx hb dX6_forget_4 (by decide) ?_
  obtain ⟨q1, hc2, ho⟩ := bd_some ho
  refine bkV C0.1 hW (runSX (As := [.ref (am 602), .int (-1 : Int32)]) (rest := []) C0 hW (c_j7_fill_53178_602 l _ t (-1 : Int32) (t' := q1) hc2) cb_X6_J7_fill_53178_58 rfl rfl ⟨rfl, rfl⟩ ⟨Nat.le_of_ble_eq_true rfl, Nat.le_of_ble_eq_true rfl⟩ (Nat.le_of_ble_eq_true rfl) hl.1 dX6_forget_5 ⟨Nat.le_of_ble_eq_true rfl, Nat.le_of_ble_eq_true rfl⟩) (fun H locs hW => ?_)
  refine lv_aload_n hx hb dX6_forget_8 rfl (lv_at hl 0 rfl) ?_
  refine lv_iconst (v := (0 : Int32)) hx hb dX6_forget_9 (by decide) ?_
  refine lv_iconst (v := (0 : Int32)) hx hb dX6_forget_10 (by decide) ?_
  obtain ⟨q3, hc4, ho⟩ := bd_some ho
  refine bkV C0.1 hW (runVX (As := [.int (0 : Int32), .int (0 : Int32)]) (rest := []) C0 hW (c_x6_shrinkTo l _ q1 (0 : Int32) (0 : Int32) (t' := q3) hc4) cb_X6_X6_shrinkTo_64 6 6 rfl rfl rfl rfl rfl ⟨rfl, rfl⟩ ⟨Nat.le_of_ble_eq_true rfl, Nat.le_of_ble_eq_true rfl⟩ (Nat.le_of_ble_eq_true rfl) hl.1 dX6_forget_11 ⟨Nat.le_of_ble_eq_true rfl, Nat.le_of_ble_eq_true rfl⟩) (fun H locs hW => ?_)
  cases ho
  exact rtV C0.1 hW dX6_forget_14
noncomputable def j7_fill_53178_813_B5 (v1 : Int32) (v3 : Int32) (v2 : Int32) (t : St) : Option ((Int32 × St) ⊕ (St)) :=
  if v3 ≤ v2 then (some (.inr t)) else (gd v2 (gN t 813) (nm (sA t 813 v2 v1) (fun t3 : St => nm (v2 + (1 : Int32)) (fun x4 : Int32 => some (.inl (x4, t3))))))
theorem mm_j7_fill_53178_813_B5 (v1 : Int32) (v3 : Int32) (v2 : Int32) (t : St) : MR (j7_fill_53178_813_B5 v1 v3 v2 t) t (Sum.elim (fun (x : Int32 × St) => x.2) (fun (y : St) => y)) := by
  unfold j7_fill_53178_813_B5
  exact MR_ite (MR_some mle.rfl) (MR_gd (MR_nmS mle_sA (fun t3 ht3 => MR_nm (fun x4 _ => MR_some ht3))))
theorem mm_j7_fill_53178_813_L5 (v1 : Int32) (v3 : Int32) (v2 : Int32) (t : St) : MR (lp (fun x => j7_fill_53178_813_B5 v1 v3 x.1 x.2) (v2, t)) t (fun (y : St) => y) := MR_lp (p := (fun (x : Int32 × St) => x.2)) (q := (fun (y : St) => y)) (fun x => mm_j7_fill_53178_813_B5 v1 v3 x.1 x.2) (v2, t)
noncomputable def j7_fill_53178_813 (t : St) (a1 : Int32) : Option (St) :=
  nm (Int32.ofNat (gN t 813)) (fun x5 : Int32 => (lp (fun x => j7_fill_53178_813_B5 a1 x5 x.1 x.2) ((0 : Int32), t)).bind (fun y6 => some y6))
theorem mm_j7_fill_53178_813 (t : St) (a1 : Int32) : MR (j7_fill_53178_813 t a1) t (fun (a : St) => a) := by
  unfold j7_fill_53178_813
  exact MR_nm (fun x5 _ => MR_bind (mm_j7_fill_53178_813_L5 a1 x5 (0 : Int32) t) (fun y6 hm7 => MR_some hm7))
set_option maxHeartbeats 4000000 in
set_option maxRecDepth 100000 in
theorem j7_fill_53178_813_L5 {p : Program} {l : Launch} {e : Env} {s : State} {m : MethodId} {args : Array Value} {below : List Frame} {meth : Method} {c : Code} {Q : State → Prop} {D : va_G} {cI cJ cZ cR : ClassId} {am gm : Nat → Nat} {st : Nat} {A : Nat → Prop} (C0 : cxX p s m args meth c cJ7_fill_53178 RJ7 4 none D (tyX cI cJ cZ cR) st A) {v1 : Int32} {v3 : Int32} {y : St} (hK0 : ∀ (H : Heap) (locs : List Loc) (ls : Array Slot), wl D A s (wX cI cJ cZ cR am gm y) H locs → lv_has ls 4 [] → W p l e (rmN 0 0) s m args below meth c H locs 0 0 Q (F0 m 20 ls [])) :
    ∀ (n : Nat) (v2 : Int32) (t : St), lpn (fun x => j7_fill_53178_813_B5 v1 v3 x.1 x.2) n (v2, t) = some y → ∀ (H : Heap) (locs : List Loc) (ls : Array Slot), wl D A s (wX cI cJ cZ cR am gm t) H locs → lv_has ls 4 [(0, .ref (am 813)), (1, .int v1), (2, .int v2), (3, .int v3)] → W p l e (rmN 0 0) s m args below meth c H locs 0 0 Q (F0 m 5 ls []) := by
  have hx := C0.1.1
  have hb := C0.1.2.1
  have hta := C0.1.2.2.2.2.2.1
  have hown := C0.1.2.2.2.2.1
  intro n
  induction n with
  | zero => intro _ _ h; cases h
  | succ n ih =>
    intro v2 t hrun H locs ls hW hl
    obtain ⟨o, ho, hrun⟩ := bd_some hrun
    unfold j7_fill_53178_813_B5 at ho
    refine lv_iload_n hx hb dJ7_fill_53178_5 rfl (lv_at hl 2 rfl) ?_
    refine lv_iload_n hx hb dJ7_fill_53178_6 rfl (lv_at hl 3 rfl) ?_
    refine lv_icmp_ge (tgt := 20) hx hb dJ7_fill_53178_7 (by decide) (fun c1 => ?_) (fun c1 => ?_)
    · replace ho := ite_t c1 ho
      cases ho
      cases hrun
      exact hK0 _ _ _ hW (lv_sub hl [] rfl)
    · replace ho := ite_f c1 ho
      refine lv_aload_n hx hb dJ7_fill_53178_10 rfl (lv_at hl 0 rfl) ?_
      refine lv_iload_n hx hb dJ7_fill_53178_11 rfl (lv_at hl 2 rfl) ?_
      refine lv_iload_n hx hb dJ7_fill_53178_12 rfl (lv_at hl 1 rfl) ?_
      obtain ⟨g2, ho⟩ := gd_some ho
      refine xST_813 C0 hW g2 dJ7_fill_53178_13 (fun H locs hW => ?_)
      obtain ⟨t3, ho, hW⟩ := nm_w (P := fun t => wl D A s (wX cI cJ cZ cR am gm t) H locs) ho hW
      obtain ⟨x4, ex4, ho⟩ := nm_x ho
      refine lv_iinc (v := x4) (lv' := [(2, .int x4), (0, .ref (am 813)), (1, .int v1), (3, .int v3)]) hx hb dJ7_fill_53178_14 hl (k := 2) rfl (by rw [ex4]; rfl) (by decide) rfl (fun ls hl => ?_)
      clear ex4
      refine lv_goto (tgt := 5) hx hb dJ7_fill_53178_17 (by decide) ?_
      cases ho
      exact ih _ _ hrun _ _ _ hW (lv_sub hl [1, 2, 0, 3] rfl)
set_option maxHeartbeats 4000000 in
set_option maxRecDepth 100000 in
theorem c_j7_fill_53178_813 (l : Launch) {D : va_G} {cI cJ cZ cR : ClassId} {am gm : Nat → Nat} {st : Nat} (sz : Nat) (t : St) (a1 : Int32) {t' : St} (ho : j7_fill_53178_813 t a1 = some t') : Met l yJ7_fill_53178 (.code yJ7_fill_53178 cJ7_fill_53178 4 none :: wsAll) (rmN 0 0) (va_Pc [.ref (am 813), .int a1] (prX D (tyX cI cJ cZ cR) (wX cI cJ cZ cR am gm t) sz st)) (qV D (tyX cI cJ cZ cR) (wX cI cJ cZ cR am gm t') (va_A (wX cI cJ cZ cR am gm t) sz)) 0 0 (va_A (wX cI cJ cZ cR am gm t) sz) := by
  refine Met.ofW (cc := cJ7_fill_53178) (maxL := 4) (ret := none) (by decide) rfl ?_
  intro p e s m args below meth c s₁ B hml hv
  obtain ⟨rfl, ⟨hsz, hP, hK, hD0⟩, hsx⟩ := hv
  have hx := B.exec
  have hb := B.bytes
  have hts := atoms_spec (ws := (.code yJ7_fill_53178 cJ7_fill_53178 4 none :: wsAll)) B.pre
  have hta := fun w h => hts w (List.mem_cons_of_mem _ h)
  have hown : s.vm.findClass RJ7 = some m.cls := findClass_of_methodNamed B.named
  have hlocks := B.notSynchronized
  subst hsz
  have hD := hD0.self (sz := s.heap.size)
  generalize hAe : va_A (wX cI cJ cZ cR am gm t) s.heap.size = A at hD ⊢
  have hA : ∀ q : Nat, s.heap.size ≤ q → A q := fun q h => by rw [← hAe]; exact Or.inr h
  have C0 : cxX p s m ([.ref (am 813), .int a1].toArray) meth c cJ7_fill_53178 RJ7 4 none D (tyX cI cJ cZ cR) st A := ⟨⟨hx, hb, B.returns, hml, hown, hta, hlocks, hK, hA⟩, by rw [← hAe]; exact hsx⟩
  have hW : wl D A s (wX cI cJ cZ cR am gm t) s.heap [] := ⟨hP, hD, va_S.rf⟩
  have hl := lv_entry [.ref (am 813), .int a1] (n := 4) (Nat.le_of_ble_eq_true rfl)
  rw [lg_entry_eq]
  generalize (lg_sl [.ref (am 813), .int a1] ++ List.replicate (4 - (lg_sl [.ref (am 813), .int a1]).length) Slot.unset).toArray = ls at hl ⊢
  have hl : lv_has ls 4 [(0, .ref (am 813)), (1, .int a1)] := hl
  unfold j7_fill_53178_813 at ho
  refine lv_iconst (v := (0 : Int32)) hx hb dJ7_fill_53178_0 (by decide) ?_
  refine lv_istore_n (lv' := [(2, .int (0 : Int32)), (0, .ref (am 813)), (1, .int a1)]) hx hb dJ7_fill_53178_1 rfl hl (by decide) rfl (fun ls hl => ?_)
  refine lv_aload_n hx hb dJ7_fill_53178_2 rfl (lv_at hl 1 rfl) ?_
  refine xLEN_813 C0 hW dJ7_fill_53178_3 ?_
  refine lv_nmi ho (fun x5 ho => ?_)
  refine lv_istore_n (lv' := [(3, .int x5), (2, .int (0 : Int32)), (0, .ref (am 813)), (1, .int a1)]) hx hb dJ7_fill_53178_4 rfl hl (by decide) rfl (fun ls hl => ?_)
  obtain ⟨y6, hc8, ho⟩ := bd_some ho
  obtain ⟨ny6, hc8⟩ := lp_to hc8
  refine j7_fill_53178_813_L5 C0 ?_ ny6 _ _ hc8 _ _ _ hW (lv_sub hl [2, 3, 1, 0] rfl)
  intro H locs ls hW hl
  cases ho
  exact rtV C0.1 hW dJ7_fill_53178_20
noncomputable def x8_forget (t : St) : Option (St) :=
  nm (sI t 805 (-1 : Int32)) (fun t1 : St => (j7_fill_53178_813 t1 (0 : Int32)).bind (fun q2 => some q2))
theorem mm_x8_forget (t : St) : MR (x8_forget t) t (fun (a : St) => a) := by
  unfold x8_forget
  exact MR_nmS mle_sI (fun t1 ht1 => MR_bind (mm_j7_fill_53178_813 t1 (0 : Int32)) (fun q2 hq2 => MR_some (mle.trans ht1 hq2)))
set_option maxHeartbeats 4000000 in
set_option maxRecDepth 100000 in
theorem c_x8_forget (l : Launch) {D : va_G} {cI cJ cZ cR : ClassId} {am gm : Nat → Nat} {st : Nat} (sz : Nat) (t : St) {t' : St} (ho : x8_forget t = some t') : Met l yX8_forget (.code yX8_forget cX8_forget 1 none :: wsAll) (rmN 1 23) (va_Pc [.ref (am 1008)] (prX D (tyX cI cJ cZ cR) (wX cI cJ cZ cR am gm t) sz st)) (qV D (tyX cI cJ cZ cR) (wX cI cJ cZ cR am gm t') (va_A (wX cI cJ cZ cR am gm t) sz)) 0 0 (va_A (wX cI cJ cZ cR am gm t) sz) := by
  refine Met.ofW (cc := cX8_forget) (maxL := 1) (ret := none) (by decide) rfl ?_
  intro p e s m args below meth c s₁ B hml hv
  obtain ⟨rfl, ⟨hsz, hP, hK, hD0⟩, hsx⟩ := hv
  have hx := B.exec
  have hb := B.bytes
  have hts := atoms_spec (ws := (.code yX8_forget cX8_forget 1 none :: wsAll)) B.pre
  have hta := fun w h => hts w (List.mem_cons_of_mem _ h)
  have hown : s.vm.findClass RX8 = some m.cls := findClass_of_methodNamed B.named
  have hlocks := B.notSynchronized
  subst hsz
  have hD := hD0.self (sz := s.heap.size)
  generalize hAe : va_A (wX cI cJ cZ cR am gm t) s.heap.size = A at hD ⊢
  have hA : ∀ q : Nat, s.heap.size ≤ q → A q := fun q h => by rw [← hAe]; exact Or.inr h
  have C0 : cxX p s m ([.ref (am 1008)].toArray) meth c cX8_forget RX8 1 none D (tyX cI cJ cZ cR) st A := ⟨⟨hx, hb, B.returns, hml, hown, hta, hlocks, hK, hA⟩, by rw [← hAe]; exact hsx⟩
  have hW : wl D A s (wX cI cJ cZ cR am gm t) s.heap [] := ⟨hP, hD, va_S.rf⟩
  have hl := lv_entry [.ref (am 1008)] (n := 1) (Nat.le_of_ble_eq_true rfl)
  rw [lg_entry_eq]
  generalize (lg_sl [.ref (am 1008)] ++ List.replicate (1 - (lg_sl [.ref (am 1008)]).length) Slot.unset).toArray = ls at hl ⊢
  have hl : lv_has ls 1 [(0, .ref (am 1008))] := hl
  unfold x8_forget at ho
  refine lv_aload_n hx hb dX8_forget_0 rfl (lv_at hl 0 rfl) ?_
  refine lv_iconst (v := (-1 : Int32)) hx hb dX8_forget_1 (by decide) ?_
  refine xPUT_805 C0 kw_280 hW dX8_forget_2 (fun H locs hW => ?_)
  obtain ⟨t1, ho, hW⟩ := nm_w (P := fun t => wl D A s (wX cI cJ cZ cR am gm t) H locs) ho hW
  refine lv_aload_n hx hb dX8_forget_5 rfl (lv_at hl 0 rfl) ?_
  refine xGET_813 C0 kw_290 hW dX8_forget_6 ?_
  refine lv_iconst (v := (0 : Int32)) hx hb dX8_forget_9 (by decide) ?_
  obtain ⟨q2, hc3, ho⟩ := bd_some ho
  refine bkV C0.1 hW (runSX (As := [.ref (am 813), .int (0 : Int32)]) (rest := []) C0 hW (c_j7_fill_53178_813 l _ t1 (0 : Int32) (t' := q2) hc3) cb_X8_J7_fill_53178_66 rfl rfl ⟨rfl, rfl⟩ ⟨Nat.le_of_ble_eq_true rfl, Nat.le_of_ble_eq_true rfl⟩ (Nat.le_of_ble_eq_true rfl) hl.1 dX8_forget_10 ⟨Nat.le_of_ble_eq_true rfl, Nat.le_of_ble_eq_true rfl⟩) (fun H locs hW => ?_)
  cases ho
  exact rtV C0.1 hW dX8_forget_13
noncomputable def x10_forget (t : St) : Option (St) :=
  nm (sI t 1005 (-1 : Int32)) (fun t1 : St => some t1)
theorem mm_x10_forget (t : St) : MR (x10_forget t) t (fun (a : St) => a) := by
  unfold x10_forget
  exact MR_nmS mle_sI (fun t1 ht1 => MR_some ht1)
set_option maxHeartbeats 4000000 in
set_option maxRecDepth 100000 in
theorem c_x10_forget (l : Launch) {D : va_G} {cI cJ cZ cR : ClassId} {am gm : Nat → Nat} {st : Nat} (sz : Nat) (t : St) {t' : St} (ho : x10_forget t = some t') : Met l yX10_forget (.code yX10_forget cX10_forget 1 none :: wsAll) (rmN 0 0) (va_Pc [.ref (am 1010)] (prX D (tyX cI cJ cZ cR) (wX cI cJ cZ cR am gm t) sz st)) (qV D (tyX cI cJ cZ cR) (wX cI cJ cZ cR am gm t') (va_A (wX cI cJ cZ cR am gm t) sz)) 0 0 (va_A (wX cI cJ cZ cR am gm t) sz) := by
  refine Met.ofW (cc := cX10_forget) (maxL := 1) (ret := none) (by decide) rfl ?_
  intro p e s m args below meth c s₁ B hml hv
  obtain ⟨rfl, ⟨hsz, hP, hK, hD0⟩, hsx⟩ := hv
  have hx := B.exec
  have hb := B.bytes
  have hts := atoms_spec (ws := (.code yX10_forget cX10_forget 1 none :: wsAll)) B.pre
  have hta := fun w h => hts w (List.mem_cons_of_mem _ h)
  have hown : s.vm.findClass RX10 = some m.cls := findClass_of_methodNamed B.named
  have hlocks := B.notSynchronized
  subst hsz
  have hD := hD0.self (sz := s.heap.size)
  generalize hAe : va_A (wX cI cJ cZ cR am gm t) s.heap.size = A at hD ⊢
  have hA : ∀ q : Nat, s.heap.size ≤ q → A q := fun q h => by rw [← hAe]; exact Or.inr h
  have C0 : cxX p s m ([.ref (am 1010)].toArray) meth c cX10_forget RX10 1 none D (tyX cI cJ cZ cR) st A := ⟨⟨hx, hb, B.returns, hml, hown, hta, hlocks, hK, hA⟩, by rw [← hAe]; exact hsx⟩
  have hW : wl D A s (wX cI cJ cZ cR am gm t) s.heap [] := ⟨hP, hD, va_S.rf⟩
  have hl := lv_entry [.ref (am 1010)] (n := 1) (Nat.le_of_ble_eq_true rfl)
  rw [lg_entry_eq]
  generalize (lg_sl [.ref (am 1010)] ++ List.replicate (1 - (lg_sl [.ref (am 1010)]).length) Slot.unset).toArray = ls at hl ⊢
  have hl : lv_has ls 1 [(0, .ref (am 1010))] := hl
  unfold x10_forget at ho
  refine lv_aload_n hx hb dX10_forget_0 rfl (lv_at hl 0 rfl) ?_
  refine lv_iconst (v := (-1 : Int32)) hx hb dX10_forget_1 (by decide) ?_
  refine xPUT_1005 C0 kw_339 hW dX10_forget_2 (fun H locs hW => ?_)
  obtain ⟨t1, ho, hW⟩ := nm_w (P := fun t => wl D A s (wX cI cJ cZ cR am gm t) H locs) ho hW
  cases ho
  exact rtV C0.1 hW dX10_forget_5
noncomputable def x0_forget (t : St) : Option (St) :=
  nm (sI t 2 (-1 : Int32)) (fun t1 : St => some t1)
theorem mm_x0_forget (t : St) : MR (x0_forget t) t (fun (a : St) => a) := by
  unfold x0_forget
  exact MR_nmS mle_sI (fun t1 ht1 => MR_some ht1)
set_option maxHeartbeats 4000000 in
set_option maxRecDepth 100000 in
theorem c_x0_forget (l : Launch) {D : va_G} {cI cJ cZ cR : ClassId} {am gm : Nat → Nat} {st : Nat} (sz : Nat) (t : St) {t' : St} (ho : x0_forget t = some t') : Met l yX0_forget (.code yX0_forget cX0_forget 1 none :: wsAll) (rmN 0 0) (va_Pc [.ref (am 1000)] (prX D (tyX cI cJ cZ cR) (wX cI cJ cZ cR am gm t) sz st)) (qV D (tyX cI cJ cZ cR) (wX cI cJ cZ cR am gm t') (va_A (wX cI cJ cZ cR am gm t) sz)) 0 0 (va_A (wX cI cJ cZ cR am gm t) sz) := by
  refine Met.ofW (cc := cX0_forget) (maxL := 1) (ret := none) (by decide) rfl ?_
  intro p e s m args below meth c s₁ B hml hv
  obtain ⟨rfl, ⟨hsz, hP, hK, hD0⟩, hsx⟩ := hv
  have hx := B.exec
  have hb := B.bytes
  have hts := atoms_spec (ws := (.code yX0_forget cX0_forget 1 none :: wsAll)) B.pre
  have hta := fun w h => hts w (List.mem_cons_of_mem _ h)
  have hown : s.vm.findClass RX0 = some m.cls := findClass_of_methodNamed B.named
  have hlocks := B.notSynchronized
  subst hsz
  have hD := hD0.self (sz := s.heap.size)
  generalize hAe : va_A (wX cI cJ cZ cR am gm t) s.heap.size = A at hD ⊢
  have hA : ∀ q : Nat, s.heap.size ≤ q → A q := fun q h => by rw [← hAe]; exact Or.inr h
  have C0 : cxX p s m ([.ref (am 1000)].toArray) meth c cX0_forget RX0 1 none D (tyX cI cJ cZ cR) st A := ⟨⟨hx, hb, B.returns, hml, hown, hta, hlocks, hK, hA⟩, by rw [← hAe]; exact hsx⟩
  have hW : wl D A s (wX cI cJ cZ cR am gm t) s.heap [] := ⟨hP, hD, va_S.rf⟩
  have hl := lv_entry [.ref (am 1000)] (n := 1) (Nat.le_of_ble_eq_true rfl)
  rw [lg_entry_eq]
  generalize (lg_sl [.ref (am 1000)] ++ List.replicate (1 - (lg_sl [.ref (am 1000)]).length) Slot.unset).toArray = ls at hl ⊢
  have hl : lv_has ls 1 [(0, .ref (am 1000))] := hl
  unfold x0_forget at ho
  refine lv_aload_n hx hb dX0_forget_0 rfl (lv_at hl 0 rfl) ?_
  refine lv_iconst (v := (-1 : Int32)) hx hb dX0_forget_1 (by decide) ?_
  refine xPUT_2 C0 kw_384 hW dX0_forget_2 (fun H locs hW => ?_)
  obtain ⟨t1, ho, hW⟩ := nm_w (P := fun t => wl D A s (wX cI cJ cZ cR am gm t) H locs) ho hW
  cases ho
  exact rtV C0.1 hW dX0_forget_5
noncomputable def x11_clear (t : St) : Option (Int32 × St) :=
  nm (gI t 609) (fun x1 : Int32 => (x6_forget t).bind (fun q2 => (x8_forget q2).bind (fun q4 => (x10_forget q4).bind (fun q6 => (x0_forget q6).bind (fun q8 => (x4_forgetFront q8).bind (fun q10 => some (x1, q10)))))))
theorem mm_x11_clear (t : St) : MR (x11_clear t) t (fun (a : Int32 × St) => a.2) := by
  unfold x11_clear
  exact MR_nm (fun x1 _ => MR_bind (mm_x6_forget t) (fun q2 hq2 => MR_bind (mm_x8_forget q2) (fun q4 hq4 => MR_bind (mm_x10_forget q4) (fun q6 hq6 => MR_bind (mm_x0_forget q6) (fun q8 hq8 => MR_bind (mm_x4_forgetFront q8) (fun q10 hq10 => MR_some (mle.trans (mle.trans (mle.trans (mle.trans hq2 hq4) hq6) hq8) hq10)))))))
set_option maxHeartbeats 4000000 in
set_option maxRecDepth 100000 in
theorem c_x11_clear (l : Launch) {D : va_G} {cI cJ cZ cR : ClassId} {am gm : Nat → Nat} {st : Nat} (sz : Nat) (t : St) {r : Int32} {t' : St} (ho : x11_clear t = some (r, t')) : Met l yX11_clear (.code yX11_clear cX11_clear 2 (some .int) :: wsAll) (rmN 2 43) (va_Pc [.ref (am 1011)] (prX D (tyX cI cJ cZ cR) (wX cI cJ cZ cR am gm t) sz st)) (qI r D (tyX cI cJ cZ cR) (wX cI cJ cZ cR am gm t') (va_A (wX cI cJ cZ cR am gm t) sz)) 0 0 (va_A (wX cI cJ cZ cR am gm t) sz) := by
  refine Met.ofW (cc := cX11_clear) (maxL := 2) (ret := (some .int)) (by decide) rfl ?_
  intro p e s m args below meth c s₁ B hml hv
  obtain ⟨rfl, ⟨hsz, hP, hK, hD0⟩, hsx⟩ := hv
  have hx := B.exec
  have hb := B.bytes
  have hts := atoms_spec (ws := (.code yX11_clear cX11_clear 2 (some .int) :: wsAll)) B.pre
  have hta := fun w h => hts w (List.mem_cons_of_mem _ h)
  have hown : s.vm.findClass RX11 = some m.cls := findClass_of_methodNamed B.named
  have hlocks := B.notSynchronized
  subst hsz
  have hD := hD0.self (sz := s.heap.size)
  generalize hAe : va_A (wX cI cJ cZ cR am gm t) s.heap.size = A at hD ⊢
  have hA : ∀ q : Nat, s.heap.size ≤ q → A q := fun q h => by rw [← hAe]; exact Or.inr h
  have C0 : cxX p s m ([.ref (am 1011)].toArray) meth c cX11_clear RX11 2 (some .int) D (tyX cI cJ cZ cR) st A := ⟨⟨hx, hb, B.returns, hml, hown, hta, hlocks, hK, hA⟩, by rw [← hAe]; exact hsx⟩
  have hW : wl D A s (wX cI cJ cZ cR am gm t) s.heap [] := ⟨hP, hD, va_S.rf⟩
  have hl := lv_entry [.ref (am 1011)] (n := 2) (Nat.le_of_ble_eq_true rfl)
  rw [lg_entry_eq]
  generalize (lg_sl [.ref (am 1011)] ++ List.replicate (2 - (lg_sl [.ref (am 1011)]).length) Slot.unset).toArray = ls at hl ⊢
  have hl : lv_has ls 2 [(0, .ref (am 1011))] := hl
  unfold x11_clear at ho
  refine lv_aload_n hx hb dX11_clear_0 rfl (lv_at hl 0 rfl) ?_
  refine xGET_1101 C0 kw_592 hW dX11_clear_1 ?_
  refine xGET_609 C0 kw_205 hW dX11_clear_4 ?_
  refine lv_nmi ho (fun x1 ho => ?_)
  refine lv_istore_n (lv' := [(1, .int x1), (0, .ref (am 1011))]) hx hb dX11_clear_7 rfl hl (by decide) rfl (fun ls hl => ?_)
  refine lv_aload_n hx hb dX11_clear_8 rfl (lv_at hl 1 rfl) ?_
  refine xGET_1101 C0 kw_592 hW dX11_clear_9 ?_
  obtain ⟨q2, hc3, ho⟩ := bd_some ho
  refine bkV C0.1 hW (runVX (As := []) (rest := []) C0 hW (c_x6_forget l _ t (t' := q2) hc3) cb_X11_X6_forget_141 6 6 rfl rfl rfl rfl rfl ⟨rfl, rfl⟩ ⟨Nat.le_of_ble_eq_true rfl, Nat.le_of_ble_eq_true rfl⟩ (Nat.le_of_ble_eq_true rfl) hl.1 dX11_clear_12 ⟨Nat.le_of_ble_eq_true rfl, Nat.le_of_ble_eq_true rfl⟩) (fun H locs hW => ?_)
  refine lv_aload_n hx hb dX11_clear_15 rfl (lv_at hl 1 rfl) ?_
  refine xGET_1103 C0 kw_594 hW dX11_clear_16 ?_
  obtain ⟨q4, hc5, ho⟩ := bd_some ho
  refine bkV C0.1 hW (runVX (As := []) (rest := []) C0 hW (c_x8_forget l _ q2 (t' := q4) hc5) cb_X11_X8_forget_144 8 8 rfl rfl rfl rfl rfl ⟨rfl, rfl⟩ ⟨Nat.le_of_ble_eq_true rfl, Nat.le_of_ble_eq_true rfl⟩ (Nat.le_of_ble_eq_true rfl) hl.1 dX11_clear_19 ⟨Nat.le_of_ble_eq_true rfl, Nat.le_of_ble_eq_true rfl⟩) (fun H locs hW => ?_)
  refine lv_aload_n hx hb dX11_clear_22 rfl (lv_at hl 1 rfl) ?_
  refine xGET_1104 C0 kw_595 hW dX11_clear_23 ?_
  obtain ⟨q6, hc7, ho⟩ := bd_some ho
  refine bkV C0.1 hW (runVX (As := []) (rest := []) C0 hW (c_x10_forget l _ q4 (t' := q6) hc7) cb_X11_X10_forget_145 10 10 rfl rfl rfl rfl rfl ⟨rfl, rfl⟩ ⟨Nat.le_of_ble_eq_true rfl, Nat.le_of_ble_eq_true rfl⟩ (Nat.le_of_ble_eq_true rfl) hl.1 dX11_clear_26 ⟨Nat.le_of_ble_eq_true rfl, Nat.le_of_ble_eq_true rfl⟩) (fun H locs hW => ?_)
  refine lv_aload_n hx hb dX11_clear_29 rfl (lv_at hl 1 rfl) ?_
  refine xGET_1106 C0 kw_597 hW dX11_clear_30 ?_
  obtain ⟨q8, hc9, ho⟩ := bd_some ho
  refine bkV C0.1 hW (runVX (As := []) (rest := []) C0 hW (c_x0_forget l _ q6 (t' := q8) hc9) cb_X11_X0_forget_146 0 0 rfl rfl rfl rfl rfl ⟨rfl, rfl⟩ ⟨Nat.le_of_ble_eq_true rfl, Nat.le_of_ble_eq_true rfl⟩ (Nat.le_of_ble_eq_true rfl) hl.1 dX11_clear_33 ⟨Nat.le_of_ble_eq_true rfl, Nat.le_of_ble_eq_true rfl⟩) (fun H locs hW => ?_)
  refine lv_aload_n hx hb dX11_clear_36 rfl (lv_at hl 1 rfl) ?_
  refine xGET_1107 C0 kw_598 hW dX11_clear_37 ?_
  obtain ⟨q10, hc11, ho⟩ := bd_some ho
  refine bkV C0.1 hW (runVX (As := []) (rest := []) C0 hW (c_x4_forgetFront l _ q8 (t' := q10) hc11) cb_X11_X4_forgetFront_110 4 4 rfl rfl rfl rfl rfl ⟨rfl, rfl⟩ ⟨Nat.le_of_ble_eq_true rfl, Nat.le_of_ble_eq_true rfl⟩ (Nat.le_of_ble_eq_true rfl) hl.1 dX11_clear_40 ⟨Nat.le_of_ble_eq_true rfl, Nat.le_of_ble_eq_true rfl⟩) (fun H locs hW => ?_)
  refine lv_iload_n hx hb dX11_clear_43 rfl (lv_at hl 0 rfl) ?_
  cases ho
  exact rtI C0.1 hW dX11_clear_44
noncomputable def x11_knot (t : St) (a1 : Int32) (a2 : Int32) : Option (Int32) :=
  (x11_noNet t a1).bind (fun q1 => if q1 = 0 then ((x11_outside t a2 (0 : Int32) (4 : Int32)).bind (fun q5 => if q5 = 0 then (gd a1 (gN t 602) (nm (gA t 602 (a1).toNatClampNeg) (fun x10 : Int32 => if 0 ≤ x10 then (if a2 = (0 : Int32) then (some x10) else if a2 = (1 : Int32) then (gd x10 (gN t 603) (some (gA t 603 (x10).toNatClampNeg))) else if a2 = (2 : Int32) then (gd x10 (gN t 604) (some (gA t 604 (x10).toNatClampNeg))) else if a2 = (3 : Int32) then (gd x10 (gN t 605) (some (gA t 605 (x10).toNatClampNeg))) else (gd x10 (gN t 607) (some (gA t 607 (x10).toNatClampNeg)))) else (some (-3 : Int32))))) else (some (-2 : Int32)))) else (some (-2 : Int32)))
set_option maxHeartbeats 4000000 in
set_option maxRecDepth 100000 in
theorem c_x11_knot (l : Launch) {D : va_G} {cI cJ cZ cR : ClassId} {am gm : Nat → Nat} {st : Nat} (sz : Nat) (t : St) (a1 : Int32) (a2 : Int32) {r : Int32} (ho : x11_knot t a1 a2 = some r) : Met l yX11_knot (.code yX11_knot cX11_knot 4 (some .int) :: wsAll) (rmN 2 42) (va_Pc [.ref (am 1011), .int a1, .int a2] (prX D (tyX cI cJ cZ cR) (wX cI cJ cZ cR am gm t) sz st)) (qI r D (tyX cI cJ cZ cR) (wX cI cJ cZ cR am gm t) (va_A (wX cI cJ cZ cR am gm t) sz)) 0 0 (va_A (wX cI cJ cZ cR am gm t) sz) := by
  refine Met.ofW (cc := cX11_knot) (maxL := 4) (ret := (some .int)) (by decide) rfl ?_
  intro p e s m args below meth c s₁ B hml hv
  obtain ⟨rfl, ⟨hsz, hP, hK, hD0⟩, hsx⟩ := hv
  have hx := B.exec
  have hb := B.bytes
  have hts := atoms_spec (ws := (.code yX11_knot cX11_knot 4 (some .int) :: wsAll)) B.pre
  have hta := fun w h => hts w (List.mem_cons_of_mem _ h)
  have hown : s.vm.findClass RX11 = some m.cls := findClass_of_methodNamed B.named
  have hlocks := B.notSynchronized
  subst hsz
  have hD := hD0.self (sz := s.heap.size)
  generalize hAe : va_A (wX cI cJ cZ cR am gm t) s.heap.size = A at hD ⊢
  have hA : ∀ q : Nat, s.heap.size ≤ q → A q := fun q h => by rw [← hAe]; exact Or.inr h
  have C0 : cxX p s m ([.ref (am 1011), .int a1, .int a2].toArray) meth c cX11_knot RX11 4 (some .int) D (tyX cI cJ cZ cR) st A := ⟨⟨hx, hb, B.returns, hml, hown, hta, hlocks, hK, hA⟩, by rw [← hAe]; exact hsx⟩
  have hW : wl D A s (wX cI cJ cZ cR am gm t) s.heap [] := ⟨hP, hD, va_S.rf⟩
  have hl := lv_entry [.ref (am 1011), .int a1, .int a2] (n := 4) (Nat.le_of_ble_eq_true rfl)
  rw [lg_entry_eq]
  generalize (lg_sl [.ref (am 1011), .int a1, .int a2] ++ List.replicate (4 - (lg_sl [.ref (am 1011), .int a1, .int a2]).length) Slot.unset).toArray = ls at hl ⊢
  have hl : lv_has ls 4 [(0, .ref (am 1011)), (1, .int a1), (2, .int a2)] := hl
  unfold x11_knot at ho
  refine lv_iload_n hx hb dX11_knot_0 rfl (lv_at hl 1 rfl) ?_
  obtain ⟨q1, hc2, ho⟩ := bd_some ho
  refine bkZ C0.1 hW (runSX (As := [.int a1]) (rest := []) C0 hW (c_x11_noNet l _ t a1 (r := q1) hc2) cb_X11_X11_noNet_124 rfl rfl ⟨rfl, rfl⟩ ⟨Nat.le_of_ble_eq_true rfl, Nat.le_of_ble_eq_true rfl⟩ (Nat.le_of_ble_eq_true rfl) hl.1 dX11_knot_1 ⟨Nat.le_of_ble_eq_true rfl, Nat.le_of_ble_eq_true rfl⟩) (fun z3 H locs hW => ?_)
  refine lv_if_ne (tgt := 16) hx hb dX11_knot_4 (by decide) (fun c4 => ?_) (fun c4 => ?_)
  · replace ho := ite_f c4 ho
    refine lv_bipush (v := (-2 : Int32)) hx hb dX11_knot_16 (by decide) ?_
    cases ho
    exact rtI C0.1 hW dX11_knot_18
  · replace ho := ite_t c4 ho
    refine lv_iload_n hx hb dX11_knot_7 rfl (lv_at hl 2 rfl) ?_
    refine lv_iconst (v := (0 : Int32)) hx hb dX11_knot_8 (by decide) ?_
    refine lv_iconst (v := (4 : Int32)) hx hb dX11_knot_9 (by decide) ?_
    obtain ⟨q5, hc6, ho⟩ := bd_some ho
    refine bkZ C0.1 hW (runSX (As := [.int a2, .int (0 : Int32), .int (4 : Int32)]) (rest := []) C0 hW (c_x11_outside l _ t a2 (0 : Int32) (4 : Int32) (r := q5) hc6) cb_X11_X11_outside_102 rfl rfl ⟨rfl, rfl⟩ ⟨Nat.le_of_ble_eq_true rfl, Nat.le_of_ble_eq_true rfl⟩ (Nat.le_of_ble_eq_true rfl) hl.1 dX11_knot_10 ⟨Nat.le_of_ble_eq_true rfl, Nat.le_of_ble_eq_true rfl⟩) (fun z7 H locs hW => ?_)
    refine lv_if_eq (tgt := 19) hx hb dX11_knot_13 (by decide) (fun c8 => ?_) (fun c8 => ?_)
    · replace ho := ite_t c8 ho
      refine lv_aload_n hx hb dX11_knot_19 rfl (lv_at hl 0 rfl) ?_
      refine xGET_1101 C0 kw_592 hW dX11_knot_20 ?_
      refine xGET_602 C0 kw_184 hW dX11_knot_23 ?_
      refine lv_iload_n hx hb dX11_knot_26 rfl (lv_at hl 1 rfl) ?_
      obtain ⟨g9, ho⟩ := gd_some ho
      refine xLD_602 C0 hW g9 dX11_knot_27 ?_
      refine lv_nmi ho (fun x10 ho => ?_)
      refine lv_istore_n (lv' := [(3, .int x10), (0, .ref (am 1011)), (1, .int a1), (2, .int a2)]) hx hb dX11_knot_28 rfl hl (by decide) rfl (fun ls hl => ?_)
      refine lv_iload_n hx hb dX11_knot_29 rfl (lv_at hl 0 rfl) ?_
      refine lv_if_ge (tgt := 36) hx hb dX11_knot_30 (by decide) (fun c11 => ?_) (fun c11 => ?_)
      · replace ho := ite_t c11 ho
        refine lv_iload_n hx hb dX11_knot_36 rfl (lv_at hl 3 rfl) ?_
        by_cases c12 : a2 = (0 : Int32)
        · replace ho := ite_t c12 ho
          refine lv_tableIn (tgt := 68) (off := 31) hx hb dX11_knot_37 (by rw [c12]; decide) (by rw [c12]; decide) (by rw [c12]; rfl) (by decide) ?_
          refine lv_iload_n hx hb dX11_knot_68 rfl (lv_at hl 0 rfl) ?_
          cases ho
          exact rtI C0.1 hW dX11_knot_69
        replace ho := ite_f c12 ho
        by_cases c13 : a2 = (1 : Int32)
        · replace ho := ite_t c13 ho
          refine lv_tableIn (tgt := 70) (off := 33) hx hb dX11_knot_37 (by rw [c13]; decide) (by rw [c13]; decide) (by rw [c13]; rfl) (by decide) ?_
          refine lv_aload_n hx hb dX11_knot_70 rfl (lv_at hl 1 rfl) ?_
          refine xGET_1101 C0 kw_592 hW dX11_knot_71 ?_
          refine xGET_603 C0 kw_189 hW dX11_knot_74 ?_
          refine lv_iload_n hx hb dX11_knot_77 rfl (lv_at hl 0 rfl) ?_
          obtain ⟨g14, ho⟩ := gd_some ho
          refine xLD_603 C0 hW g14 dX11_knot_78 ?_
          cases ho
          exact rtI C0.1 hW dX11_knot_79
        replace ho := ite_f c13 ho
        by_cases c15 : a2 = (2 : Int32)
        · replace ho := ite_t c15 ho
          refine lv_tableIn (tgt := 80) (off := 43) hx hb dX11_knot_37 (by rw [c15]; decide) (by rw [c15]; decide) (by rw [c15]; rfl) (by decide) ?_
          refine lv_aload_n hx hb dX11_knot_80 rfl (lv_at hl 1 rfl) ?_
          refine xGET_1101 C0 kw_592 hW dX11_knot_81 ?_
          refine xGET_604 C0 kw_193 hW dX11_knot_84 ?_
          refine lv_iload_n hx hb dX11_knot_87 rfl (lv_at hl 0 rfl) ?_
          obtain ⟨g16, ho⟩ := gd_some ho
          refine xLD_604 C0 hW g16 dX11_knot_88 ?_
          cases ho
          exact rtI C0.1 hW dX11_knot_89
        replace ho := ite_f c15 ho
        by_cases c17 : a2 = (3 : Int32)
        · replace ho := ite_t c17 ho
          refine lv_tableIn (tgt := 90) (off := 53) hx hb dX11_knot_37 (by rw [c17]; decide) (by rw [c17]; decide) (by rw [c17]; rfl) (by decide) ?_
          refine lv_aload_n hx hb dX11_knot_90 rfl (lv_at hl 1 rfl) ?_
          refine xGET_1101 C0 kw_592 hW dX11_knot_91 ?_
          refine xGET_605 C0 kw_195 hW dX11_knot_94 ?_
          refine lv_iload_n hx hb dX11_knot_97 rfl (lv_at hl 0 rfl) ?_
          obtain ⟨g18, ho⟩ := gd_some ho
          refine xLD_605 C0 hW g18 dX11_knot_98 ?_
          cases ho
          exact rtI C0.1 hW dX11_knot_99
        replace ho := ite_f c17 ho
        refine lv_tableOut (tgt := 100) hx hb dX11_knot_37 (tsw_3 c12 c13 c15 c17) (by decide) ?_
        refine lv_aload_n hx hb dX11_knot_100 rfl (lv_at hl 1 rfl) ?_
        refine xGET_1101 C0 kw_592 hW dX11_knot_101 ?_
        refine xGET_607 C0 kw_201 hW dX11_knot_104 ?_
        refine lv_iload_n hx hb dX11_knot_107 rfl (lv_at hl 0 rfl) ?_
        obtain ⟨g19, ho⟩ := gd_some ho
        refine xLD_607 C0 hW g19 dX11_knot_108 ?_
        cases ho
        exact rtI C0.1 hW dX11_knot_109
      · replace ho := ite_f c11 ho
        refine lv_bipush (v := (-3 : Int32)) hx hb dX11_knot_33 (by decide) ?_
        cases ho
        exact rtI C0.1 hW dX11_knot_35
    · replace ho := ite_f c8 ho
      refine lv_bipush (v := (-2 : Int32)) hx hb dX11_knot_16 (by decide) ?_
      cases ho
      exact rtI C0.1 hW dX11_knot_18
noncomputable def x6_partOf (t : St) (a1 : Int32) (a2 : Int32) : Option (Int32) :=
  gd a1 (gN t 606) (gd ((gA t 606 (a1).toNatClampNeg) + a2) (gN t 608) (some (gA t 608 (((gA t 606 (a1).toNatClampNeg) + a2)).toNatClampNeg)))
set_option maxHeartbeats 4000000 in
set_option maxRecDepth 100000 in
theorem c_x6_partOf (l : Launch) {D : va_G} {cI cJ cZ cR : ClassId} {am gm : Nat → Nat} {st : Nat} (sz : Nat) (t : St) (a1 : Int32) (a2 : Int32) {r : Int32} (ho : x6_partOf t a1 a2 = some r) : Met l yX6_partOf (.code yX6_partOf cX6_partOf 3 (some .int) :: wsAll) (rmN 0 0) (va_Pc [.ref (am 1006), .int a1, .int a2] (prX D (tyX cI cJ cZ cR) (wX cI cJ cZ cR am gm t) sz st)) (qI r D (tyX cI cJ cZ cR) (wX cI cJ cZ cR am gm t) (va_A (wX cI cJ cZ cR am gm t) sz)) 0 0 (va_A (wX cI cJ cZ cR am gm t) sz) := by
  refine Met.ofW (cc := cX6_partOf) (maxL := 3) (ret := (some .int)) (by decide) rfl ?_
  intro p e s m args below meth c s₁ B hml hv
  obtain ⟨rfl, ⟨hsz, hP, hK, hD0⟩, hsx⟩ := hv
  have hx := B.exec
  have hb := B.bytes
  have hts := atoms_spec (ws := (.code yX6_partOf cX6_partOf 3 (some .int) :: wsAll)) B.pre
  have hta := fun w h => hts w (List.mem_cons_of_mem _ h)
  have hown : s.vm.findClass RX6 = some m.cls := findClass_of_methodNamed B.named
  have hlocks := B.notSynchronized
  subst hsz
  have hD := hD0.self (sz := s.heap.size)
  generalize hAe : va_A (wX cI cJ cZ cR am gm t) s.heap.size = A at hD ⊢
  have hA : ∀ q : Nat, s.heap.size ≤ q → A q := fun q h => by rw [← hAe]; exact Or.inr h
  have C0 : cxX p s m ([.ref (am 1006), .int a1, .int a2].toArray) meth c cX6_partOf RX6 3 (some .int) D (tyX cI cJ cZ cR) st A := ⟨⟨hx, hb, B.returns, hml, hown, hta, hlocks, hK, hA⟩, by rw [← hAe]; exact hsx⟩
  have hW : wl D A s (wX cI cJ cZ cR am gm t) s.heap [] := ⟨hP, hD, va_S.rf⟩
  have hl := lv_entry [.ref (am 1006), .int a1, .int a2] (n := 3) (Nat.le_of_ble_eq_true rfl)
  rw [lg_entry_eq]
  generalize (lg_sl [.ref (am 1006), .int a1, .int a2] ++ List.replicate (3 - (lg_sl [.ref (am 1006), .int a1, .int a2]).length) Slot.unset).toArray = ls at hl ⊢
  have hl : lv_has ls 3 [(0, .ref (am 1006)), (1, .int a1), (2, .int a2)] := hl
  unfold x6_partOf at ho
  refine lv_aload_n hx hb dX6_partOf_0 rfl (lv_at hl 0 rfl) ?_
  refine xGET_608 C0 kw_202 hW dX6_partOf_1 ?_
  refine lv_aload_n hx hb dX6_partOf_4 rfl (lv_at hl 0 rfl) ?_
  refine xGET_606 C0 kw_198 hW dX6_partOf_5 ?_
  refine lv_iload_n hx hb dX6_partOf_8 rfl (lv_at hl 1 rfl) ?_
  obtain ⟨g1, ho⟩ := gd_some ho
  refine xLD_606 C0 hW g1 dX6_partOf_9 ?_
  refine lv_iload_n hx hb dX6_partOf_10 rfl (lv_at hl 2 rfl) ?_
  refine lv_iadd hx hb dX6_partOf_11 ?_
  obtain ⟨g2, ho⟩ := gd_some ho
  refine xLD_608 C0 hW g2 dX6_partOf_12 ?_
  cases ho
  exact rtI C0.1 hW dX6_partOf_13
noncomputable def x11_part (t : St) (a1 : Int32) (a2 : Int32) : Option (Int32) :=
  (x11_outside t a1 (0 : Int32) ((gI t 609) - (1 : Int32))).bind (fun q1 => if q1 = 0 then (if 0 ≤ a2 then (gd a1 (gN t 603) (if (gA t 603 (a1).toNatClampNeg) = 0 then (some (-1 : Int32)) else (gd a1 (gN t 604) (if a2 < (gA t 604 (a1).toNatClampNeg) then ((x6_partOf t a1 a2).bind (fun q10 => some q10)) else (some (-1 : Int32)))))) else (some (-2 : Int32))) else (some (-2 : Int32)))
set_option maxHeartbeats 4000000 in
set_option maxRecDepth 100000 in
theorem c_x11_part (l : Launch) {D : va_G} {cI cJ cZ cR : ClassId} {am gm : Nat → Nat} {st : Nat} (sz : Nat) (t : St) (a1 : Int32) (a2 : Int32) {r : Int32} (ho : x11_part t a1 a2 = some r) : Met l yX11_part (.code yX11_part cX11_part 3 (some .int) :: wsAll) (rmN 1 22) (va_Pc [.ref (am 1011), .int a1, .int a2] (prX D (tyX cI cJ cZ cR) (wX cI cJ cZ cR am gm t) sz st)) (qI r D (tyX cI cJ cZ cR) (wX cI cJ cZ cR am gm t) (va_A (wX cI cJ cZ cR am gm t) sz)) 0 0 (va_A (wX cI cJ cZ cR am gm t) sz) := by
  refine Met.ofW (cc := cX11_part) (maxL := 3) (ret := (some .int)) (by decide) rfl ?_
  intro p e s m args below meth c s₁ B hml hv
  obtain ⟨rfl, ⟨hsz, hP, hK, hD0⟩, hsx⟩ := hv
  have hx := B.exec
  have hb := B.bytes
  have hts := atoms_spec (ws := (.code yX11_part cX11_part 3 (some .int) :: wsAll)) B.pre
  have hta := fun w h => hts w (List.mem_cons_of_mem _ h)
  have hown : s.vm.findClass RX11 = some m.cls := findClass_of_methodNamed B.named
  have hlocks := B.notSynchronized
  subst hsz
  have hD := hD0.self (sz := s.heap.size)
  generalize hAe : va_A (wX cI cJ cZ cR am gm t) s.heap.size = A at hD ⊢
  have hA : ∀ q : Nat, s.heap.size ≤ q → A q := fun q h => by rw [← hAe]; exact Or.inr h
  have C0 : cxX p s m ([.ref (am 1011), .int a1, .int a2].toArray) meth c cX11_part RX11 3 (some .int) D (tyX cI cJ cZ cR) st A := ⟨⟨hx, hb, B.returns, hml, hown, hta, hlocks, hK, hA⟩, by rw [← hAe]; exact hsx⟩
  have hW : wl D A s (wX cI cJ cZ cR am gm t) s.heap [] := ⟨hP, hD, va_S.rf⟩
  have hl := lv_entry [.ref (am 1011), .int a1, .int a2] (n := 3) (Nat.le_of_ble_eq_true rfl)
  rw [lg_entry_eq]
  generalize (lg_sl [.ref (am 1011), .int a1, .int a2] ++ List.replicate (3 - (lg_sl [.ref (am 1011), .int a1, .int a2]).length) Slot.unset).toArray = ls at hl ⊢
  have hl : lv_has ls 3 [(0, .ref (am 1011)), (1, .int a1), (2, .int a2)] := hl
  unfold x11_part at ho
  refine lv_iload_n hx hb dX11_part_0 rfl (lv_at hl 1 rfl) ?_
  refine lv_iconst (v := (0 : Int32)) hx hb dX11_part_1 (by decide) ?_
  refine lv_aload_n hx hb dX11_part_2 rfl (lv_at hl 0 rfl) ?_
  refine xGET_1101 C0 kw_592 hW dX11_part_3 ?_
  refine xGET_609 C0 kw_205 hW dX11_part_6 ?_
  refine lv_iconst (v := (1 : Int32)) hx hb dX11_part_9 (by decide) ?_
  refine lv_isub hx hb dX11_part_10 ?_
  obtain ⟨q1, hc2, ho⟩ := bd_some ho
  refine bkZ C0.1 hW (runSX (As := [.int a1, .int (0 : Int32), .int ((gI t 609) - (1 : Int32))]) (rest := []) C0 hW (c_x11_outside l _ t a1 (0 : Int32) ((gI t 609) - (1 : Int32)) (r := q1) hc2) cb_X11_X11_outside_102 rfl rfl ⟨rfl, rfl⟩ ⟨Nat.le_of_ble_eq_true rfl, Nat.le_of_ble_eq_true rfl⟩ (Nat.le_of_ble_eq_true rfl) hl.1 dX11_part_11 ⟨Nat.le_of_ble_eq_true rfl, Nat.le_of_ble_eq_true rfl⟩) (fun z3 H locs hW => ?_)
  refine lv_if_ne (tgt := 21) hx hb dX11_part_14 (by decide) (fun c4 => ?_) (fun c4 => ?_)
  · replace ho := ite_f c4 ho
    refine lv_bipush (v := (-2 : Int32)) hx hb dX11_part_21 (by decide) ?_
    cases ho
    exact rtI C0.1 hW dX11_part_23
  · replace ho := ite_t c4 ho
    refine lv_iload_n hx hb dX11_part_17 rfl (lv_at hl 2 rfl) ?_
    refine lv_if_ge (tgt := 24) hx hb dX11_part_18 (by decide) (fun c5 => ?_) (fun c5 => ?_)
    · replace ho := ite_t c5 ho
      refine lv_aload_n hx hb dX11_part_24 rfl (lv_at hl 0 rfl) ?_
      refine xGET_1101 C0 kw_592 hW dX11_part_25 ?_
      refine xGET_603 C0 kw_189 hW dX11_part_28 ?_
      refine lv_iload_n hx hb dX11_part_31 rfl (lv_at hl 1 rfl) ?_
      obtain ⟨g6, ho⟩ := gd_some ho
      refine xLD_603 C0 hW g6 dX11_part_32 ?_
      refine lv_if_eq (tgt := 49) hx hb dX11_part_33 (by decide) (fun c7 => ?_) (fun c7 => ?_)
      · replace ho := ite_t c7 ho
        refine lv_iconst (v := (-1 : Int32)) hx hb dX11_part_49 (by decide) ?_
        cases ho
        exact rtI C0.1 hW dX11_part_50
      · replace ho := ite_f c7 ho
        refine lv_iload_n hx hb dX11_part_36 rfl (lv_at hl 2 rfl) ?_
        refine lv_aload_n hx hb dX11_part_37 rfl (lv_at hl 0 rfl) ?_
        refine xGET_1101 C0 kw_592 hW dX11_part_38 ?_
        refine xGET_604 C0 kw_193 hW dX11_part_41 ?_
        refine lv_iload_n hx hb dX11_part_44 rfl (lv_at hl 1 rfl) ?_
        obtain ⟨g8, ho⟩ := gd_some ho
        refine xLD_604 C0 hW g8 dX11_part_45 ?_
        refine lv_icmp_lt (tgt := 51) hx hb dX11_part_46 (by decide) (fun c9 => ?_) (fun c9 => ?_)
        · replace ho := ite_t c9 ho
          refine lv_aload_n hx hb dX11_part_51 rfl (lv_at hl 0 rfl) ?_
          refine xGET_1101 C0 kw_592 hW dX11_part_52 ?_
          refine lv_iload_n hx hb dX11_part_55 rfl (lv_at hl 1 rfl) ?_
          refine lv_iload_n hx hb dX11_part_56 rfl (lv_at hl 2 rfl) ?_
          obtain ⟨q10, hc11, ho⟩ := bd_some ho
          refine bkI C0.1 hW (runVX (As := [.int a1, .int a2]) (rest := []) C0 hW (c_x6_partOf l _ t a1 a2 (r := q10) hc11) cb_X11_X6_partOf_159 6 6 rfl rfl rfl rfl rfl ⟨rfl, rfl⟩ ⟨Nat.le_of_ble_eq_true rfl, Nat.le_of_ble_eq_true rfl⟩ (Nat.le_of_ble_eq_true rfl) hl.1 dX11_part_57 ⟨Nat.le_of_ble_eq_true rfl, Nat.le_of_ble_eq_true rfl⟩) (fun H locs hW => ?_)
          cases ho
          exact rtI C0.1 hW dX11_part_60
        · replace ho := ite_f c9 ho
          refine lv_iconst (v := (-1 : Int32)) hx hb dX11_part_49 (by decide) ?_
          cases ho
          exact rtI C0.1 hW dX11_part_50
    · replace ho := ite_f c5 ho
      refine lv_bipush (v := (-2 : Int32)) hx hb dX11_part_21 (by decide) ?_
      cases ho
      exact rtI C0.1 hW dX11_part_23
