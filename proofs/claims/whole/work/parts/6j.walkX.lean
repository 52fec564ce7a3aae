noncomputable def x1_lastMinute (t : St) : Option (Int32) :=
  if (gI t 104) = 0 then (some (0 : Int32)) else (gd ((gI t 104) - (1 : Int32)) (gN t 103) (some (gA t 103 (((gI t 104) - (1 : Int32))).toNatClampNeg)))
set_option maxHeartbeats 4000000 in
set_option maxRecDepth 100000 in
theorem c_x1_lastMinute (l : Launch) {D : va_G} {cI cJ cZ cR : ClassId} {am gm : Nat → Nat} {st : Nat} (sz : Nat) (t : St) {r : Int32} (ho : x1_lastMinute t = some r) : Met l yX1_lastMinute (.code yX1_lastMinute cX1_lastMinute 1 (some .int) :: wsAll) (rmN 0 0) (va_Pc [.ref (am 2001)] (prX D (tyX cI cJ cZ cR) (wX cI cJ cZ cR am gm t) sz st)) (qI r D (tyX cI cJ cZ cR) (wX cI cJ cZ cR am gm t) (va_A (wX cI cJ cZ cR am gm t) sz)) 0 0 (va_A (wX cI cJ cZ cR am gm t) sz) := by
  refine Met.ofW (cc := cX1_lastMinute) (maxL := 1) (ret := (some .int)) (by decide) rfl ?_
  intro p e s m args below meth c s₁ B hml hv
  obtain ⟨rfl, ⟨hsz, hP, hK, hD0⟩, hsx⟩ := hv
  have hx := B.exec
  have hb := B.bytes
  have hts := atoms_spec (ws := (.code yX1_lastMinute cX1_lastMinute 1 (some .int) :: wsAll)) B.pre
  have hta := fun w h => hts w (List.mem_cons_of_mem _ h)
  have hown : s.vm.findClass RX1 = some m.cls := findClass_of_methodNamed B.named
  have hlocks := B.notSynchronized
  subst hsz
  have hD := hD0.self (sz := s.heap.size)
  generalize hAe : va_A (wX cI cJ cZ cR am gm t) s.heap.size = A at hD ⊢
  have hA : ∀ q : Nat, s.heap.size ≤ q → A q := fun q h => by rw [← hAe]; exact Or.inr h
  have C0 : cxX p s m ([.ref (am 2001)].toArray) meth c cX1_lastMinute RX1 1 (some .int) D (tyX cI cJ cZ cR) st A := ⟨⟨hx, hb, B.returns, hml, hown, hta, hlocks, hK, hA⟩, by rw [← hAe]; exact hsx⟩
  have hW : wl D A s (wX cI cJ cZ cR am gm t) s.heap [] := ⟨hP, hD, va_S.rf⟩
  have hl := lv_entry [.ref (am 2001)] (n := 1) (Nat.le_of_ble_eq_true rfl)
  rw [lg_entry_eq]
  generalize (lg_sl [.ref (am 2001)] ++ List.replicate (1 - (lg_sl [.ref (am 2001)]).length) Slot.unset).toArray = ls at hl ⊢
  have hl : lv_has ls 1 [(0, .ref (am 2001))] := hl
  unfold x1_lastMinute at ho
  refine lv_aload_n hx hb dX1_lastMinute_0 rfl (lv_at hl 0 rfl) ?_
  refine xGET_104 C0 kw_537 hW dX1_lastMinute_1 ?_
  refine lv_if_ne (tgt := 11) hx hb dX1_lastMinute_4 (by decide) (fun c1 => ?_) (fun c1 => ?_)
  · replace ho := ite_f c1 ho
    refine lv_aload_n hx hb dX1_lastMinute_11 rfl (lv_at hl 0 rfl) ?_
    refine xGET_103 C0 kw_536 hW dX1_lastMinute_12 ?_
    refine lv_aload_n hx hb dX1_lastMinute_15 rfl (lv_at hl 0 rfl) ?_
    refine xGET_104 C0 kw_537 hW dX1_lastMinute_16 ?_
    refine lv_iconst (v := (1 : Int32)) hx hb dX1_lastMinute_19 (by decide) ?_
    refine lv_isub hx hb dX1_lastMinute_20 ?_
    obtain ⟨g2, ho⟩ := gd_some ho
    refine xLD_103 C0 hW g2 dX1_lastMinute_21 ?_
    cases ho
    exact rtI C0.1 hW dX1_lastMinute_22
  · replace ho := ite_t c1 ho
    refine lv_iconst (v := (0 : Int32)) hx hb dX1_lastMinute_7 (by decide) ?_
    refine lv_goto (tgt := 22) hx hb dX1_lastMinute_8 (by decide) ?_
    cases ho
    exact rtI C0.1 hW dX1_lastMinute_22
noncomputable def x1_append (t : St) (a1 : Int32) (a2 : Int32) : Option (Int32 × St) :=
  if (gI t 104) < (40 : Int32) then (gd (gI t 104) (gN t 102) (nm (sA t 102 (gI t 104) a1) (fun t3 : St => gd (gI t3 104) (gN t3 103) (nm (sA t3 103 (gI t3 104) a2) (fun t5 : St => nm (sI t5 104 ((gI t5 104) + (1 : Int32))) (fun t6 : St => some ((1 : Int32), t6))))))) else (some ((0 : Int32), t))
theorem mm_x1_append (t : St) (a1 : Int32) (a2 : Int32) : MR (x1_append t a1 a2) t (fun (a : Int32 × St) => a.2) := by
  unfold x1_append
  exact MR_ite (MR_gd (MR_nmS mle_sA (fun t3 ht3 => MR_gd (MR_nmS mle_sA (fun t5 ht5 => MR_nmS mle_sI (fun t6 ht6 => MR_some (mle.trans (mle.trans ht3 ht5) ht6))))))) (MR_some mle.rfl)
set_option maxHeartbeats 4000000 in
set_option maxRecDepth 100000 in
theorem c_x1_append (l : Launch) {D : va_G} {cI cJ cZ cR : ClassId} {am gm : Nat → Nat} {st : Nat} (sz : Nat) (t : St) (a1 : Int32) (a2 : Int32) {r : Int32} {t' : St} (ho : x1_append t a1 a2 = some (r, t')) : Met l yX1_append (.code yX1_append cX1_append 3 (some .boolean) :: wsAll) (rmN 0 0) (va_Pc [.ref (am 2001), .int a1, .int a2] (prX D (tyX cI cJ cZ cR) (wX cI cJ cZ cR am gm t) sz st)) (qZ r D (tyX cI cJ cZ cR) (wX cI cJ cZ cR am gm t') (va_A (wX cI cJ cZ cR am gm t) sz)) 0 0 (va_A (wX cI cJ cZ cR am gm t) sz) := by
  refine Met.ofW (cc := cX1_append) (maxL := 3) (ret := (some .boolean)) (by decide) rfl ?_
  intro p e s m args below meth c s₁ B hml hv
  obtain ⟨rfl, ⟨hsz, hP, hK, hD0⟩, hsx⟩ := hv
  have hx := B.exec
  have hb := B.bytes
  have hts := atoms_spec (ws := (.code yX1_append cX1_append 3 (some .boolean) :: wsAll)) B.pre
  have hta := fun w h => hts w (List.mem_cons_of_mem _ h)
  have hown : s.vm.findClass RX1 = some m.cls := findClass_of_methodNamed B.named
  have hlocks := B.notSynchronized
  subst hsz
  have hD := hD0.self (sz := s.heap.size)
  generalize hAe : va_A (wX cI cJ cZ cR am gm t) s.heap.size = A at hD ⊢
  have hA : ∀ q : Nat, s.heap.size ≤ q → A q := fun q h => by rw [← hAe]; exact Or.inr h
  have C0 : cxX p s m ([.ref (am 2001), .int a1, .int a2].toArray) meth c cX1_append RX1 3 (some .boolean) D (tyX cI cJ cZ cR) st A := ⟨⟨hx, hb, B.returns, hml, hown, hta, hlocks, hK, hA⟩, by rw [← hAe]; exact hsx⟩
  have hW : wl D A s (wX cI cJ cZ cR am gm t) s.heap [] := ⟨hP, hD, va_S.rf⟩
  have hl := lv_entry [.ref (am 2001), .int a1, .int a2] (n := 3) (Nat.le_of_ble_eq_true rfl)
  rw [lg_entry_eq]
  generalize (lg_sl [.ref (am 2001), .int a1, .int a2] ++ List.replicate (3 - (lg_sl [.ref (am 2001), .int a1, .int a2]).length) Slot.unset).toArray = ls at hl ⊢
  have hl : lv_has ls 3 [(0, .ref (am 2001)), (1, .int a1), (2, .int a2)] := hl
  unfold x1_append at ho
  refine lv_aload_n hx hb dX1_append_0 rfl (lv_at hl 0 rfl) ?_
  refine xGET_104 C0 kw_537 hW dX1_append_1 ?_
  refine lv_bipush (v := (40 : Int32)) hx hb dX1_append_4 (by decide) ?_
  refine lv_icmp_lt (tgt := 11) hx hb dX1_append_6 (by decide) (fun c1 => ?_) (fun c1 => ?_)
  · replace ho := ite_t c1 ho
    refine lv_aload_n hx hb dX1_append_11 rfl (lv_at hl 0 rfl) ?_
    refine xGET_102 C0 kw_535 hW dX1_append_12 ?_
    refine lv_aload_n hx hb dX1_append_15 rfl (lv_at hl 0 rfl) ?_
    refine xGET_104 C0 kw_537 hW dX1_append_16 ?_
    refine lv_iload_n hx hb dX1_append_19 rfl (lv_at hl 1 rfl) ?_
    obtain ⟨g2, ho⟩ := gd_some ho
    refine xST_102 C0 hW g2 dX1_append_20 (fun H locs hW => ?_)
    obtain ⟨t3, ho, hW⟩ := nm_w (P := fun t => wl D A s (wX cI cJ cZ cR am gm t) H locs) ho hW
    refine lv_aload_n hx hb dX1_append_21 rfl (lv_at hl 0 rfl) ?_
    refine xGET_103 C0 kw_536 hW dX1_append_22 ?_
    refine lv_aload_n hx hb dX1_append_25 rfl (lv_at hl 0 rfl) ?_
    refine xGET_104 C0 kw_537 hW dX1_append_26 ?_
    refine lv_iload_n hx hb dX1_append_29 rfl (lv_at hl 2 rfl) ?_
    obtain ⟨g4, ho⟩ := gd_some ho
    refine xST_103 C0 hW g4 dX1_append_30 (fun H locs hW => ?_)
    obtain ⟨t5, ho, hW⟩ := nm_w (P := fun t => wl D A s (wX cI cJ cZ cR am gm t) H locs) ho hW
    refine lv_aload_n hx hb dX1_append_31 rfl (lv_at hl 0 rfl) ?_
    refine lv_dup hx hb dX1_append_32 rfl ?_
    refine xGET_104 C0 kw_537 hW dX1_append_33 ?_
    refine lv_iconst (v := (1 : Int32)) hx hb dX1_append_36 (by decide) ?_
    refine lv_iadd hx hb dX1_append_37 ?_
    refine xPUT_104 C0 kw_537 hW dX1_append_38 (fun H locs hW => ?_)
    obtain ⟨t6, ho, hW⟩ := nm_w (P := fun t => wl D A s (wX cI cJ cZ cR am gm t) H locs) ho hW
    refine lv_iconst (v := (1 : Int32)) hx hb dX1_append_41 (by decide) ?_
    cases ho
    exact rtZ C0.1 hW (Or.inr (rfl : (1 : Int32) = 1)) dX1_append_42
  · replace ho := ite_f c1 ho
    refine lv_iconst (v := (0 : Int32)) hx hb dX1_append_9 (by decide) ?_
    cases ho
    exact rtZ C0.1 hW (Or.inl (rfl : (0 : Int32) = 0)) dX1_append_10
noncomputable def x11_event (t : St) (a1 : Int32) (a2 : Int32) : Option (Int32 × St) :=
  (x11_noStep t a1).bind (fun q1 => if q1 = 0 then ((x1_lastMinute t).bind (fun q5 => (x11_outside t a2 q5 (10000 : Int32)).bind (fun q7 => if q7 = 0 then ((x1_append t a1 a2).bind (fun q11 => if q11.1 = 0 then (some ((-4 : Int32), q11.2)) else (some ((gI q11.2 104), q11.2)))) else (some ((-2 : Int32), t))))) else (some ((-2 : Int32), t)))
theorem mm_x11_event (t : St) (a1 : Int32) (a2 : Int32) : MR (x11_event t a1 a2) t (fun (a : Int32 × St) => a.2) := by
  unfold x11_event
  exact MR_bindn (fun q1 => MR_ite (MR_bindn (fun q5 => MR_bindn (fun q7 => MR_ite (MR_bind (mm_x1_append t a1 a2) (fun q11 hq11 => MR_ite (MR_some hq11) (MR_some hq11))) (MR_some mle.rfl)))) (MR_some mle.rfl))
set_option maxHeartbeats 4000000 in
set_option maxRecDepth 100000 in
theorem c_x11_event (l : Launch) {D : va_G} {cI cJ cZ cR : ClassId} {am gm : Nat → Nat} {st : Nat} (sz : Nat) (t : St) (a1 : Int32) (a2 : Int32) {r : Int32} {t' : St} (ho : x11_event t a1 a2 = some (r, t')) : Met l yX11_event (.code yX11_event cX11_event 3 (some .int) :: wsAll) (rmN 2 42) (va_Pc [.ref (am 2011), .int a1, .int a2] (prX D (tyX cI cJ cZ cR) (wX cI cJ cZ cR am gm t) sz st)) (qI r D (tyX cI cJ cZ cR) (wX cI cJ cZ cR am gm t') (va_A (wX cI cJ cZ cR am gm t) sz)) 0 0 (va_A (wX cI cJ cZ cR am gm t) sz) := by
  refine Met.ofW (cc := cX11_event) (maxL := 3) (ret := (some .int)) (by decide) rfl ?_
  intro p e s m args below meth c s₁ B hml hv
  obtain ⟨rfl, ⟨hsz, hP, hK, hD0⟩, hsx⟩ := hv
  have hx := B.exec
  have hb := B.bytes
  have hts := atoms_spec (ws := (.code yX11_event cX11_event 3 (some .int) :: wsAll)) B.pre
  have hta := fun w h => hts w (List.mem_cons_of_mem _ h)
  have hown : s.vm.findClass RX11 = some m.cls := findClass_of_methodNamed B.named
  have hlocks := B.notSynchronized
  subst hsz
  have hD := hD0.self (sz := s.heap.size)
  generalize hAe : va_A (wX cI cJ cZ cR am gm t) s.heap.size = A at hD ⊢
  have hA : ∀ q : Nat, s.heap.size ≤ q → A q := fun q h => by rw [← hAe]; exact Or.inr h
  have C0 : cxX p s m ([.ref (am 2011), .int a1, .int a2].toArray) meth c cX11_event RX11 3 (some .int) D (tyX cI cJ cZ cR) st A := ⟨⟨hx, hb, B.returns, hml, hown, hta, hlocks, hK, hA⟩, by rw [← hAe]; exact hsx⟩
  have hW : wl D A s (wX cI cJ cZ cR am gm t) s.heap [] := ⟨hP, hD, va_S.rf⟩
  have hl := lv_entry [.ref (am 2011), .int a1, .int a2] (n := 3) (Nat.le_of_ble_eq_true rfl)
  rw [lg_entry_eq]
  generalize (lg_sl [.ref (am 2011), .int a1, .int a2] ++ List.replicate (3 - (lg_sl [.ref (am 2011), .int a1, .int a2]).length) Slot.unset).toArray = ls at hl ⊢
  have hl : lv_has ls 3 [(0, .ref (am 2011)), (1, .int a1), (2, .int a2)] := hl
  unfold x11_event at ho
  refine lv_iload_n hx hb dX11_event_0 rfl (lv_at hl 1 rfl) ?_
  obtain ⟨q1, hc2, ho⟩ := bd_some ho
  refine bkZ C0.1 hW (runSX (As := [.int a1]) (rest := []) C0 hW (c_x11_noStep l _ t a1 (r := q1) hc2) cb_X11_X11_noStep_98 rfl rfl ⟨rfl, rfl⟩ ⟨Nat.le_of_ble_eq_true rfl, Nat.le_of_ble_eq_true rfl⟩ (Nat.le_of_ble_eq_true rfl) hl.1 dX11_event_1 ⟨Nat.le_of_ble_eq_true rfl, Nat.le_of_ble_eq_true rfl⟩) (fun z3 H locs hW => ?_)
  refine lv_if_ne (tgt := 24) hx hb dX11_event_4 (by decide) (fun c4 => ?_) (fun c4 => ?_)
  · replace ho := ite_f c4 ho
    refine lv_bipush (v := (-2 : Int32)) hx hb dX11_event_24 (by decide) ?_
    cases ho
    exact rtI C0.1 hW dX11_event_26
  · replace ho := ite_t c4 ho
    refine lv_iload_n hx hb dX11_event_7 rfl (lv_at hl 2 rfl) ?_
    refine lv_aload_n hx hb dX11_event_8 rfl (lv_at hl 0 rfl) ?_
    refine xGET_1109 C0 kw_600 hW dX11_event_9 ?_
    obtain ⟨q5, hc6, ho⟩ := bd_some ho
    refine bkI C0.1 hW (runVX (As := []) (rest := [.int a2]) C0 hW (c_x1_lastMinute l _ t (r := q5) hc6) cb_X11_X1_lastMinute_324 1 1 rfl rfl rfl rfl rfl ⟨rfl, rfl⟩ ⟨Nat.le_of_ble_eq_true rfl, Nat.le_of_ble_eq_true rfl⟩ (Nat.le_of_ble_eq_true rfl) hl.1 dX11_event_12 ⟨Nat.le_of_ble_eq_true rfl, Nat.le_of_ble_eq_true rfl⟩) (fun H locs hW => ?_)
    refine lv_sipush (v := (10000 : Int32)) hx hb dX11_event_15 (by decide) ?_
    obtain ⟨q7, hc8, ho⟩ := bd_some ho
    refine bkZ C0.1 hW (runSX (As := [.int a2, .int q5, .int (10000 : Int32)]) (rest := []) C0 hW (c_x11_outside l _ t a2 q5 (10000 : Int32) (r := q7) hc8) cb_X11_X11_outside_102 rfl rfl ⟨rfl, rfl⟩ ⟨Nat.le_of_ble_eq_true rfl, Nat.le_of_ble_eq_true rfl⟩ (Nat.le_of_ble_eq_true rfl) hl.1 dX11_event_18 ⟨Nat.le_of_ble_eq_true rfl, Nat.le_of_ble_eq_true rfl⟩) (fun z9 H locs hW => ?_)
    refine lv_if_eq (tgt := 27) hx hb dX11_event_21 (by decide) (fun c10 => ?_) (fun c10 => ?_)
    · replace ho := ite_t c10 ho
      refine lv_aload_n hx hb dX11_event_27 rfl (lv_at hl 0 rfl) ?_
      refine xGET_1109 C0 kw_600 hW dX11_event_28 ?_
      refine lv_iload_n hx hb dX11_event_31 rfl (lv_at hl 1 rfl) ?_
      refine lv_iload_n hx hb dX11_event_32 rfl (lv_at hl 2 rfl) ?_
      obtain ⟨q11, hc12, ho⟩ := bd_some ho
      refine bkZ C0.1 hW (runVX (As := [.int a1, .int a2]) (rest := []) C0 hW (c_x1_append l _ t a1 a2 (r := q11.1) (t' := q11.2) hc12) cb_X11_X1_append_327 1 1 rfl rfl rfl rfl rfl ⟨rfl, rfl⟩ ⟨Nat.le_of_ble_eq_true rfl, Nat.le_of_ble_eq_true rfl⟩ (Nat.le_of_ble_eq_true rfl) hl.1 dX11_event_33 ⟨Nat.le_of_ble_eq_true rfl, Nat.le_of_ble_eq_true rfl⟩) (fun z13 H locs hW => ?_)
      refine lv_if_eq (tgt := 49) hx hb dX11_event_36 (by decide) (fun c14 => ?_) (fun c14 => ?_)
      · replace ho := ite_t c14 ho
        refine lv_bipush (v := (-4 : Int32)) hx hb dX11_event_49 (by decide) ?_
        cases ho
        exact rtI C0.1 hW dX11_event_51
      · replace ho := ite_f c14 ho
        refine lv_aload_n hx hb dX11_event_39 rfl (lv_at hl 0 rfl) ?_
        refine xGET_1109 C0 kw_600 hW dX11_event_40 ?_
        refine xGET_104 C0 kw_538 hW dX11_event_43 ?_
        refine lv_goto (tgt := 51) hx hb dX11_event_46 (by decide) ?_
        cases ho
        exact rtI C0.1 hW dX11_event_51
    · replace ho := ite_f c10 ho
      refine lv_bipush (v := (-2 : Int32)) hx hb dX11_event_24 (by decide) ?_
      cases ho
      exact rtI C0.1 hW dX11_event_26
noncomputable def x11_rest (t : St) : Option (Int32 × St) :=
  nm (gI t 104) (fun x1 : Int32 => nm (sI t 104 (0 : Int32)) (fun t2 : St => some (x1, t2)))
theorem mm_x11_rest (t : St) : MR (x11_rest t) t (fun (a : Int32 × St) => a.2) := by
  unfold x11_rest
  exact MR_nm (fun x1 _ => MR_nmS mle_sI (fun t2 ht2 => MR_some ht2))
set_option maxHeartbeats 4000000 in
set_option maxRecDepth 100000 in
theorem c_x11_rest (l : Launch) {D : va_G} {cI cJ cZ cR : ClassId} {am gm : Nat → Nat} {st : Nat} (sz : Nat) (t : St) {r : Int32} {t' : St} (ho : x11_rest t = some (r, t')) : Met l yX11_rest (.code yX11_rest cX11_rest 2 (some .int) :: wsAll) (rmN 0 0) (va_Pc [.ref (am 2011)] (prX D (tyX cI cJ cZ cR) (wX cI cJ cZ cR am gm t) sz st)) (qI r D (tyX cI cJ cZ cR) (wX cI cJ cZ cR am gm t') (va_A (wX cI cJ cZ cR am gm t) sz)) 0 0 (va_A (wX cI cJ cZ cR am gm t) sz) := by
  refine Met.ofW (cc := cX11_rest) (maxL := 2) (ret := (some .int)) (by decide) rfl ?_
  intro p e s m args below meth c s₁ B hml hv
  obtain ⟨rfl, ⟨hsz, hP, hK, hD0⟩, hsx⟩ := hv
  have hx := B.exec
  have hb := B.bytes
  have hts := atoms_spec (ws := (.code yX11_rest cX11_rest 2 (some .int) :: wsAll)) B.pre
  have hta := fun w h => hts w (List.mem_cons_of_mem _ h)
  have hown : s.vm.findClass RX11 = some m.cls := findClass_of_methodNamed B.named
  have hlocks := B.notSynchronized
  subst hsz
  have hD := hD0.self (sz := s.heap.size)
  generalize hAe : va_A (wX cI cJ cZ cR am gm t) s.heap.size = A at hD ⊢
  have hA : ∀ q : Nat, s.heap.size ≤ q → A q := fun q h => by rw [← hAe]; exact Or.inr h
  have C0 : cxX p s m ([.ref (am 2011)].toArray) meth c cX11_rest RX11 2 (some .int) D (tyX cI cJ cZ cR) st A := ⟨⟨hx, hb, B.returns, hml, hown, hta, hlocks, hK, hA⟩, by rw [← hAe]; exact hsx⟩
  have hW : wl D A s (wX cI cJ cZ cR am gm t) s.heap [] := ⟨hP, hD, va_S.rf⟩
  have hl := lv_entry [.ref (am 2011)] (n := 2) (Nat.le_of_ble_eq_true rfl)
  rw [lg_entry_eq]
  generalize (lg_sl [.ref (am 2011)] ++ List.replicate (2 - (lg_sl [.ref (am 2011)]).length) Slot.unset).toArray = ls at hl ⊢
  have hl : lv_has ls 2 [(0, .ref (am 2011))] := hl
  unfold x11_rest at ho
  refine lv_aload_n hx hb dX11_rest_0 rfl (lv_at hl 0 rfl) ?_
  refine xGET_1109 C0 kw_600 hW dX11_rest_1 ?_
  refine xGET_104 C0 kw_538 hW dX11_rest_4 ?_
  refine lv_nmi ho (fun x1 ho => ?_)
  refine lv_istore_n (lv' := [(1, .int x1), (0, .ref (am 2011))]) hx hb dX11_rest_7 rfl hl (by decide) rfl (fun ls hl => ?_)
  refine lv_aload_n hx hb dX11_rest_8 rfl (lv_at hl 1 rfl) ?_
  refine xGET_1109 C0 kw_600 hW dX11_rest_9 ?_
  refine lv_iconst (v := (0 : Int32)) hx hb dX11_rest_12 (by decide) ?_
  refine xPUT_104 C0 kw_538 hW dX11_rest_13 (fun H locs hW => ?_)
  obtain ⟨t2, ho, hW⟩ := nm_w (P := fun t => wl D A s (wX cI cJ cZ cR am gm t) H locs) ho hW
  refine lv_iload_n hx hb dX11_rest_16 rfl (lv_at hl 0 rfl) ?_
  cases ho
  exact rtI C0.1 hW dX11_rest_17
noncomputable def x1_firstTooSoon_B4 (t : St) (v1 : Int32) (v2 : Int32) : Option ((Int32 × Int32) ⊕ ((Int32) ⊕ (Unit))) :=
  if (gI t 104) ≤ v2 then (some (.inr (.inr ()))) else (gd v2 (gN t 103) (gd v2 (gN t 102) ((x5_get t (gA t 102 (v2).toNatClampNeg) (1 : Int32)).bind (fun q4 => if q4 ≤ ((gA t 103 (v2).toNatClampNeg) - v1) then (gd v2 (gN t 103) (nm (gA t 103 (v2).toNatClampNeg) (fun x8 : Int32 => nm (v2 + (1 : Int32)) (fun x9 : Int32 => some (.inl (x8, x9)))))) else (some (.inr (.inl v2)))))))
noncomputable def x1_firstTooSoon (t : St) : Option (Int32) :=
  (lp (fun x => x1_firstTooSoon_B4 t x.1 x.2) ((0 : Int32), (0 : Int32))).bind (fun y10 => (Sum.elim (fun u13 => some u13) (fun u13 => some (-1 : Int32))) y10)
set_option maxHeartbeats 4000000 in
set_option maxRecDepth 100000 in
theorem x1_firstTooSoon_L4 {p : Program} {l : Launch} {e : Env} {s : State} {m : MethodId} {args : Array Value} {below : List Frame} {meth : Method} {c : Code} {Q : State → Prop} {D : va_G} {cI cJ cZ cR : ClassId} {am gm : Nat → Nat} {st : Nat} {A : Nat → Prop} (C0 : cxX p s m args meth c cX1_firstTooSoon RX1 3 (some .int) D (tyX cI cJ cZ cR) st A) {t : St} {y : (Int32) ⊕ (Unit)} (hK0 : ∀ u, y = (.inl u) → ∀ (H : Heap) (locs : List Loc) (ls : Array Slot), wl D A s (wX cI cJ cZ cR am gm t) H locs → lv_has ls 3 [(0, .ref (am 2001)), (2, .int u)] → W p l e (rmN 1 22) s m args below meth c H locs 0 0 Q (F0 m 37 ls [])) (hK1 : ∀ u, y = (.inr u) → ∀ (H : Heap) (locs : List Loc) (ls : Array Slot), wl D A s (wX cI cJ cZ cR am gm t) H locs → lv_has ls 3 [(0, .ref (am 2001))] → W p l e (rmN 1 22) s m args below meth c H locs 0 0 Q (F0 m 52 ls [])) :
    ∀ (n : Nat) (v1 : Int32) (v2 : Int32), lpn (fun x => x1_firstTooSoon_B4 t x.1 x.2) n (v1, v2) = some y → ∀ (H : Heap) (locs : List Loc) (ls : Array Slot), wl D A s (wX cI cJ cZ cR am gm t) H locs → lv_has ls 3 [(0, .ref (am 2001)), (1, .int v1), (2, .int v2)] → W p l e (rmN 1 22) s m args below meth c H locs 0 0 Q (F0 m 4 ls []) := by
  have hx := C0.1.1
  have hb := C0.1.2.1
  have hta := C0.1.2.2.2.2.2.1
  have hown := C0.1.2.2.2.2.1
  intro n
  induction n with
  | zero => intro _ _ h; cases h
  | succ n ih =>
    intro v1 v2 hrun H locs ls hW hl
    obtain ⟨o, ho, hrun⟩ := bd_some hrun
    unfold x1_firstTooSoon_B4 at ho
    refine lv_iload_n hx hb dX1_firstTooSoon_4 rfl (lv_at hl 2 rfl) ?_
    refine lv_aload_n hx hb dX1_firstTooSoon_5 rfl (lv_at hl 0 rfl) ?_
    refine xGET_104 C0 kw_537 hW dX1_firstTooSoon_6 ?_
    refine lv_icmp_ge (tgt := 52) hx hb dX1_firstTooSoon_9 (by decide) (fun c1 => ?_) (fun c1 => ?_)
    · replace ho := ite_t c1 ho
      cases ho
      cases hrun
      exact hK1 _ rfl _ _ _ hW (lv_sub hl [0] rfl)
    · replace ho := ite_f c1 ho
      refine lv_aload_n hx hb dX1_firstTooSoon_12 rfl (lv_at hl 0 rfl) ?_
      refine xGET_103 C0 kw_536 hW dX1_firstTooSoon_13 ?_
      refine lv_iload_n hx hb dX1_firstTooSoon_16 rfl (lv_at hl 2 rfl) ?_
      obtain ⟨g2, ho⟩ := gd_some ho
      refine xLD_103 C0 hW g2 dX1_firstTooSoon_17 ?_
      refine lv_iload_n hx hb dX1_firstTooSoon_18 rfl (lv_at hl 1 rfl) ?_
      refine lv_isub hx hb dX1_firstTooSoon_19 ?_
      refine lv_aload_n hx hb dX1_firstTooSoon_20 rfl (lv_at hl 0 rfl) ?_
      refine xGET_100 C0 kw_533 hW dX1_firstTooSoon_21 ?_
      refine lv_aload_n hx hb dX1_firstTooSoon_24 rfl (lv_at hl 0 rfl) ?_
      refine xGET_102 C0 kw_535 hW dX1_firstTooSoon_25 ?_
      refine lv_iload_n hx hb dX1_firstTooSoon_28 rfl (lv_at hl 2 rfl) ?_
      obtain ⟨g3, ho⟩ := gd_some ho
      refine xLD_102 C0 hW g3 dX1_firstTooSoon_29 ?_
      refine lv_iconst (v := (1 : Int32)) hx hb dX1_firstTooSoon_30 (by decide) ?_
      obtain ⟨q4, hc5, ho⟩ := bd_some ho
      refine bkI C0.1 hW (runVX (As := [.int (gA t 102 (v2).toNatClampNeg), .int (1 : Int32)]) (rest := [.int ((gA t 103 (v2).toNatClampNeg) - v1)]) C0 hW (c_x5_get l _ t (gA t 102 (v2).toNatClampNeg) (1 : Int32) (r := q4) hc5) cb_X1_X5_get_43 5 5 rfl rfl rfl rfl rfl ⟨rfl, rfl⟩ ⟨Nat.le_of_ble_eq_true rfl, Nat.le_of_ble_eq_true rfl⟩ (Nat.le_of_ble_eq_true rfl) hl.1 dX1_firstTooSoon_31 ⟨Nat.le_of_ble_eq_true rfl, Nat.le_of_ble_eq_true rfl⟩) (fun H locs hW => ?_)
      refine lv_icmp_ge (tgt := 39) hx hb dX1_firstTooSoon_34 (by decide) (fun c6 => ?_) (fun c6 => ?_)
      · replace ho := ite_t c6 ho
        refine lv_aload_n hx hb dX1_firstTooSoon_39 rfl (lv_at hl 0 rfl) ?_
        refine xGET_103 C0 kw_536 hW dX1_firstTooSoon_40 ?_
        refine lv_iload_n hx hb dX1_firstTooSoon_43 rfl (lv_at hl 2 rfl) ?_
        obtain ⟨g7, ho⟩ := gd_some ho
        refine xLD_103 C0 hW g7 dX1_firstTooSoon_44 ?_
        refine lv_nmi ho (fun x8 ho => ?_)
        refine lv_istore_n (lv' := [(1, .int x8), (0, .ref (am 2001)), (2, .int v2)]) hx hb dX1_firstTooSoon_45 rfl hl (by decide) rfl (fun ls hl => ?_)
        obtain ⟨x9, ex9, ho⟩ := nm_x ho
        refine lv_iinc (v := x9) (lv' := [(2, .int x9), (1, .int x8), (0, .ref (am 2001))]) hx hb dX1_firstTooSoon_46 hl (k := 2) rfl (by rw [ex9]; rfl) (by decide) rfl (fun ls hl => ?_)
        clear ex9
        refine lv_goto (tgt := 4) hx hb dX1_firstTooSoon_49 (by decide) ?_
        cases ho
        exact ih _ _ hrun _ _ _ hW (lv_sub hl [2, 1, 0] rfl)
      · replace ho := ite_f c6 ho
        cases ho
        cases hrun
        exact hK0 _ rfl _ _ _ hW (lv_sub hl [0, 2] rfl)
set_option maxHeartbeats 4000000 in
set_option maxRecDepth 100000 in
theorem c_x1_firstTooSoon (l : Launch) {D : va_G} {cI cJ cZ cR : ClassId} {am gm : Nat → Nat} {st : Nat} (sz : Nat) (t : St) {r : Int32} (ho : x1_firstTooSoon t = some r) : Met l yX1_firstTooSoon (.code yX1_firstTooSoon cX1_firstTooSoon 3 (some .int) :: wsAll) (rmN 1 22) (va_Pc [.ref (am 2001)] (prX D (tyX cI cJ cZ cR) (wX cI cJ cZ cR am gm t) sz st)) (qI r D (tyX cI cJ cZ cR) (wX cI cJ cZ cR am gm t) (va_A (wX cI cJ cZ cR am gm t) sz)) 0 0 (va_A (wX cI cJ cZ cR am gm t) sz) := by
  refine Met.ofW (cc := cX1_firstTooSoon) (maxL := 3) (ret := (some .int)) (by decide) rfl ?_
  intro p e s m args below meth c s₁ B hml hv
  obtain ⟨rfl, ⟨hsz, hP, hK, hD0⟩, hsx⟩ := hv
  have hx := B.exec
  have hb := B.bytes
  have hts := atoms_spec (ws := (.code yX1_firstTooSoon cX1_firstTooSoon 3 (some .int) :: wsAll)) B.pre
  have hta := fun w h => hts w (List.mem_cons_of_mem _ h)
  have hown : s.vm.findClass RX1 = some m.cls := findClass_of_methodNamed B.named
  have hlocks := B.notSynchronized
  subst hsz
  have hD := hD0.self (sz := s.heap.size)
  generalize hAe : va_A (wX cI cJ cZ cR am gm t) s.heap.size = A at hD ⊢
  have hA : ∀ q : Nat, s.heap.size ≤ q → A q := fun q h => by rw [← hAe]; exact Or.inr h
  have C0 : cxX p s m ([.ref (am 2001)].toArray) meth c cX1_firstTooSoon RX1 3 (some .int) D (tyX cI cJ cZ cR) st A := ⟨⟨hx, hb, B.returns, hml, hown, hta, hlocks, hK, hA⟩, by rw [← hAe]; exact hsx⟩
  have hW : wl D A s (wX cI cJ cZ cR am gm t) s.heap [] := ⟨hP, hD, va_S.rf⟩
  have hl := lv_entry [.ref (am 2001)] (n := 3) (Nat.le_of_ble_eq_true rfl)
  rw [lg_entry_eq]
  generalize (lg_sl [.ref (am 2001)] ++ List.replicate (3 - (lg_sl [.ref (am 2001)]).length) Slot.unset).toArray = ls at hl ⊢
  have hl : lv_has ls 3 [(0, .ref (am 2001))] := hl
  unfold x1_firstTooSoon at ho
  refine lv_iconst (v := (0 : Int32)) hx hb dX1_firstTooSoon_0 (by decide) ?_
  refine lv_istore_n (lv' := [(1, .int (0 : Int32)), (0, .ref (am 2001))]) hx hb dX1_firstTooSoon_1 rfl hl (by decide) rfl (fun ls hl => ?_)
  refine lv_iconst (v := (0 : Int32)) hx hb dX1_firstTooSoon_2 (by decide) ?_
  refine lv_istore_n (lv' := [(2, .int (0 : Int32)), (1, .int (0 : Int32)), (0, .ref (am 2001))]) hx hb dX1_firstTooSoon_3 rfl hl (by decide) rfl (fun ls hl => ?_)
  obtain ⟨y10, hc12, ho⟩ := bd_some ho
  obtain ⟨ny10, hc12⟩ := lp_to hc12
  refine x1_firstTooSoon_L4 C0 ?_ ?_ ny10 _ _ hc12 _ _ _ hW (lv_sub hl [2, 1, 0] rfl)
  · intro u13 hy H locs ls hW hl
    subst hy
    replace ho := sum_l ho
    refine lv_iload_n hx hb dX1_firstTooSoon_37 rfl (lv_at hl 1 rfl) ?_
    cases ho
    exact rtI C0.1 hW dX1_firstTooSoon_38
  · intro u13 hy H locs ls hW hl
    subst hy
    replace ho := sum_r ho
    refine lv_iconst (v := (-1 : Int32)) hx hb dX1_firstTooSoon_52 (by decide) ?_
    cases ho
    exact rtI C0.1 hW dX1_firstTooSoon_53
noncomputable def x11_soon (t : St) : Option (Int32) :=
  (x1_firstTooSoon t).bind (fun q1 => some q1)
set_option maxHeartbeats 4000000 in
set_option maxRecDepth 100000 in
theorem c_x11_soon (l : Launch) {D : va_G} {cI cJ cZ cR : ClassId} {am gm : Nat → Nat} {st : Nat} (sz : Nat) (t : St) {r : Int32} (ho : x11_soon t = some r) : Met l yX11_soon (.code yX11_soon cX11_soon 1 (some .int) :: wsAll) (rmN 2 44) (va_Pc [.ref (am 2011)] (prX D (tyX cI cJ cZ cR) (wX cI cJ cZ cR am gm t) sz st)) (qI r D (tyX cI cJ cZ cR) (wX cI cJ cZ cR am gm t) (va_A (wX cI cJ cZ cR am gm t) sz)) 0 0 (va_A (wX cI cJ cZ cR am gm t) sz) := by
  refine Met.ofW (cc := cX11_soon) (maxL := 1) (ret := (some .int)) (by decide) rfl ?_
  intro p e s m args below meth c s₁ B hml hv
  obtain ⟨rfl, ⟨hsz, hP, hK, hD0⟩, hsx⟩ := hv
  have hx := B.exec
  have hb := B.bytes
  have hts := atoms_spec (ws := (.code yX11_soon cX11_soon 1 (some .int) :: wsAll)) B.pre
  have hta := fun w h => hts w (List.mem_cons_of_mem _ h)
  have hown : s.vm.findClass RX11 = some m.cls := findClass_of_methodNamed B.named
  have hlocks := B.notSynchronized
  subst hsz
  have hD := hD0.self (sz := s.heap.size)
  generalize hAe : va_A (wX cI cJ cZ cR am gm t) s.heap.size = A at hD ⊢
  have hA : ∀ q : Nat, s.heap.size ≤ q → A q := fun q h => by rw [← hAe]; exact Or.inr h
  have C0 : cxX p s m ([.ref (am 2011)].toArray) meth c cX11_soon RX11 1 (some .int) D (tyX cI cJ cZ cR) st A := ⟨⟨hx, hb, B.returns, hml, hown, hta, hlocks, hK, hA⟩, by rw [← hAe]; exact hsx⟩
  have hW : wl D A s (wX cI cJ cZ cR am gm t) s.heap [] := ⟨hP, hD, va_S.rf⟩
  have hl := lv_entry [.ref (am 2011)] (n := 1) (Nat.le_of_ble_eq_true rfl)
  rw [lg_entry_eq]
  generalize (lg_sl [.ref (am 2011)] ++ List.replicate (1 - (lg_sl [.ref (am 2011)]).length) Slot.unset).toArray = ls at hl ⊢
  have hl : lv_has ls 1 [(0, .ref (am 2011))] := hl
  unfold x11_soon at ho
  refine lv_aload_n hx hb dX11_soon_0 rfl (lv_at hl 0 rfl) ?_
  refine xGET_1109 C0 kw_600 hW dX11_soon_1 ?_
  obtain ⟨q1, hc2, ho⟩ := bd_some ho
  refine bkI C0.1 hW (runVX (As := []) (rest := []) C0 hW (c_x1_firstTooSoon l _ t (r := q1) hc2) cb_X11_X1_firstTooSoon_330 1 1 rfl rfl rfl rfl rfl ⟨rfl, rfl⟩ ⟨Nat.le_of_ble_eq_true rfl, Nat.le_of_ble_eq_true rfl⟩ (Nat.le_of_ble_eq_true rfl) hl.1 dX11_soon_4 ⟨Nat.le_of_ble_eq_true rfl, Nat.le_of_ble_eq_true rfl⟩) (fun H locs hW => ?_)
  cases ho
  exact rtI C0.1 hW dX11_soon_7
noncomputable def x1_letterEvent_B2 (t : St) (v1 : Int32) (v3 : Int32) : Option ((Int32) ⊕ ((Int32) ⊕ (Unit))) :=
  if (gI t 104) ≤ v3 then (some (.inr (.inr ()))) else (gd v3 (gN t 102) (if (gA t 102 (v3).toNatClampNeg) = v1 then (some (.inr (.inl v3))) else (nm (v3 + (1 : Int32)) (fun x4 : Int32 => some (.inl x4)))))
noncomputable def x1_letterEvent (t : St) (a1 : Int32) (a2 : Int32) : Option (Int32) :=
  (lp (fun x => x1_letterEvent_B2 t a1 x) a2).bind (fun y5 => (Sum.elim (fun u8 => some u8) (fun u8 => some (-1 : Int32))) y5)
set_option maxHeartbeats 4000000 in
set_option maxRecDepth 100000 in
theorem x1_letterEvent_L2 {p : Program} {l : Launch} {e : Env} {s : State} {m : MethodId} {args : Array Value} {below : List Frame} {meth : Method} {c : Code} {Q : State → Prop} {D : va_G} {cI cJ cZ cR : ClassId} {am gm : Nat → Nat} {st : Nat} {A : Nat → Prop} (C0 : cxX p s m args meth c cX1_letterEvent RX1 4 (some .int) D (tyX cI cJ cZ cR) st A) {t : St} {v1 : Int32} {y : (Int32) ⊕ (Unit)} (hK0 : ∀ u, y = (.inl u) → ∀ (H : Heap) (locs : List Loc) (ls : Array Slot), wl D A s (wX cI cJ cZ cR am gm t) H locs → lv_has ls 4 [(0, .ref (am 2001)), (3, .int u)] → W p l e (rmN 0 0) s m args below meth c H locs 0 0 Q (F0 m 20 ls [])) (hK1 : ∀ u, y = (.inr u) → ∀ (H : Heap) (locs : List Loc) (ls : Array Slot), wl D A s (wX cI cJ cZ cR am gm t) H locs → lv_has ls 4 [(0, .ref (am 2001))] → W p l e (rmN 0 0) s m args below meth c H locs 0 0 Q (F0 m 28 ls [])) :
    ∀ (n : Nat) (v3 : Int32), lpn (fun x => x1_letterEvent_B2 t v1 x) n v3 = some y → ∀ (H : Heap) (locs : List Loc) (ls : Array Slot), wl D A s (wX cI cJ cZ cR am gm t) H locs → lv_has ls 4 [(0, .ref (am 2001)), (1, .int v1), (3, .int v3)] → W p l e (rmN 0 0) s m args below meth c H locs 0 0 Q (F0 m 2 ls []) := by
  have hx := C0.1.1
  have hb := C0.1.2.1
  have hta := C0.1.2.2.2.2.2.1
  have hown := C0.1.2.2.2.2.1
  intro n
  induction n with
  | zero => intro _ h; cases h
  | succ n ih =>
    intro v3 hrun H locs ls hW hl
    obtain ⟨o, ho, hrun⟩ := bd_some hrun
    unfold x1_letterEvent_B2 at ho
    refine lv_iload_n hx hb dX1_letterEvent_2 rfl (lv_at hl 2 rfl) ?_
    refine lv_aload_n hx hb dX1_letterEvent_3 rfl (lv_at hl 0 rfl) ?_
    refine xGET_104 C0 kw_537 hW dX1_letterEvent_4 ?_
    refine lv_icmp_ge (tgt := 28) hx hb dX1_letterEvent_7 (by decide) (fun c1 => ?_) (fun c1 => ?_)
    · replace ho := ite_t c1 ho
      cases ho
      cases hrun
      exact hK1 _ rfl _ _ _ hW (lv_sub hl [0] rfl)
    · replace ho := ite_f c1 ho
      refine lv_aload_n hx hb dX1_letterEvent_10 rfl (lv_at hl 0 rfl) ?_
      refine xGET_102 C0 kw_535 hW dX1_letterEvent_11 ?_
      refine lv_iload_n hx hb dX1_letterEvent_14 rfl (lv_at hl 2 rfl) ?_
      obtain ⟨g2, ho⟩ := gd_some ho
      refine xLD_102 C0 hW g2 dX1_letterEvent_15 ?_
      refine lv_iload_n hx hb dX1_letterEvent_16 rfl (lv_at hl 1 rfl) ?_
      refine lv_icmp_ne (tgt := 22) hx hb dX1_letterEvent_17 (by decide) (fun c3 => ?_) (fun c3 => ?_)
      · replace ho := ite_f c3 ho
        obtain ⟨x4, ex4, ho⟩ := nm_x ho
        refine lv_iinc (v := x4) (lv' := [(3, .int x4), (0, .ref (am 2001)), (1, .int v1)]) hx hb dX1_letterEvent_22 hl (k := 2) rfl (by rw [ex4]; rfl) (by decide) rfl (fun ls hl => ?_)
        clear ex4
        refine lv_goto (tgt := 2) hx hb dX1_letterEvent_25 (by decide) ?_
        cases ho
        exact ih _ hrun _ _ _ hW (lv_sub hl [1, 2, 0] rfl)
      · replace ho := ite_t c3 ho
        cases ho
        cases hrun
        exact hK0 _ rfl _ _ _ hW (lv_sub hl [0, 2] rfl)
set_option maxHeartbeats 4000000 in
set_option maxRecDepth 100000 in
theorem c_x1_letterEvent (l : Launch) {D : va_G} {cI cJ cZ cR : ClassId} {am gm : Nat → Nat} {st : Nat} (sz : Nat) (t : St) (a1 : Int32) (a2 : Int32) {r : Int32} (ho : x1_letterEvent t a1 a2 = some r) : Met l yX1_letterEvent (.code yX1_letterEvent cX1_letterEvent 4 (some .int) :: wsAll) (rmN 0 0) (va_Pc [.ref (am 2001), .int a1, .int a2] (prX D (tyX cI cJ cZ cR) (wX cI cJ cZ cR am gm t) sz st)) (qI r D (tyX cI cJ cZ cR) (wX cI cJ cZ cR am gm t) (va_A (wX cI cJ cZ cR am gm t) sz)) 0 0 (va_A (wX cI cJ cZ cR am gm t) sz) := by
  refine Met.ofW (cc := cX1_letterEvent) (maxL := 4) (ret := (some .int)) (by decide) rfl ?_
  intro p e s m args below meth c s₁ B hml hv
  obtain ⟨rfl, ⟨hsz, hP, hK, hD0⟩, hsx⟩ := hv
  have hx := B.exec
  have hb := B.bytes
  have hts := atoms_spec (ws := (.code yX1_letterEvent cX1_letterEvent 4 (some .int) :: wsAll)) B.pre
  have hta := fun w h => hts w (List.mem_cons_of_mem _ h)
  have hown : s.vm.findClass RX1 = some m.cls := findClass_of_methodNamed B.named
  have hlocks := B.notSynchronized
  subst hsz
  have hD := hD0.self (sz := s.heap.size)
  generalize hAe : va_A (wX cI cJ cZ cR am gm t) s.heap.size = A at hD ⊢
  have hA : ∀ q : Nat, s.heap.size ≤ q → A q := fun q h => by rw [← hAe]; exact Or.inr h
  have C0 : cxX p s m ([.ref (am 2001), .int a1, .int a2].toArray) meth c cX1_letterEvent RX1 4 (some .int) D (tyX cI cJ cZ cR) st A := ⟨⟨hx, hb, B.returns, hml, hown, hta, hlocks, hK, hA⟩, by rw [← hAe]; exact hsx⟩
  have hW : wl D A s (wX cI cJ cZ cR am gm t) s.heap [] := ⟨hP, hD, va_S.rf⟩
  have hl := lv_entry [.ref (am 2001), .int a1, .int a2] (n := 4) (Nat.le_of_ble_eq_true rfl)
  rw [lg_entry_eq]
  generalize (lg_sl [.ref (am 2001), .int a1, .int a2] ++ List.replicate (4 - (lg_sl [.ref (am 2001), .int a1, .int a2]).length) Slot.unset).toArray = ls at hl ⊢
  have hl : lv_has ls 4 [(0, .ref (am 2001)), (1, .int a1), (2, .int a2)] := hl
  unfold x1_letterEvent at ho
  refine lv_iload_n hx hb dX1_letterEvent_0 rfl (lv_at hl 2 rfl) ?_
  refine lv_istore_n (lv' := [(3, .int a2), (0, .ref (am 2001)), (1, .int a1), (2, .int a2)]) hx hb dX1_letterEvent_1 rfl hl (by decide) rfl (fun ls hl => ?_)
  obtain ⟨y5, hc7, ho⟩ := bd_some ho
  obtain ⟨ny5, hc7⟩ := lp_to hc7
  refine x1_letterEvent_L2 C0 ?_ ?_ ny5 _ hc7 _ _ _ hW (lv_sub hl [1, 2, 0] rfl)
  · intro u8 hy H locs ls hW hl
    subst hy
    replace ho := sum_l ho
    refine lv_iload_n hx hb dX1_letterEvent_20 rfl (lv_at hl 1 rfl) ?_
    cases ho
    exact rtI C0.1 hW dX1_letterEvent_21
  · intro u8 hy H locs ls hW hl
    subst hy
    replace ho := sum_r ho
    refine lv_iconst (v := (-1 : Int32)) hx hb dX1_letterEvent_28 (by decide) ?_
    cases ho
    exact rtI C0.1 hW dX1_letterEvent_29
noncomputable def x6_risingAt_107_B15 (v1 : Int32) (v2 : Int32) (v3 : Int32) (v4 : Int32) (v5 : Int32) (t : St) : Option ((Int32 × St) ⊕ (Int32 × St)) :=
  if v5 ≤ 0 then (some (.inr (v5, t))) else (gd (v5 - (1 : Int32)) (gN t 107) (if (gA t 107 ((v5 - (1 : Int32))).toNatClampNeg) ≤ v4 then (some (.inr (v5, t))) else (gd (v5 - (1 : Int32)) (gN t 107) (gd v5 (gN t 107) (nm (sA t 107 v5 (gA t 107 ((v5 - (1 : Int32))).toNatClampNeg)) (fun t6 : St => nm (v5 + (-1 : Int32)) (fun x7 : Int32 => some (.inl (x7, t6)))))))))
theorem mm_x6_risingAt_107_B15 (v1 : Int32) (v2 : Int32) (v3 : Int32) (v4 : Int32) (v5 : Int32) (t : St) : MR (x6_risingAt_107_B15 v1 v2 v3 v4 v5 t) t (Sum.elim (fun (x : Int32 × St) => x.2) (fun (y : Int32 × St) => y.2)) := by
  unfold x6_risingAt_107_B15
  exact MR_ite (MR_some mle.rfl) (MR_gd (MR_ite (MR_some mle.rfl) (MR_gd (MR_gd (MR_nmS mle_sA (fun t6 ht6 => MR_nm (fun x7 _ => MR_some ht6)))))))
theorem mm_x6_risingAt_107_L15 (v1 : Int32) (v2 : Int32) (v3 : Int32) (v4 : Int32) (v5 : Int32) (t : St) : MR (lp (fun x => x6_risingAt_107_B15 v1 v2 v3 v4 x.1 x.2) (v5, t)) t (fun (y : Int32 × St) => y.2) := MR_lp (p := (fun (x : Int32 × St) => x.2)) (q := (fun (y : Int32 × St) => y.2)) (fun x => mm_x6_risingAt_107_B15 v1 v2 v3 v4 x.1 x.2) (v5, t)
noncomputable def x6_risingAt_107_B2 (v1 : Int32) (v2 : Int32) (v3 : Int32) (t : St) : Option ((Int32 × St) ⊕ (St)) :=
  if v1 ≤ v3 then (some (.inr t)) else (gd v3 (gN t 107) (nm (gA t 107 (v3).toNatClampNeg) (fun x10 : Int32 => (lp (fun x => x6_risingAt_107_B15 v1 v2 v3 x10 x.1 x.2) (v3, t)).bind (fun y11 => gd y11.1 (gN y11.2 107) (nm (sA y11.2 107 y11.1 x10) (fun t15 : St => nm (v3 + (1 : Int32)) (fun x16 : Int32 => some (.inl (x16, t15)))))))))
theorem mm_x6_risingAt_107_B2 (v1 : Int32) (v2 : Int32) (v3 : Int32) (t : St) : MR (x6_risingAt_107_B2 v1 v2 v3 t) t (Sum.elim (fun (x : Int32 × St) => x.2) (fun (y : St) => y)) := by
  unfold x6_risingAt_107_B2
  exact MR_ite (MR_some mle.rfl) (MR_gd (MR_nm (fun x10 _ => MR_bind (mm_x6_risingAt_107_L15 v1 v2 v3 x10 v3 t) (fun y11 hm12 => MR_gd (MR_nmS mle_sA (fun t15 ht15 => MR_nm (fun x16 _ => MR_some (mle.trans hm12 ht15))))))))
theorem mm_x6_risingAt_107_L2 (v1 : Int32) (v2 : Int32) (v3 : Int32) (t : St) : MR (lp (fun x => x6_risingAt_107_B2 v1 v2 x.1 x.2) (v3, t)) t (fun (y : St) => y) := MR_lp (p := (fun (x : Int32 × St) => x.2)) (q := (fun (y : St) => y)) (fun x => mm_x6_risingAt_107_B2 v1 v2 x.1 x.2) (v3, t)
noncomputable def x6_risingAt_107 (t : St) (a1 : Int32) (a2 : Int32) : Option (Int32 × St) :=
  (lp (fun x => x6_risingAt_107_B2 a1 a2 x.1 x.2) ((1 : Int32), t)).bind (fun y17 => gd (a2 - (1 : Int32)) (gN y17 107) (some ((gA y17 107 ((a2 - (1 : Int32))).toNatClampNeg), y17)))
theorem mm_x6_risingAt_107 (t : St) (a1 : Int32) (a2 : Int32) : MR (x6_risingAt_107 t a1 a2) t (fun (a : Int32 × St) => a.2) := by
  unfold x6_risingAt_107
  exact MR_bind (mm_x6_risingAt_107_L2 a1 a2 (1 : Int32) t) (fun y17 hm18 => MR_gd (MR_some hm18))
set_option maxHeartbeats 4000000 in
set_option maxRecDepth 100000 in
theorem x6_risingAt_107_L15 {p : Program} {l : Launch} {e : Env} {s : State} {m : MethodId} {args : Array Value} {below : List Frame} {meth : Method} {c : Code} {Q : State → Prop} {D : va_G} {cI cJ cZ cR : ClassId} {am gm : Nat → Nat} {st : Nat} {A : Nat → Prop} (C0 : cxX p s m args meth c cX6_risingAt RX6 6 (some .int) D (tyX cI cJ cZ cR) st A) {v1 : Int32} {v2 : Int32} {v3 : Int32} {v4 : Int32} {y : Int32 × St} (hK0 : ∀ (H : Heap) (locs : List Loc) (ls : Array Slot), wl D A s (wX cI cJ cZ cR am gm y.2) H locs → lv_has ls 6 [(0, .ref (am 107)), (1, .int v1), (2, .int v2), (3, .int v3), (4, .int v4), (5, .int y.1)] → W p l e (rmN 0 0) s m args below meth c H locs 0 0 Q (F0 m 47 ls [])) :
    ∀ (n : Nat) (v5 : Int32) (t : St), lpn (fun x => x6_risingAt_107_B15 v1 v2 v3 v4 x.1 x.2) n (v5, t) = some y → ∀ (H : Heap) (locs : List Loc) (ls : Array Slot), wl D A s (wX cI cJ cZ cR am gm t) H locs → lv_has ls 6 [(0, .ref (am 107)), (1, .int v1), (2, .int v2), (3, .int v3), (4, .int v4), (5, .int v5)] → W p l e (rmN 0 0) s m args below meth c H locs 0 0 Q (F0 m 15 ls []) := by
  have hx := C0.1.1
  have hb := C0.1.2.1
  have hta := C0.1.2.2.2.2.2.1
  have hown := C0.1.2.2.2.2.1
  intro n
  induction n with
  | zero => intro _ _ h; cases h
  | succ n ih =>
    intro v5 t hrun H locs ls hW hl
    obtain ⟨o, ho, hrun⟩ := bd_some hrun
    unfold x6_risingAt_107_B15 at ho
    refine lv_iload hx hb dX6_risingAt_15 (lv_at hl 5 rfl) ?_
    refine lv_if_le (tgt := 47) hx hb dX6_risingAt_17 (by decide) (fun c1 => ?_) (fun c1 => ?_)
    · replace ho := ite_t c1 ho
      cases ho
      cases hrun
      exact hK0 _ _ _ hW (lv_sub hl [0, 1, 2, 3, 4, 5] rfl)
    · replace ho := ite_f c1 ho
      refine lv_aload_n hx hb dX6_risingAt_20 rfl (lv_at hl 0 rfl) ?_
      refine lv_iload hx hb dX6_risingAt_21 (lv_at hl 5 rfl) ?_
      refine lv_iconst (v := (1 : Int32)) hx hb dX6_risingAt_23 (by decide) ?_
      refine lv_isub hx hb dX6_risingAt_24 ?_
      obtain ⟨g2, ho⟩ := gd_some ho
      refine xLD_107 C0 hW g2 dX6_risingAt_25 ?_
      refine lv_iload hx hb dX6_risingAt_26 (lv_at hl 4 rfl) ?_
      refine lv_icmp_le (tgt := 47) hx hb dX6_risingAt_28 (by decide) (fun c3 => ?_) (fun c3 => ?_)
      · replace ho := ite_t c3 ho
        cases ho
        cases hrun
        exact hK0 _ _ _ hW (lv_sub hl [0, 1, 2, 3, 4, 5] rfl)
      · replace ho := ite_f c3 ho
        refine lv_aload_n hx hb dX6_risingAt_31 rfl (lv_at hl 0 rfl) ?_
        refine lv_iload hx hb dX6_risingAt_32 (lv_at hl 5 rfl) ?_
        refine lv_aload_n hx hb dX6_risingAt_34 rfl (lv_at hl 0 rfl) ?_
        refine lv_iload hx hb dX6_risingAt_35 (lv_at hl 5 rfl) ?_
        refine lv_iconst (v := (1 : Int32)) hx hb dX6_risingAt_37 (by decide) ?_
        refine lv_isub hx hb dX6_risingAt_38 ?_
        obtain ⟨g4, ho⟩ := gd_some ho
        refine xLD_107 C0 hW g4 dX6_risingAt_39 ?_
        obtain ⟨g5, ho⟩ := gd_some ho
        refine xST_107 C0 hW g5 dX6_risingAt_40 (fun H locs hW => ?_)
        obtain ⟨t6, ho, hW⟩ := nm_w (P := fun t => wl D A s (wX cI cJ cZ cR am gm t) H locs) ho hW
        obtain ⟨x7, ex7, ho⟩ := nm_x ho
        refine lv_iinc (v := x7) (lv' := [(5, .int x7), (0, .ref (am 107)), (1, .int v1), (2, .int v2), (3, .int v3), (4, .int v4)]) hx hb dX6_risingAt_41 hl (k := 5) rfl (by rw [ex7]; rfl) (by decide) rfl (fun ls hl => ?_)
        clear ex7
        refine lv_goto (tgt := 15) hx hb dX6_risingAt_44 (by decide) ?_
        cases ho
        exact ih _ _ hrun _ _ _ hW (lv_sub hl [1, 2, 3, 4, 5, 0] rfl)
set_option maxHeartbeats 4000000 in
set_option maxRecDepth 100000 in
theorem x6_risingAt_107_L2 {p : Program} {l : Launch} {e : Env} {s : State} {m : MethodId} {args : Array Value} {below : List Frame} {meth : Method} {c : Code} {Q : State → Prop} {D : va_G} {cI cJ cZ cR : ClassId} {am gm : Nat → Nat} {st : Nat} {A : Nat → Prop} (C0 : cxX p s m args meth c cX6_risingAt RX6 6 (some .int) D (tyX cI cJ cZ cR) st A) {v1 : Int32} {v2 : Int32} {y : St} (hK0 : ∀ (H : Heap) (locs : List Loc) (ls : Array Slot), wl D A s (wX cI cJ cZ cR am gm y) H locs → lv_has ls 6 [(0, .ref (am 107)), (2, .int v2)] → W p l e (rmN 0 0) s m args below meth c H locs 0 0 Q (F0 m 59 ls [])) :
    ∀ (n : Nat) (v3 : Int32) (t : St), lpn (fun x => x6_risingAt_107_B2 v1 v2 x.1 x.2) n (v3, t) = some y → ∀ (H : Heap) (locs : List Loc) (ls : Array Slot), wl D A s (wX cI cJ cZ cR am gm t) H locs → lv_has ls 6 [(0, .ref (am 107)), (1, .int v1), (2, .int v2), (3, .int v3)] → W p l e (rmN 0 0) s m args below meth c H locs 0 0 Q (F0 m 2 ls []) := by
  have hx := C0.1.1
  have hb := C0.1.2.1
  have hta := C0.1.2.2.2.2.2.1
  have hown := C0.1.2.2.2.2.1
  intro n
  induction n with
  | zero => intro _ _ h; cases h
  | succ n ih =>
    intro v3 t hrun H locs ls hW hl
    obtain ⟨o, ho, hrun⟩ := bd_some hrun
    unfold x6_risingAt_107_B2 at ho
    refine lv_iload_n hx hb dX6_risingAt_2 rfl (lv_at hl 3 rfl) ?_
    refine lv_iload_n hx hb dX6_risingAt_3 rfl (lv_at hl 1 rfl) ?_
    refine lv_icmp_ge (tgt := 59) hx hb dX6_risingAt_4 (by decide) (fun c8 => ?_) (fun c8 => ?_)
    · replace ho := ite_t c8 ho
      cases ho
      cases hrun
      exact hK0 _ _ _ hW (lv_sub hl [0, 2] rfl)
    · replace ho := ite_f c8 ho
      refine lv_aload_n hx hb dX6_risingAt_7 rfl (lv_at hl 0 rfl) ?_
      refine lv_iload_n hx hb dX6_risingAt_8 rfl (lv_at hl 3 rfl) ?_
      obtain ⟨g9, ho⟩ := gd_some ho
      refine xLD_107 C0 hW g9 dX6_risingAt_9 ?_
      refine lv_nmi ho (fun x10 ho => ?_)
      refine lv_istore (lv' := [(4, .int x10), (0, .ref (am 107)), (1, .int v1), (2, .int v2), (3, .int v3)]) hx hb dX6_risingAt_10 hl (by decide) rfl (fun ls hl => ?_)
      refine lv_iload_n hx hb dX6_risingAt_12 rfl (lv_at hl 4 rfl) ?_
      refine lv_istore (lv' := [(5, .int v3), (4, .int x10), (0, .ref (am 107)), (1, .int v1), (2, .int v2), (3, .int v3)]) hx hb dX6_risingAt_13 hl (by decide) rfl (fun ls hl => ?_)
      obtain ⟨y11, hc13, ho⟩ := bd_some ho
      obtain ⟨ny11, hc13⟩ := lp_to hc13
      refine x6_risingAt_107_L15 C0 ?_ ny11 _ _ hc13 _ _ _ hW (lv_sub hl [2, 3, 4, 5, 1, 0] rfl)
      intro H locs ls hW hl
      refine lv_aload_n hx hb dX6_risingAt_47 rfl (lv_at hl 0 rfl) ?_
      refine lv_iload hx hb dX6_risingAt_48 (lv_at hl 5 rfl) ?_
      refine lv_iload hx hb dX6_risingAt_50 (lv_at hl 4 rfl) ?_
      obtain ⟨g14, ho⟩ := gd_some ho
      refine xST_107 C0 hW g14 dX6_risingAt_52 (fun H locs hW => ?_)
      obtain ⟨t15, ho, hW⟩ := nm_w (P := fun t => wl D A s (wX cI cJ cZ cR am gm t) H locs) ho hW
      obtain ⟨x16, ex16, ho⟩ := nm_x ho
      refine lv_iinc (v := x16) (lv' := [(3, .int x16), (0, .ref (am 107)), (1, .int v1), (2, .int v2), (4, .int x10), (5, .int y11.1)]) hx hb dX6_risingAt_53 hl (k := 3) rfl (by rw [ex16]; rfl) (by decide) rfl (fun ls hl => ?_)
      clear ex16
      refine lv_goto (tgt := 2) hx hb dX6_risingAt_56 (by decide) ?_
      cases ho
      exact ih _ _ hrun _ _ _ hW (lv_sub hl [1, 2, 3, 0] rfl)
set_option maxHeartbeats 4000000 in
set_option maxRecDepth 100000 in
theorem c_x6_risingAt_107 (l : Launch) {D : va_G} {cI cJ cZ cR : ClassId} {am gm : Nat → Nat} {st : Nat} (sz : Nat) (t : St) (a1 : Int32) (a2 : Int32) {r : Int32} {t' : St} (ho : x6_risingAt_107 t a1 a2 = some (r, t')) : Met l yX6_risingAt (.code yX6_risingAt cX6_risingAt 6 (some .int) :: wsAll) (rmN 0 0) (va_Pc [.ref (am 107), .int a1, .int a2] (prX D (tyX cI cJ cZ cR) (wX cI cJ cZ cR am gm t) sz st)) (qI r D (tyX cI cJ cZ cR) (wX cI cJ cZ cR am gm t') (va_A (wX cI cJ cZ cR am gm t) sz)) 0 0 (va_A (wX cI cJ cZ cR am gm t) sz) := by
  refine Met.ofW (cc := cX6_risingAt) (maxL := 6) (ret := (some .int)) (by decide) rfl ?_
  intro p e s m args below meth c s₁ B hml hv
  obtain ⟨rfl, ⟨hsz, hP, hK, hD0⟩, hsx⟩ := hv
  have hx := B.exec
  have hb := B.bytes
  have hts := atoms_spec (ws := (.code yX6_risingAt cX6_risingAt 6 (some .int) :: wsAll)) B.pre
  have hta := fun w h => hts w (List.mem_cons_of_mem _ h)
  have hown : s.vm.findClass RX6 = some m.cls := findClass_of_methodNamed B.named
  have hlocks := B.notSynchronized
  subst hsz
  have hD := hD0.self (sz := s.heap.size)
  generalize hAe : va_A (wX cI cJ cZ cR am gm t) s.heap.size = A at hD ⊢
  have hA : ∀ q : Nat, s.heap.size ≤ q → A q := fun q h => by rw [← hAe]; exact Or.inr h
  have C0 : cxX p s m ([.ref (am 107), .int a1, .int a2].toArray) meth c cX6_risingAt RX6 6 (some .int) D (tyX cI cJ cZ cR) st A := ⟨⟨hx, hb, B.returns, hml, hown, hta, hlocks, hK, hA⟩, by rw [← hAe]; exact hsx⟩
  have hW : wl D A s (wX cI cJ cZ cR am gm t) s.heap [] := ⟨hP, hD, va_S.rf⟩
  have hl := lv_entry [.ref (am 107), .int a1, .int a2] (n := 6) (Nat.le_of_ble_eq_true rfl)
  rw [lg_entry_eq]
  generalize (lg_sl [.ref (am 107), .int a1, .int a2] ++ List.replicate (6 - (lg_sl [.ref (am 107), .int a1, .int a2]).length) Slot.unset).toArray = ls at hl ⊢
  have hl : lv_has ls 6 [(0, .ref (am 107)), (1, .int a1), (2, .int a2)] := hl
  unfold x6_risingAt_107 at ho
  refine lv_iconst (v := (1 : Int32)) hx hb dX6_risingAt_0 (by decide) ?_
  refine lv_istore_n (lv' := [(3, .int (1 : Int32)), (0, .ref (am 107)), (1, .int a1), (2, .int a2)]) hx hb dX6_risingAt_1 rfl hl (by decide) rfl (fun ls hl => ?_)
  obtain ⟨y17, hc19, ho⟩ := bd_some ho
  obtain ⟨ny17, hc19⟩ := lp_to hc19
  refine x6_risingAt_107_L2 C0 ?_ ny17 _ _ hc19 _ _ _ hW (lv_sub hl [1, 2, 3, 0] rfl)
  intro H locs ls hW hl
  refine lv_aload_n hx hb dX6_risingAt_59 rfl (lv_at hl 0 rfl) ?_
  refine lv_iload_n hx hb dX6_risingAt_60 rfl (lv_at hl 1 rfl) ?_
  refine lv_iconst (v := (1 : Int32)) hx hb dX6_risingAt_61 (by decide) ?_
  refine lv_isub hx hb dX6_risingAt_62 ?_
  obtain ⟨g20, ho⟩ := gd_some ho
  refine xLD_107 C0 hW g20 dX6_risingAt_63 ?_
  cases ho
  exact rtI C0.1 hW dX6_risingAt_64
noncomputable def x1_partEvent (t : St) (a1 : Int32) (a2 : Int32) (a3 : Int32) : Option (Int32) :=
  (x6_partOf t a1 a2).bind (fun q1 => gd ((q1 * (gI t 106)) + a3) (gN t 105) (some (gA t 105 (((q1 * (gI t 106)) + a3)).toNatClampNeg)))
set_option maxHeartbeats 4000000 in
set_option maxRecDepth 100000 in
theorem c_x1_partEvent (l : Launch) {D : va_G} {cI cJ cZ cR : ClassId} {am gm : Nat → Nat} {st : Nat} (sz : Nat) (t : St) (a1 : Int32) (a2 : Int32) (a3 : Int32) {r : Int32} (ho : x1_partEvent t a1 a2 a3 = some r) : Met l yX1_partEvent (.code yX1_partEvent cX1_partEvent 4 (some .int) :: wsAll) (rmN 1 22) (va_Pc [.ref (am 2001), .int a1, .int a2, .int a3] (prX D (tyX cI cJ cZ cR) (wX cI cJ cZ cR am gm t) sz st)) (qI r D (tyX cI cJ cZ cR) (wX cI cJ cZ cR am gm t) (va_A (wX cI cJ cZ cR am gm t) sz)) 0 0 (va_A (wX cI cJ cZ cR am gm t) sz) := by
  refine Met.ofW (cc := cX1_partEvent) (maxL := 4) (ret := (some .int)) (by decide) rfl ?_
  intro p e s m args below meth c s₁ B hml hv
  obtain ⟨rfl, ⟨hsz, hP, hK, hD0⟩, hsx⟩ := hv
  have hx := B.exec
  have hb := B.bytes
  have hts := atoms_spec (ws := (.code yX1_partEvent cX1_partEvent 4 (some .int) :: wsAll)) B.pre
  have hta := fun w h => hts w (List.mem_cons_of_mem _ h)
  have hown : s.vm.findClass RX1 = some m.cls := findClass_of_methodNamed B.named
  have hlocks := B.notSynchronized
  subst hsz
  have hD := hD0.self (sz := s.heap.size)
  generalize hAe : va_A (wX cI cJ cZ cR am gm t) s.heap.size = A at hD ⊢
  have hA : ∀ q : Nat, s.heap.size ≤ q → A q := fun q h => by rw [← hAe]; exact Or.inr h
  have C0 : cxX p s m ([.ref (am 2001), .int a1, .int a2, .int a3].toArray) meth c cX1_partEvent RX1 4 (some .int) D (tyX cI cJ cZ cR) st A := ⟨⟨hx, hb, B.returns, hml, hown, hta, hlocks, hK, hA⟩, by rw [← hAe]; exact hsx⟩
  have hW : wl D A s (wX cI cJ cZ cR am gm t) s.heap [] := ⟨hP, hD, va_S.rf⟩
  have hl := lv_entry [.ref (am 2001), .int a1, .int a2, .int a3] (n := 4) (Nat.le_of_ble_eq_true rfl)
  rw [lg_entry_eq]
  generalize (lg_sl [.ref (am 2001), .int a1, .int a2, .int a3] ++ List.replicate (4 - (lg_sl [.ref (am 2001), .int a1, .int a2, .int a3]).length) Slot.unset).toArray = ls at hl ⊢
  have hl : lv_has ls 4 [(0, .ref (am 2001)), (1, .int a1), (2, .int a2), (3, .int a3)] := hl
  unfold x1_partEvent at ho
  refine lv_aload_n hx hb dX1_partEvent_0 rfl (lv_at hl 0 rfl) ?_
  refine xGET_105 C0 kw_539 hW dX1_partEvent_1 ?_
  refine lv_aload_n hx hb dX1_partEvent_4 rfl (lv_at hl 0 rfl) ?_
  refine xGET_101 C0 kw_534 hW dX1_partEvent_5 ?_
  refine lv_iload_n hx hb dX1_partEvent_8 rfl (lv_at hl 1 rfl) ?_
  refine lv_iload_n hx hb dX1_partEvent_9 rfl (lv_at hl 2 rfl) ?_
  obtain ⟨q1, hc2, ho⟩ := bd_some ho
  refine bkI C0.1 hW (runVX (As := [.int a1, .int a2]) (rest := [.ref (gm 105)]) C0 hW (c_x6_partOf l _ t a1 a2 (r := q1) hc2) cb_X1_X6_partOf_79 6 6 rfl rfl rfl rfl rfl ⟨rfl, rfl⟩ ⟨Nat.le_of_ble_eq_true rfl, Nat.le_of_ble_eq_true rfl⟩ (Nat.le_of_ble_eq_true rfl) hl.1 dX1_partEvent_10 ⟨Nat.le_of_ble_eq_true rfl, Nat.le_of_ble_eq_true rfl⟩) (fun H locs hW => ?_)
  refine lv_aload_n hx hb dX1_partEvent_13 rfl (lv_at hl 0 rfl) ?_
  refine xGET_106 C0 kw_540 hW dX1_partEvent_14 ?_
  refine lv_imul hx hb dX1_partEvent_17 ?_
  refine lv_iload_n hx hb dX1_partEvent_18 rfl (lv_at hl 3 rfl) ?_
  refine lv_iadd hx hb dX1_partEvent_19 ?_
  obtain ⟨g3, ho⟩ := gd_some ho
  refine xLD_105 C0 hW g3 dX1_partEvent_20 ?_
  cases ho
  exact rtI C0.1 hW dX1_partEvent_21
noncomputable def x1_someEvent_B5 (v1 : Int32) (v2 : Int32) (v3 : Int32) (v4 : Int32) (t : St) : Option ((Int32 × Int32 × St) ⊕ (Int32 × St)) :=
  gd v1 (gN t 604) (if (gA t 604 (v1).toNatClampNeg) ≤ v4 then (some (.inr (v3, t))) else (if (Int32.ofNat (gN t 107)) ≤ v3 then (some (.inr (v3, t))) else ((x1_partEvent t v1 v4 v2).bind (fun q4 => if q4 < 0 then (nm (v4 + (1 : Int32)) (fun x7 : Int32 => some (.inl (v3, x7, t)))) else (gd v3 (gN t 107) (nm (sA t 107 v3 q4) (fun t9 : St => nm (v3 + (1 : Int32)) (fun x10 : Int32 => nm (v4 + (1 : Int32)) (fun x11 : Int32 => some (.inl (x10, x11, t9)))))))))))
theorem mm_x1_someEvent_B5 (v1 : Int32) (v2 : Int32) (v3 : Int32) (v4 : Int32) (t : St) : MR (x1_someEvent_B5 v1 v2 v3 v4 t) t (Sum.elim (fun (x : Int32 × Int32 × St) => x.2.2) (fun (y : Int32 × St) => y.2)) := by
  unfold x1_someEvent_B5
  exact MR_gd (MR_ite (MR_some mle.rfl) (MR_ite (MR_some mle.rfl) (MR_bindn (fun q4 => MR_ite (MR_nm (fun x7 _ => MR_some mle.rfl)) (MR_gd (MR_nmS mle_sA (fun t9 ht9 => MR_nm (fun x10 _ => MR_nm (fun x11 _ => MR_some ht9)))))))))
theorem mm_x1_someEvent_L5 (v1 : Int32) (v2 : Int32) (v3 : Int32) (v4 : Int32) (t : St) : MR (lp (fun x => x1_someEvent_B5 v1 v2 x.1 x.2.1 x.2.2) (v3, v4, t)) t (fun (y : Int32 × St) => y.2) := MR_lp (p := (fun (x : Int32 × Int32 × St) => x.2.2)) (q := (fun (y : Int32 × St) => y.2)) (fun x => mm_x1_someEvent_B5 v1 v2 x.1 x.2.1 x.2.2) (v3, v4, t)
noncomputable def x1_someEvent (t : St) (a1 : Int32) (a2 : Int32) : Option (Int32 × St) :=
  (lp (fun x => x1_someEvent_B5 a1 a2 x.1 x.2.1 x.2.2) ((0 : Int32), (0 : Int32), t)).bind (fun y12 => gd a1 (gN y12.2 605) (if (gA y12.2 605 (a1).toNatClampNeg) ≤ y12.1 then (gd a1 (gN y12.2 605) ((x6_risingAt_107 y12.2 y12.1 (gA y12.2 605 (a1).toNatClampNeg)).bind (fun q18 => some (q18.1, q18.2)))) else (some ((-1 : Int32), y12.2))))
theorem mm_x1_someEvent (t : St) (a1 : Int32) (a2 : Int32) : MR (x1_someEvent t a1 a2) t (fun (a : Int32 × St) => a.2) := by
  unfold x1_someEvent
  exact MR_bind (mm_x1_someEvent_L5 a1 a2 (0 : Int32) (0 : Int32) t) (fun y12 hm13 => MR_gd (MR_ite (MR_gd (MR_bind (mm_x6_risingAt_107 y12.2 y12.1 (gA y12.2 605 (a1).toNatClampNeg)) (fun q18 hq18 => MR_some (mle.trans hm13 hq18)))) (MR_some hm13)))
set_option maxHeartbeats 4000000 in
set_option maxRecDepth 100000 in
theorem x1_someEvent_L5 {p : Program} {l : Launch} {e : Env} {s : State} {m : MethodId} {args : Array Value} {below : List Frame} {meth : Method} {c : Code} {Q : State → Prop} {D : va_G} {cI cJ cZ cR : ClassId} {am gm : Nat → Nat} {st : Nat} {A : Nat → Prop} (C0 : cxX p s m args meth c cX1_someEvent RX1 6 (some .int) D (tyX cI cJ cZ cR) st A) {v1 : Int32} {v2 : Int32} {y : Int32 × St} (hK0 : ∀ (H : Heap) (locs : List Loc) (ls : Array Slot), wl D A s (wX cI cJ cZ cR am gm y.2) H locs → lv_has ls 6 [(0, .ref (am 2001)), (1, .int v1), (3, .int y.1)] → W p l e (rmN 2 45) s m args below meth c H locs 0 0 Q (F0 m 60 ls [])) :
    ∀ (n : Nat) (v3 : Int32) (v4 : Int32) (t : St), lpn (fun x => x1_someEvent_B5 v1 v2 x.1 x.2.1 x.2.2) n (v3, v4, t) = some y → ∀ (H : Heap) (locs : List Loc) (ls : Array Slot), wl D A s (wX cI cJ cZ cR am gm t) H locs → lv_has ls 6 [(0, .ref (am 2001)), (1, .int v1), (2, .int v2), (3, .int v3), (4, .int v4)] → W p l e (rmN 2 45) s m args below meth c H locs 0 0 Q (F0 m 5 ls []) := by
  have hx := C0.1.1
  have hb := C0.1.2.1
  have hta := C0.1.2.2.2.2.2.1
  have hown := C0.1.2.2.2.2.1
  intro n
  induction n with
  | zero => intro _ _ _ h; cases h
  | succ n ih =>
    intro v3 v4 t hrun H locs ls hW hl
    obtain ⟨o, ho, hrun⟩ := bd_some hrun
    unfold x1_someEvent_B5 at ho
    refine lv_iload hx hb dX1_someEvent_5 (lv_at hl 4 rfl) ?_
    refine lv_aload_n hx hb dX1_someEvent_7 rfl (lv_at hl 0 rfl) ?_
    refine xGET_101 C0 kw_534 hW dX1_someEvent_8 ?_
    refine xGET_604 C0 kw_192 hW dX1_someEvent_11 ?_
    refine lv_iload_n hx hb dX1_someEvent_14 rfl (lv_at hl 1 rfl) ?_
    obtain ⟨g1, ho⟩ := gd_some ho
    refine xLD_604 C0 hW g1 dX1_someEvent_15 ?_
    refine lv_icmp_ge (tgt := 60) hx hb dX1_someEvent_16 (by decide) (fun c2 => ?_) (fun c2 => ?_)
    · replace ho := ite_t c2 ho
      cases ho
      cases hrun
      exact hK0 _ _ _ hW (lv_sub hl [0, 1, 3] rfl)
    · replace ho := ite_f c2 ho
      refine lv_iload_n hx hb dX1_someEvent_19 rfl (lv_at hl 3 rfl) ?_
      refine lv_aload_n hx hb dX1_someEvent_20 rfl (lv_at hl 0 rfl) ?_
      refine xGET_107 C0 kw_541 hW dX1_someEvent_21 ?_
      refine xLEN_107 C0 hW dX1_someEvent_24 ?_
      refine lv_icmp_ge (tgt := 60) hx hb dX1_someEvent_25 (by decide) (fun c3 => ?_) (fun c3 => ?_)
      · replace ho := ite_t c3 ho
        cases ho
        cases hrun
        exact hK0 _ _ _ hW (lv_sub hl [0, 1, 3] rfl)
      · replace ho := ite_f c3 ho
        refine lv_aload_n hx hb dX1_someEvent_28 rfl (lv_at hl 0 rfl) ?_
        refine lv_iload_n hx hb dX1_someEvent_29 rfl (lv_at hl 1 rfl) ?_
        refine lv_iload hx hb dX1_someEvent_30 (lv_at hl 4 rfl) ?_
        refine lv_iload_n hx hb dX1_someEvent_32 rfl (lv_at hl 2 rfl) ?_
        obtain ⟨q4, hc5, ho⟩ := bd_some ho
        refine bkI C0.1 hW (runVX (As := [.int v1, .int v4, .int v2]) (rest := []) C0 hW (c_x1_partEvent l _ t v1 v4 v2 (r := q4) hc5) cb_X1_X1_partEvent_82 1 1 rfl rfl rfl rfl rfl ⟨rfl, rfl⟩ ⟨Nat.le_of_ble_eq_true rfl, Nat.le_of_ble_eq_true rfl⟩ (Nat.le_of_ble_eq_true rfl) hl.1 dX1_someEvent_33 ⟨Nat.le_of_ble_eq_true rfl, Nat.le_of_ble_eq_true rfl⟩) (fun H locs hW => ?_)
        refine lv_istore (lv' := [(5, .int q4), (0, .ref (am 2001)), (1, .int v1), (2, .int v2), (3, .int v3), (4, .int v4)]) hx hb dX1_someEvent_36 hl (by decide) rfl (fun ls hl => ?_)
        refine lv_iload hx hb dX1_someEvent_38 (lv_at hl 0 rfl) ?_
        refine lv_if_lt (tgt := 54) hx hb dX1_someEvent_40 (by decide) (fun c6 => ?_) (fun c6 => ?_)
        · replace ho := ite_t c6 ho
          obtain ⟨x7, ex7, ho⟩ := nm_x ho
          refine lv_iinc (v := x7) (lv' := [(4, .int x7), (5, .int q4), (0, .ref (am 2001)), (1, .int v1), (2, .int v2), (3, .int v3)]) hx hb dX1_someEvent_54 hl (k := 5) rfl (by rw [ex7]; rfl) (by decide) rfl (fun ls hl => ?_)
          clear ex7
          refine lv_goto (tgt := 5) hx hb dX1_someEvent_57 (by decide) ?_
          cases ho
          exact ih _ _ _ hrun _ _ _ hW (lv_sub hl [2, 3, 4, 5, 0] rfl)
        · replace ho := ite_f c6 ho
          refine lv_aload_n hx hb dX1_someEvent_43 rfl (lv_at hl 1 rfl) ?_
          refine xGET_107 C0 kw_541 hW dX1_someEvent_44 ?_
          refine lv_iload_n hx hb dX1_someEvent_47 rfl (lv_at hl 4 rfl) ?_
          refine lv_iload hx hb dX1_someEvent_48 (lv_at hl 0 rfl) ?_
          obtain ⟨g8, ho⟩ := gd_some ho
          refine xST_107 C0 hW g8 dX1_someEvent_50 (fun H locs hW => ?_)
          obtain ⟨t9, ho, hW⟩ := nm_w (P := fun t => wl D A s (wX cI cJ cZ cR am gm t) H locs) ho hW
          obtain ⟨x10, ex10, ho⟩ := nm_x ho
          refine lv_iinc (v := x10) (lv' := [(3, .int x10), (5, .int q4), (0, .ref (am 2001)), (1, .int v1), (2, .int v2), (4, .int v4)]) hx hb dX1_someEvent_51 hl (k := 4) rfl (by rw [ex10]; rfl) (by decide) rfl (fun ls hl => ?_)
          clear ex10
          obtain ⟨x11, ex11, ho⟩ := nm_x ho
          refine lv_iinc (v := x11) (lv' := [(4, .int x11), (3, .int x10), (5, .int q4), (0, .ref (am 2001)), (1, .int v1), (2, .int v2)]) hx hb dX1_someEvent_54 hl (k := 5) rfl (by rw [ex11]; rfl) (by decide) rfl (fun ls hl => ?_)
          clear ex11
          refine lv_goto (tgt := 5) hx hb dX1_someEvent_57 (by decide) ?_
          cases ho
          exact ih _ _ _ hrun _ _ _ hW (lv_sub hl [3, 4, 5, 1, 0] rfl)
set_option maxHeartbeats 4000000 in
set_option maxRecDepth 100000 in
theorem c_x1_someEvent (l : Launch) {D : va_G} {cI cJ cZ cR : ClassId} {am gm : Nat → Nat} {st : Nat} (sz : Nat) (t : St) (a1 : Int32) (a2 : Int32) {r : Int32} {t' : St} (ho : x1_someEvent t a1 a2 = some (r, t')) : Met l yX1_someEvent (.code yX1_someEvent cX1_someEvent 6 (some .int) :: wsAll) (rmN 2 45) (va_Pc [.ref (am 2001), .int a1, .int a2] (prX D (tyX cI cJ cZ cR) (wX cI cJ cZ cR am gm t) sz st)) (qI r D (tyX cI cJ cZ cR) (wX cI cJ cZ cR am gm t') (va_A (wX cI cJ cZ cR am gm t) sz)) 0 0 (va_A (wX cI cJ cZ cR am gm t) sz) := by
  refine Met.ofW (cc := cX1_someEvent) (maxL := 6) (ret := (some .int)) (by decide) rfl ?_
  intro p e s m args below meth c s₁ B hml hv
  obtain ⟨rfl, ⟨hsz, hP, hK, hD0⟩, hsx⟩ := hv
  have hx := B.exec
  have hb := B.bytes
  have hts := atoms_spec (ws := (.code yX1_someEvent cX1_someEvent 6 (some .int) :: wsAll)) B.pre
  have hta := fun w h => hts w (List.mem_cons_of_mem _ h)
  have hown : s.vm.findClass RX1 = some m.cls := findClass_of_methodNamed B.named
  have hlocks := B.notSynchronized
  subst hsz
  have hD := hD0.self (sz := s.heap.size)
  generalize hAe : va_A (wX cI cJ cZ cR am gm t) s.heap.size = A at hD ⊢
  have hA : ∀ q : Nat, s.heap.size ≤ q → A q := fun q h => by rw [← hAe]; exact Or.inr h
  have C0 : cxX p s m ([.ref (am 2001), .int a1, .int a2].toArray) meth c cX1_someEvent RX1 6 (some .int) D (tyX cI cJ cZ cR) st A := ⟨⟨hx, hb, B.returns, hml, hown, hta, hlocks, hK, hA⟩, by rw [← hAe]; exact hsx⟩
  have hW : wl D A s (wX cI cJ cZ cR am gm t) s.heap [] := ⟨hP, hD, va_S.rf⟩
  have hl := lv_entry [.ref (am 2001), .int a1, .int a2] (n := 6) (Nat.le_of_ble_eq_true rfl)
  rw [lg_entry_eq]
  generalize (lg_sl [.ref (am 2001), .int a1, .int a2] ++ List.replicate (6 - (lg_sl [.ref (am 2001), .int a1, .int a2]).length) Slot.unset).toArray = ls at hl ⊢
  have hl : lv_has ls 6 [(0, .ref (am 2001)), (1, .int a1), (2, .int a2)] := hl
  unfold x1_someEvent at ho
  refine lv_iconst (v := (0 : Int32)) hx hb dX1_someEvent_0 (by decide) ?_
  refine lv_istore_n (lv' := [(3, .int (0 : Int32)), (0, .ref (am 2001)), (1, .int a1), (2, .int a2)]) hx hb dX1_someEvent_1 rfl hl (by decide) rfl (fun ls hl => ?_)
  refine lv_iconst (v := (0 : Int32)) hx hb dX1_someEvent_2 (by decide) ?_
  refine lv_istore (lv' := [(4, .int (0 : Int32)), (3, .int (0 : Int32)), (0, .ref (am 2001)), (1, .int a1), (2, .int a2)]) hx hb dX1_someEvent_3 hl (by decide) rfl (fun ls hl => ?_)
  obtain ⟨y12, hc14, ho⟩ := bd_some ho
  obtain ⟨ny12, hc14⟩ := lp_to hc14
  refine x1_someEvent_L5 C0 ?_ ny12 _ _ _ hc14 _ _ _ hW (lv_sub hl [2, 3, 4, 1, 0] rfl)
  intro H locs ls hW hl
  refine lv_iload_n hx hb dX1_someEvent_60 rfl (lv_at hl 2 rfl) ?_
  refine lv_aload_n hx hb dX1_someEvent_61 rfl (lv_at hl 0 rfl) ?_
  refine xGET_101 C0 kw_534 hW dX1_someEvent_62 ?_
  refine xGET_605 C0 kw_197 hW dX1_someEvent_65 ?_
  refine lv_iload_n hx hb dX1_someEvent_68 rfl (lv_at hl 1 rfl) ?_
  obtain ⟨g15, ho⟩ := gd_some ho
  refine xLD_605 C0 hW g15 dX1_someEvent_69 ?_
  refine lv_icmp_ge (tgt := 77) hx hb dX1_someEvent_70 (by decide) (fun c16 => ?_) (fun c16 => ?_)
  · replace ho := ite_t c16 ho
    refine lv_aload_n hx hb dX1_someEvent_77 rfl (lv_at hl 0 rfl) ?_
    refine xGET_107 C0 kw_541 hW dX1_someEvent_78 ?_
    refine lv_iload_n hx hb dX1_someEvent_81 rfl (lv_at hl 2 rfl) ?_
    refine lv_aload_n hx hb dX1_someEvent_82 rfl (lv_at hl 0 rfl) ?_
    refine xGET_101 C0 kw_534 hW dX1_someEvent_83 ?_
    refine xGET_605 C0 kw_197 hW dX1_someEvent_86 ?_
    refine lv_iload_n hx hb dX1_someEvent_89 rfl (lv_at hl 1 rfl) ?_
    obtain ⟨g17, ho⟩ := gd_some ho
    refine xLD_605 C0 hW g17 dX1_someEvent_90 ?_
    obtain ⟨q18, hc19, ho⟩ := bd_some ho
    refine bkI C0.1 hW (runSX (As := [.ref (am 107), .int y12.1, .int (gA y12.2 605 (a1).toNatClampNeg)]) (rest := []) C0 hW (c_x6_risingAt_107 l _ y12.2 y12.1 (gA y12.2 605 (a1).toNatClampNeg) (r := q18.1) (t' := q18.2) hc19) cb_X1_X6_risingAt_94 rfl rfl ⟨rfl, rfl⟩ ⟨Nat.le_of_ble_eq_true rfl, Nat.le_of_ble_eq_true rfl⟩ (Nat.le_of_ble_eq_true rfl) hl.1 dX1_someEvent_91 ⟨Nat.le_of_ble_eq_true rfl, Nat.le_of_ble_eq_true rfl⟩) (fun H locs hW => ?_)
    cases ho
    exact rtI C0.1 hW dX1_someEvent_94
  · replace ho := ite_f c16 ho
    refine lv_iconst (v := (-1 : Int32)) hx hb dX1_someEvent_73 (by decide) ?_
    refine lv_goto (tgt := 94) hx hb dX1_someEvent_74 (by decide) ?_
    cases ho
    exact rtI C0.1 hW dX1_someEvent_94
noncomputable def x1_lastEvent_B5 (t : St) (v1 : Int32) (v2 : Int32) (v3 : Int32) (v4 : Int32) : Option ((Int32 × Int32) ⊕ ((Unit) ⊕ (Int32))) :=
  gd v1 (gN t 604) (if (gA t 604 (v1).toNatClampNeg) ≤ v4 then (some (.inr (.inr v3))) else ((x1_partEvent t v1 v4 v2).bind (fun q3 => if 0 ≤ q3 then (nm (if v3 < q3 then q3 else v3) (fun x6 : Int32 => nm (v4 + (1 : Int32)) (fun x7 : Int32 => some (.inl (x6, x7))))) else (some (.inr (.inl ()))))))
noncomputable def x1_lastEvent (t : St) (a1 : Int32) (a2 : Int32) : Option (Int32) :=
  (lp (fun x => x1_lastEvent_B5 t a1 a2 x.1 x.2) ((-1 : Int32), (0 : Int32))).bind (fun y8 => (Sum.elim (fun u11 => some (-1 : Int32)) (fun u11 => some u11)) y8)
set_option maxHeartbeats 4000000 in
set_option maxRecDepth 100000 in
theorem x1_lastEvent_L5 {p : Program} {l : Launch} {e : Env} {s : State} {m : MethodId} {args : Array Value} {below : List Frame} {meth : Method} {c : Code} {Q : State → Prop} {D : va_G} {cI cJ cZ cR : ClassId} {am gm : Nat → Nat} {st : Nat} {A : Nat → Prop} (C0 : cxX p s m args meth c cX1_lastEvent RX1 6 (some .int) D (tyX cI cJ cZ cR) st A) {t : St} {v1 : Int32} {v2 : Int32} {y : (Unit) ⊕ (Int32)} (hK0 : ∀ u, y = (.inl u) → ∀ (H : Heap) (locs : List Loc) (ls : Array Slot), wl D A s (wX cI cJ cZ cR am gm t) H locs → lv_has ls 6 [(0, .ref (am 2001))] → W p l e (rmN 2 45) s m args below meth c H locs 0 0 Q (F0 m 34 ls [])) (hK1 : ∀ u, y = (.inr u) → ∀ (H : Heap) (locs : List Loc) (ls : Array Slot), wl D A s (wX cI cJ cZ cR am gm t) H locs → lv_has ls 6 [(0, .ref (am 2001)), (3, .int u)] → W p l e (rmN 2 45) s m args below meth c H locs 0 0 Q (F0 m 49 ls [])) :
    ∀ (n : Nat) (v3 : Int32) (v4 : Int32), lpn (fun x => x1_lastEvent_B5 t v1 v2 x.1 x.2) n (v3, v4) = some y → ∀ (H : Heap) (locs : List Loc) (ls : Array Slot), wl D A s (wX cI cJ cZ cR am gm t) H locs → lv_has ls 6 [(0, .ref (am 2001)), (1, .int v1), (2, .int v2), (3, .int v3), (4, .int v4)] → W p l e (rmN 2 45) s m args below meth c H locs 0 0 Q (F0 m 5 ls []) := by
  have hx := C0.1.1
  have hb := C0.1.2.1
  have hta := C0.1.2.2.2.2.2.1
  have hown := C0.1.2.2.2.2.1
  intro n
  induction n with
  | zero => intro _ _ h; cases h
  | succ n ih =>
    intro v3 v4 hrun H locs ls hW hl
    obtain ⟨o, ho, hrun⟩ := bd_some hrun
    unfold x1_lastEvent_B5 at ho
    refine lv_iload hx hb dX1_lastEvent_5 (lv_at hl 4 rfl) ?_
    refine lv_aload_n hx hb dX1_lastEvent_7 rfl (lv_at hl 0 rfl) ?_
    refine xGET_101 C0 kw_534 hW dX1_lastEvent_8 ?_
    refine xGET_604 C0 kw_192 hW dX1_lastEvent_11 ?_
    refine lv_iload_n hx hb dX1_lastEvent_14 rfl (lv_at hl 1 rfl) ?_
    obtain ⟨g1, ho⟩ := gd_some ho
    refine xLD_604 C0 hW g1 dX1_lastEvent_15 ?_
    refine lv_icmp_ge (tgt := 49) hx hb dX1_lastEvent_16 (by decide) (fun c2 => ?_) (fun c2 => ?_)
    · replace ho := ite_t c2 ho
      cases ho
      cases hrun
      exact hK1 _ rfl _ _ _ hW (lv_sub hl [0, 3] rfl)
    · replace ho := ite_f c2 ho
      refine lv_aload_n hx hb dX1_lastEvent_19 rfl (lv_at hl 0 rfl) ?_
      refine lv_iload_n hx hb dX1_lastEvent_20 rfl (lv_at hl 1 rfl) ?_
      refine lv_iload hx hb dX1_lastEvent_21 (lv_at hl 4 rfl) ?_
      refine lv_iload_n hx hb dX1_lastEvent_23 rfl (lv_at hl 2 rfl) ?_
      obtain ⟨q3, hc4, ho⟩ := bd_some ho
      refine bkI C0.1 hW (runVX (As := [.int v1, .int v4, .int v2]) (rest := []) C0 hW (c_x1_partEvent l _ t v1 v4 v2 (r := q3) hc4) cb_X1_X1_partEvent_82 1 1 rfl rfl rfl rfl rfl ⟨rfl, rfl⟩ ⟨Nat.le_of_ble_eq_true rfl, Nat.le_of_ble_eq_true rfl⟩ (Nat.le_of_ble_eq_true rfl) hl.1 dX1_lastEvent_24 ⟨Nat.le_of_ble_eq_true rfl, Nat.le_of_ble_eq_true rfl⟩) (fun H locs hW => ?_)
      refine lv_istore (lv' := [(5, .int q3), (0, .ref (am 2001)), (1, .int v1), (2, .int v2), (3, .int v3), (4, .int v4)]) hx hb dX1_lastEvent_27 hl (by decide) rfl (fun ls hl => ?_)
      refine lv_iload hx hb dX1_lastEvent_29 (lv_at hl 0 rfl) ?_
      refine lv_if_ge (tgt := 36) hx hb dX1_lastEvent_31 (by decide) (fun c5 => ?_) (fun c5 => ?_)
      · replace ho := ite_t c5 ho
        refine lv_iload_n hx hb dX1_lastEvent_36 rfl (lv_at hl 4 rfl) ?_
        refine lv_iload hx hb dX1_lastEvent_37 (lv_at hl 0 rfl) ?_
        refine va_mmax (rest := []) hx hb (C0.1.2.2.2.1.trans hl.1.symm) hown (hta _ kw_1337) (hta _ kw_735) (hta _ kw_136) (hta _ kw_736) (Nat.le_of_ble_eq_true rfl) (Nat.le_of_ble_eq_true rfl) (Nat.le_of_ble_eq_true rfl) (Nat.le_of_ble_eq_true rfl) dX1_lastEvent_39 ?_
        refine lv_nmi ho (fun x6 ho => ?_)
        refine lv_istore_n (lv' := [(3, .int x6), (5, .int q3), (0, .ref (am 2001)), (1, .int v1), (2, .int v2), (4, .int v4)]) hx hb dX1_lastEvent_42 rfl hl (by decide) rfl (fun ls hl => ?_)
        obtain ⟨x7, ex7, ho⟩ := nm_x ho
        refine lv_iinc (v := x7) (lv' := [(4, .int x7), (3, .int x6), (5, .int q3), (0, .ref (am 2001)), (1, .int v1), (2, .int v2)]) hx hb dX1_lastEvent_43 hl (k := 5) rfl (by rw [ex7]; rfl) (by decide) rfl (fun ls hl => ?_)
        clear ex7
        refine lv_goto (tgt := 5) hx hb dX1_lastEvent_46 (by decide) ?_
        cases ho
        exact ih _ _ hrun _ _ _ hW (lv_sub hl [3, 4, 5, 1, 0] rfl)
      · replace ho := ite_f c5 ho
        cases ho
        cases hrun
        exact hK0 _ rfl _ _ _ hW (lv_sub hl [1] rfl)
set_option maxHeartbeats 4000000 in
set_option maxRecDepth 100000 in
theorem c_x1_lastEvent (l : Launch) {D : va_G} {cI cJ cZ cR : ClassId} {am gm : Nat → Nat} {st : Nat} (sz : Nat) (t : St) (a1 : Int32) (a2 : Int32) {r : Int32} (ho : x1_lastEvent t a1 a2 = some r) : Met l yX1_lastEvent (.code yX1_lastEvent cX1_lastEvent 6 (some .int) :: wsAll) (rmN 2 45) (va_Pc [.ref (am 2001), .int a1, .int a2] (prX D (tyX cI cJ cZ cR) (wX cI cJ cZ cR am gm t) sz st)) (qI r D (tyX cI cJ cZ cR) (wX cI cJ cZ cR am gm t) (va_A (wX cI cJ cZ cR am gm t) sz)) 0 0 (va_A (wX cI cJ cZ cR am gm t) sz) := by
  refine Met.ofW (cc := cX1_lastEvent) (maxL := 6) (ret := (some .int)) (by decide) rfl ?_
  intro p e s m args below meth c s₁ B hml hv
  obtain ⟨rfl, ⟨hsz, hP, hK, hD0⟩, hsx⟩ := hv
  have hx := B.exec
  have hb := B.bytes
  have hts := atoms_spec (ws := (.code yX1_lastEvent cX1_lastEvent 6 (some .int) :: wsAll)) B.pre
  have hta := fun w h => hts w (List.mem_cons_of_mem _ h)
  have hown : s.vm.findClass RX1 = some m.cls := findClass_of_methodNamed B.named
  have hlocks := B.notSynchronized
  subst hsz
  have hD := hD0.self (sz := s.heap.size)
  generalize hAe : va_A (wX cI cJ cZ cR am gm t) s.heap.size = A at hD ⊢
  have hA : ∀ q : Nat, s.heap.size ≤ q → A q := fun q h => by rw [← hAe]; exact Or.inr h
  have C0 : cxX p s m ([.ref (am 2001), .int a1, .int a2].toArray) meth c cX1_lastEvent RX1 6 (some .int) D (tyX cI cJ cZ cR) st A := ⟨⟨hx, hb, B.returns, hml, hown, hta, hlocks, hK, hA⟩, by rw [← hAe]; exact hsx⟩
  have hW : wl D A s (wX cI cJ cZ cR am gm t) s.heap [] := ⟨hP, hD, va_S.rf⟩
  have hl := lv_entry [.ref (am 2001), .int a1, .int a2] (n := 6) (Nat.le_of_ble_eq_true rfl)
  rw [lg_entry_eq]
  generalize (lg_sl [.ref (am 2001), .int a1, .int a2] ++ List.replicate (6 - (lg_sl [.ref (am 2001), .int a1, .int a2]).length) Slot.unset).toArray = ls at hl ⊢
  have hl : lv_has ls 6 [(0, .ref (am 2001)), (1, .int a1), (2, .int a2)] := hl
  unfold x1_lastEvent at ho
  refine lv_iconst (v := (-1 : Int32)) hx hb dX1_lastEvent_0 (by decide) ?_
  refine lv_istore_n (lv' := [(3, .int (-1 : Int32)), (0, .ref (am 2001)), (1, .int a1), (2, .int a2)]) hx hb dX1_lastEvent_1 rfl hl (by decide) rfl (fun ls hl => ?_)
  refine lv_iconst (v := (0 : Int32)) hx hb dX1_lastEvent_2 (by decide) ?_
  refine lv_istore (lv' := [(4, .int (0 : Int32)), (3, .int (-1 : Int32)), (0, .ref (am 2001)), (1, .int a1), (2, .int a2)]) hx hb dX1_lastEvent_3 hl (by decide) rfl (fun ls hl => ?_)
  obtain ⟨y8, hc10, ho⟩ := bd_some ho
  obtain ⟨ny8, hc10⟩ := lp_to hc10
  refine x1_lastEvent_L5 C0 ?_ ?_ ny8 _ _ hc10 _ _ _ hW (lv_sub hl [2, 3, 4, 1, 0] rfl)
  · intro u11 hy H locs ls hW hl
    subst hy
    replace ho := sum_l ho
    refine lv_iconst (v := (-1 : Int32)) hx hb dX1_lastEvent_34 (by decide) ?_
    cases ho
    exact rtI C0.1 hW dX1_lastEvent_35
  · intro u11 hy H locs ls hW hl
    subst hy
    replace ho := sum_r ho
    refine lv_iload_n hx hb dX1_lastEvent_49 rfl (lv_at hl 1 rfl) ?_
    cases ho
    exact rtI C0.1 hW dX1_lastEvent_50
noncomputable def x1_chainEvent_B7 (t : St) (v1 : Int32) (v3 : Int32) (v4 : Int32) : Option ((Int32 × Int32) ⊕ ((Unit) ⊕ (Int32))) :=
  gd v1 (gN t 604) (if (gA t 604 (v1).toNatClampNeg) ≤ v4 then (some (.inr (.inr v3))) else ((x1_partEvent t v1 v4 (v3 + (1 : Int32))).bind (fun q3 => if 0 ≤ q3 then (nm (v4 + (1 : Int32)) (fun x6 : Int32 => some (.inl (q3, x6)))) else (some (.inr (.inl ()))))))
noncomputable def x1_chainEvent (t : St) (a1 : Int32) (a2 : Int32) : Option (Int32) :=
  nm (a2 - (1 : Int32)) (fun x7 : Int32 => (lp (fun x => x1_chainEvent_B7 t a1 x.1 x.2) (x7, (0 : Int32))).bind (fun y8 => (Sum.elim (fun u11 => some (-1 : Int32)) (fun u11 => some u11)) y8))
set_option maxHeartbeats 4000000 in
set_option maxRecDepth 100000 in
theorem x1_chainEvent_L7 {p : Program} {l : Launch} {e : Env} {s : State} {m : MethodId} {args : Array Value} {below : List Frame} {meth : Method} {c : Code} {Q : State → Prop} {D : va_G} {cI cJ cZ cR : ClassId} {am gm : Nat → Nat} {st : Nat} {A : Nat → Prop} (C0 : cxX p s m args meth c cX1_chainEvent RX1 5 (some .int) D (tyX cI cJ cZ cR) st A) {t : St} {v1 : Int32} {y : (Unit) ⊕ (Int32)} (hK0 : ∀ u, y = (.inl u) → ∀ (H : Heap) (locs : List Loc) (ls : Array Slot), wl D A s (wX cI cJ cZ cR am gm t) H locs → lv_has ls 5 [(0, .ref (am 2001))] → W p l e (rmN 2 45) s m args below meth c H locs 0 0 Q (F0 m 36 ls [])) (hK1 : ∀ u, y = (.inr u) → ∀ (H : Heap) (locs : List Loc) (ls : Array Slot), wl D A s (wX cI cJ cZ cR am gm t) H locs → lv_has ls 5 [(0, .ref (am 2001)), (3, .int u)] → W p l e (rmN 2 45) s m args below meth c H locs 0 0 Q (F0 m 44 ls [])) :
    ∀ (n : Nat) (v3 : Int32) (v4 : Int32), lpn (fun x => x1_chainEvent_B7 t v1 x.1 x.2) n (v3, v4) = some y → ∀ (H : Heap) (locs : List Loc) (ls : Array Slot), wl D A s (wX cI cJ cZ cR am gm t) H locs → lv_has ls 5 [(0, .ref (am 2001)), (1, .int v1), (3, .int v3), (4, .int v4)] → W p l e (rmN 2 45) s m args below meth c H locs 0 0 Q (F0 m 7 ls []) := by
  have hx := C0.1.1
  have hb := C0.1.2.1
  have hta := C0.1.2.2.2.2.2.1
  have hown := C0.1.2.2.2.2.1
  intro n
  induction n with
  | zero => intro _ _ h; cases h
  | succ n ih =>
    intro v3 v4 hrun H locs ls hW hl
    obtain ⟨o, ho, hrun⟩ := bd_some hrun
    unfold x1_chainEvent_B7 at ho
    refine lv_iload hx hb dX1_chainEvent_7 (lv_at hl 3 rfl) ?_
    refine lv_aload_n hx hb dX1_chainEvent_9 rfl (lv_at hl 0 rfl) ?_
    refine xGET_101 C0 kw_534 hW dX1_chainEvent_10 ?_
    refine xGET_604 C0 kw_192 hW dX1_chainEvent_13 ?_
    refine lv_iload_n hx hb dX1_chainEvent_16 rfl (lv_at hl 1 rfl) ?_
    obtain ⟨g1, ho⟩ := gd_some ho
    refine xLD_604 C0 hW g1 dX1_chainEvent_17 ?_
    refine lv_icmp_ge (tgt := 44) hx hb dX1_chainEvent_18 (by decide) (fun c2 => ?_) (fun c2 => ?_)
    · replace ho := ite_t c2 ho
      cases ho
      cases hrun
      exact hK1 _ rfl _ _ _ hW (lv_sub hl [0, 2] rfl)
    · replace ho := ite_f c2 ho
      refine lv_aload_n hx hb dX1_chainEvent_21 rfl (lv_at hl 0 rfl) ?_
      refine lv_iload_n hx hb dX1_chainEvent_22 rfl (lv_at hl 1 rfl) ?_
      refine lv_iload hx hb dX1_chainEvent_23 (lv_at hl 3 rfl) ?_
      refine lv_iload_n hx hb dX1_chainEvent_25 rfl (lv_at hl 2 rfl) ?_
      refine lv_iconst (v := (1 : Int32)) hx hb dX1_chainEvent_26 (by decide) ?_
      refine lv_iadd hx hb dX1_chainEvent_27 ?_
      obtain ⟨q3, hc4, ho⟩ := bd_some ho
      refine bkI C0.1 hW (runVX (As := [.int v1, .int v4, .int (v3 + (1 : Int32))]) (rest := []) C0 hW (c_x1_partEvent l _ t v1 v4 (v3 + (1 : Int32)) (r := q3) hc4) cb_X1_X1_partEvent_82 1 1 rfl rfl rfl rfl rfl ⟨rfl, rfl⟩ ⟨Nat.le_of_ble_eq_true rfl, Nat.le_of_ble_eq_true rfl⟩ (Nat.le_of_ble_eq_true rfl) hl.1 dX1_chainEvent_28 ⟨Nat.le_of_ble_eq_true rfl, Nat.le_of_ble_eq_true rfl⟩) (fun H locs hW => ?_)
      refine lv_istore_n (lv' := [(3, .int q3), (0, .ref (am 2001)), (1, .int v1), (4, .int v4)]) hx hb dX1_chainEvent_31 rfl hl (by decide) rfl (fun ls hl => ?_)
      refine lv_iload_n hx hb dX1_chainEvent_32 rfl (lv_at hl 0 rfl) ?_
      refine lv_if_ge (tgt := 38) hx hb dX1_chainEvent_33 (by decide) (fun c5 => ?_) (fun c5 => ?_)
      · replace ho := ite_t c5 ho
        obtain ⟨x6, ex6, ho⟩ := nm_x ho
        refine lv_iinc (v := x6) (lv' := [(4, .int x6), (3, .int q3), (0, .ref (am 2001)), (1, .int v1)]) hx hb dX1_chainEvent_38 hl (k := 3) rfl (by rw [ex6]; rfl) (by decide) rfl (fun ls hl => ?_)
        clear ex6
        refine lv_goto (tgt := 7) hx hb dX1_chainEvent_41 (by decide) ?_
        cases ho
        exact ih _ _ hrun _ _ _ hW (lv_sub hl [2, 3, 1, 0] rfl)
      · replace ho := ite_f c5 ho
        cases ho
        cases hrun
        exact hK0 _ rfl _ _ _ hW (lv_sub hl [1] rfl)
set_option maxHeartbeats 4000000 in
set_option maxRecDepth 100000 in
theorem c_x1_chainEvent (l : Launch) {D : va_G} {cI cJ cZ cR : ClassId} {am gm : Nat → Nat} {st : Nat} (sz : Nat) (t : St) (a1 : Int32) (a2 : Int32) {r : Int32} (ho : x1_chainEvent t a1 a2 = some r) : Met l yX1_chainEvent (.code yX1_chainEvent cX1_chainEvent 5 (some .int) :: wsAll) (rmN 2 45) (va_Pc [.ref (am 2001), .int a1, .int a2] (prX D (tyX cI cJ cZ cR) (wX cI cJ cZ cR am gm t) sz st)) (qI r D (tyX cI cJ cZ cR) (wX cI cJ cZ cR am gm t) (va_A (wX cI cJ cZ cR am gm t) sz)) 0 0 (va_A (wX cI cJ cZ cR am gm t) sz) := by
  refine Met.ofW (cc := cX1_chainEvent) (maxL := 5) (ret := (some .int)) (by decide) rfl ?_
  intro p e s m args below meth c s₁ B hml hv
  obtain ⟨rfl, ⟨hsz, hP, hK, hD0⟩, hsx⟩ := hv
  have hx := B.exec
  have hb := B.bytes
  have hts := atoms_spec (ws := (.code yX1_chainEvent cX1_chainEvent 5 (some .int) :: wsAll)) B.pre
  have hta := fun w h => hts w (List.mem_cons_of_mem _ h)
  have hown : s.vm.findClass RX1 = some m.cls := findClass_of_methodNamed B.named
  have hlocks := B.notSynchronized
  subst hsz
  have hD := hD0.self (sz := s.heap.size)
  generalize hAe : va_A (wX cI cJ cZ cR am gm t) s.heap.size = A at hD ⊢
  have hA : ∀ q : Nat, s.heap.size ≤ q → A q := fun q h => by rw [← hAe]; exact Or.inr h
  have C0 : cxX p s m ([.ref (am 2001), .int a1, .int a2].toArray) meth c cX1_chainEvent RX1 5 (some .int) D (tyX cI cJ cZ cR) st A := ⟨⟨hx, hb, B.returns, hml, hown, hta, hlocks, hK, hA⟩, by rw [← hAe]; exact hsx⟩
  have hW : wl D A s (wX cI cJ cZ cR am gm t) s.heap [] := ⟨hP, hD, va_S.rf⟩
  have hl := lv_entry [.ref (am 2001), .int a1, .int a2] (n := 5) (Nat.le_of_ble_eq_true rfl)
  rw [lg_entry_eq]
  generalize (lg_sl [.ref (am 2001), .int a1, .int a2] ++ List.replicate (5 - (lg_sl [.ref (am 2001), .int a1, .int a2]).length) Slot.unset).toArray = ls at hl ⊢
  have hl : lv_has ls 5 [(0, .ref (am 2001)), (1, .int a1), (2, .int a2)] := hl
  unfold x1_chainEvent at ho
  refine lv_iload_n hx hb dX1_chainEvent_0 rfl (lv_at hl 2 rfl) ?_
  refine lv_iconst (v := (1 : Int32)) hx hb dX1_chainEvent_1 (by decide) ?_
  refine lv_isub hx hb dX1_chainEvent_2 ?_
  refine lv_nmi ho (fun x7 ho => ?_)
  refine lv_istore_n (lv' := [(3, .int x7), (0, .ref (am 2001)), (1, .int a1), (2, .int a2)]) hx hb dX1_chainEvent_3 rfl hl (by decide) rfl (fun ls hl => ?_)
  refine lv_iconst (v := (0 : Int32)) hx hb dX1_chainEvent_4 (by decide) ?_
  refine lv_istore (lv' := [(4, .int (0 : Int32)), (3, .int x7), (0, .ref (am 2001)), (1, .int a1), (2, .int a2)]) hx hb dX1_chainEvent_5 hl (by decide) rfl (fun ls hl => ?_)
  obtain ⟨y8, hc10, ho⟩ := bd_some ho
  obtain ⟨ny8, hc10⟩ := lp_to hc10
  refine x1_chainEvent_L7 C0 ?_ ?_ ny8 _ _ hc10 _ _ _ hW (lv_sub hl [2, 3, 1, 0] rfl)
  · intro u11 hy H locs ls hW hl
    subst hy
    replace ho := sum_l ho
    refine lv_iconst (v := (-1 : Int32)) hx hb dX1_chainEvent_36 (by decide) ?_
    cases ho
    exact rtI C0.1 hW dX1_chainEvent_37
  · intro u11 hy H locs ls hW hl
    subst hy
    replace ho := sum_r ho
    refine lv_iload_n hx hb dX1_chainEvent_44 rfl (lv_at hl 1 rfl) ?_
    cases ho
    exact rtI C0.1 hW dX1_chainEvent_45
noncomputable def x1_firstEvent_B5 (t : St) (v1 : Int32) (v2 : Int32) (v3 : Int32) (v4 : Int32) : Option ((Int32 × Int32) ⊕ (Int32)) :=
  gd v1 (gN t 604) (if (gA t 604 (v1).toNatClampNeg) ≤ v4 then (some (.inr v3)) else ((x1_partEvent t v1 v4 v2).bind (fun q3 => if q3 < 0 then (nm (v4 + (1 : Int32)) (fun x6 : Int32 => some (.inl (v3, x6)))) else (if v3 < 0 then (nm (v4 + (1 : Int32)) (fun x8 : Int32 => some (.inl (q3, x8)))) else (if v3 ≤ q3 then (nm (v4 + (1 : Int32)) (fun x10 : Int32 => some (.inl (v3, x10)))) else (nm (v4 + (1 : Int32)) (fun x11 : Int32 => some (.inl (q3, x11)))))))))
noncomputable def x1_firstEvent (t : St) (a1 : Int32) (a2 : Int32) : Option (Int32) :=
  (lp (fun x => x1_firstEvent_B5 t a1 a2 x.1 x.2) ((-1 : Int32), (0 : Int32))).bind (fun y12 => some y12)
set_option maxHeartbeats 4000000 in
set_option maxRecDepth 100000 in
theorem x1_firstEvent_L5 {p : Program} {l : Launch} {e : Env} {s : State} {m : MethodId} {args : Array Value} {below : List Frame} {meth : Method} {c : Code} {Q : State → Prop} {D : va_G} {cI cJ cZ cR : ClassId} {am gm : Nat → Nat} {st : Nat} {A : Nat → Prop} (C0 : cxX p s m args meth c cX1_firstEvent RX1 6 (some .int) D (tyX cI cJ cZ cR) st A) {t : St} {v1 : Int32} {v2 : Int32} {y : Int32} (hK0 : ∀ (H : Heap) (locs : List Loc) (ls : Array Slot), wl D A s (wX cI cJ cZ cR am gm t) H locs → lv_has ls 6 [(0, .ref (am 2001)), (3, .int y)] → W p l e (rmN 2 45) s m args below meth c H locs 0 0 Q (F0 m 53 ls [])) :
    ∀ (n : Nat) (v3 : Int32) (v4 : Int32), lpn (fun x => x1_firstEvent_B5 t v1 v2 x.1 x.2) n (v3, v4) = some y → ∀ (H : Heap) (locs : List Loc) (ls : Array Slot), wl D A s (wX cI cJ cZ cR am gm t) H locs → lv_has ls 6 [(0, .ref (am 2001)), (1, .int v1), (2, .int v2), (3, .int v3), (4, .int v4)] → W p l e (rmN 2 45) s m args below meth c H locs 0 0 Q (F0 m 5 ls []) := by
  have hx := C0.1.1
  have hb := C0.1.2.1
  have hta := C0.1.2.2.2.2.2.1
  have hown := C0.1.2.2.2.2.1
  intro n
  induction n with
  | zero => intro _ _ h; cases h
  | succ n ih =>
    intro v3 v4 hrun H locs ls hW hl
    obtain ⟨o, ho, hrun⟩ := bd_some hrun
    unfold x1_firstEvent_B5 at ho
    refine lv_iload hx hb dX1_firstEvent_5 (lv_at hl 4 rfl) ?_
    refine lv_aload_n hx hb dX1_firstEvent_7 rfl (lv_at hl 0 rfl) ?_
    refine xGET_101 C0 kw_534 hW dX1_firstEvent_8 ?_
    refine xGET_604 C0 kw_192 hW dX1_firstEvent_11 ?_
    refine lv_iload_n hx hb dX1_firstEvent_14 rfl (lv_at hl 1 rfl) ?_
    obtain ⟨g1, ho⟩ := gd_some ho
    refine xLD_604 C0 hW g1 dX1_firstEvent_15 ?_
    refine lv_icmp_ge (tgt := 53) hx hb dX1_firstEvent_16 (by decide) (fun c2 => ?_) (fun c2 => ?_)
    · replace ho := ite_t c2 ho
      cases ho
      cases hrun
      exact hK0 _ _ _ hW (lv_sub hl [0, 3] rfl)
    · replace ho := ite_f c2 ho
      refine lv_aload_n hx hb dX1_firstEvent_19 rfl (lv_at hl 0 rfl) ?_
      refine lv_iload_n hx hb dX1_firstEvent_20 rfl (lv_at hl 1 rfl) ?_
      refine lv_iload hx hb dX1_firstEvent_21 (lv_at hl 4 rfl) ?_
      refine lv_iload_n hx hb dX1_firstEvent_23 rfl (lv_at hl 2 rfl) ?_
      obtain ⟨q3, hc4, ho⟩ := bd_some ho
      refine bkI C0.1 hW (runVX (As := [.int v1, .int v4, .int v2]) (rest := []) C0 hW (c_x1_partEvent l _ t v1 v4 v2 (r := q3) hc4) cb_X1_X1_partEvent_82 1 1 rfl rfl rfl rfl rfl ⟨rfl, rfl⟩ ⟨Nat.le_of_ble_eq_true rfl, Nat.le_of_ble_eq_true rfl⟩ (Nat.le_of_ble_eq_true rfl) hl.1 dX1_firstEvent_24 ⟨Nat.le_of_ble_eq_true rfl, Nat.le_of_ble_eq_true rfl⟩) (fun H locs hW => ?_)
      refine lv_istore (lv' := [(5, .int q3), (0, .ref (am 2001)), (1, .int v1), (2, .int v2), (3, .int v3), (4, .int v4)]) hx hb dX1_firstEvent_27 hl (by decide) rfl (fun ls hl => ?_)
      refine lv_iload hx hb dX1_firstEvent_29 (lv_at hl 0 rfl) ?_
      refine lv_if_lt (tgt := 47) hx hb dX1_firstEvent_31 (by decide) (fun c5 => ?_) (fun c5 => ?_)
      · replace ho := ite_t c5 ho
        obtain ⟨x6, ex6, ho⟩ := nm_x ho
        refine lv_iinc (v := x6) (lv' := [(4, .int x6), (5, .int q3), (0, .ref (am 2001)), (1, .int v1), (2, .int v2), (3, .int v3)]) hx hb dX1_firstEvent_47 hl (k := 5) rfl (by rw [ex6]; rfl) (by decide) rfl (fun ls hl => ?_)
        clear ex6
        refine lv_goto (tgt := 5) hx hb dX1_firstEvent_50 (by decide) ?_
        cases ho
        exact ih _ _ hrun _ _ _ hW (lv_sub hl [2, 3, 4, 5, 0] rfl)
      · replace ho := ite_f c5 ho
        refine lv_iload_n hx hb dX1_firstEvent_34 rfl (lv_at hl 4 rfl) ?_
        refine lv_if_lt (tgt := 44) hx hb dX1_firstEvent_35 (by decide) (fun c7 => ?_) (fun c7 => ?_)
        · replace ho := ite_t c7 ho
          refine lv_iload hx hb dX1_firstEvent_44 (lv_at hl 0 rfl) ?_
          refine lv_istore_n (lv' := [(3, .int q3), (5, .int q3), (0, .ref (am 2001)), (1, .int v1), (2, .int v2), (4, .int v4)]) hx hb dX1_firstEvent_46 rfl hl (by decide) rfl (fun ls hl => ?_)
          obtain ⟨x8, ex8, ho⟩ := nm_x ho
          refine lv_iinc (v := x8) (lv' := [(4, .int x8), (3, .int q3), (5, .int q3), (0, .ref (am 2001)), (1, .int v1), (2, .int v2)]) hx hb dX1_firstEvent_47 hl (k := 5) rfl (by rw [ex8]; rfl) (by decide) rfl (fun ls hl => ?_)
          clear ex8
          refine lv_goto (tgt := 5) hx hb dX1_firstEvent_50 (by decide) ?_
          cases ho
          exact ih _ _ hrun _ _ _ hW (lv_sub hl [3, 4, 5, 1, 0] rfl)
        · replace ho := ite_f c7 ho
          refine lv_iload hx hb dX1_firstEvent_38 (lv_at hl 0 rfl) ?_
          refine lv_iload_n hx hb dX1_firstEvent_40 rfl (lv_at hl 4 rfl) ?_
          refine lv_icmp_ge (tgt := 47) hx hb dX1_firstEvent_41 (by decide) (fun c9 => ?_) (fun c9 => ?_)
          · replace ho := ite_t c9 ho
            obtain ⟨x10, ex10, ho⟩ := nm_x ho
            refine lv_iinc (v := x10) (lv' := [(4, .int x10), (5, .int q3), (0, .ref (am 2001)), (1, .int v1), (2, .int v2), (3, .int v3)]) hx hb dX1_firstEvent_47 hl (k := 5) rfl (by rw [ex10]; rfl) (by decide) rfl (fun ls hl => ?_)
            clear ex10
            refine lv_goto (tgt := 5) hx hb dX1_firstEvent_50 (by decide) ?_
            cases ho
            exact ih _ _ hrun _ _ _ hW (lv_sub hl [2, 3, 4, 5, 0] rfl)
          · replace ho := ite_f c9 ho
            refine lv_iload hx hb dX1_firstEvent_44 (lv_at hl 0 rfl) ?_
            refine lv_istore_n (lv' := [(3, .int q3), (5, .int q3), (0, .ref (am 2001)), (1, .int v1), (2, .int v2), (4, .int v4)]) hx hb dX1_firstEvent_46 rfl hl (by decide) rfl (fun ls hl => ?_)
            obtain ⟨x11, ex11, ho⟩ := nm_x ho
            refine lv_iinc (v := x11) (lv' := [(4, .int x11), (3, .int q3), (5, .int q3), (0, .ref (am 2001)), (1, .int v1), (2, .int v2)]) hx hb dX1_firstEvent_47 hl (k := 5) rfl (by rw [ex11]; rfl) (by decide) rfl (fun ls hl => ?_)
            clear ex11
            refine lv_goto (tgt := 5) hx hb dX1_firstEvent_50 (by decide) ?_
            cases ho
            exact ih _ _ hrun _ _ _ hW (lv_sub hl [3, 4, 5, 1, 0] rfl)
set_option maxHeartbeats 4000000 in
set_option maxRecDepth 100000 in
theorem c_x1_firstEvent (l : Launch) {D : va_G} {cI cJ cZ cR : ClassId} {am gm : Nat → Nat} {st : Nat} (sz : Nat) (t : St) (a1 : Int32) (a2 : Int32) {r : Int32} (ho : x1_firstEvent t a1 a2 = some r) : Met l yX1_firstEvent (.code yX1_firstEvent cX1_firstEvent 6 (some .int) :: wsAll) (rmN 2 45) (va_Pc [.ref (am 2001), .int a1, .int a2] (prX D (tyX cI cJ cZ cR) (wX cI cJ cZ cR am gm t) sz st)) (qI r D (tyX cI cJ cZ cR) (wX cI cJ cZ cR am gm t) (va_A (wX cI cJ cZ cR am gm t) sz)) 0 0 (va_A (wX cI cJ cZ cR am gm t) sz) := by
  refine Met.ofW (cc := cX1_firstEvent) (maxL := 6) (ret := (some .int)) (by decide) rfl ?_
  intro p e s m args below meth c s₁ B hml hv
  obtain ⟨rfl, ⟨hsz, hP, hK, hD0⟩, hsx⟩ := hv
  have hx := B.exec
  have hb := B.bytes
  have hts := atoms_spec (ws := (.code yX1_firstEvent cX1_firstEvent 6 (some .int) :: wsAll)) B.pre
  have hta := fun w h => hts w (List.mem_cons_of_mem _ h)
  have hown : s.vm.findClass RX1 = some m.cls := findClass_of_methodNamed B.named
  have hlocks := B.notSynchronized
  subst hsz
  have hD := hD0.self (sz := s.heap.size)
  generalize hAe : va_A (wX cI cJ cZ cR am gm t) s.heap.size = A at hD ⊢
  have hA : ∀ q : Nat, s.heap.size ≤ q → A q := fun q h => by rw [← hAe]; exact Or.inr h
  have C0 : cxX p s m ([.ref (am 2001), .int a1, .int a2].toArray) meth c cX1_firstEvent RX1 6 (some .int) D (tyX cI cJ cZ cR) st A := ⟨⟨hx, hb, B.returns, hml, hown, hta, hlocks, hK, hA⟩, by rw [← hAe]; exact hsx⟩
  have hW : wl D A s (wX cI cJ cZ cR am gm t) s.heap [] := ⟨hP, hD, va_S.rf⟩
  have hl := lv_entry [.ref (am 2001), .int a1, .int a2] (n := 6) (Nat.le_of_ble_eq_true rfl)
  rw [lg_entry_eq]
  generalize (lg_sl [.ref (am 2001), .int a1, .int a2] ++ List.replicate (6 - (lg_sl [.ref (am 2001), .int a1, .int a2]).length) Slot.unset).toArray = ls at hl ⊢
  have hl : lv_has ls 6 [(0, .ref (am 2001)), (1, .int a1), (2, .int a2)] := hl
  unfold x1_firstEvent at ho
  refine lv_iconst (v := (-1 : Int32)) hx hb dX1_firstEvent_0 (by decide) ?_
  refine lv_istore_n (lv' := [(3, .int (-1 : Int32)), (0, .ref (am 2001)), (1, .int a1), (2, .int a2)]) hx hb dX1_firstEvent_1 rfl hl (by decide) rfl (fun ls hl => ?_)
  refine lv_iconst (v := (0 : Int32)) hx hb dX1_firstEvent_2 (by decide) ?_
  refine lv_istore (lv' := [(4, .int (0 : Int32)), (3, .int (-1 : Int32)), (0, .ref (am 2001)), (1, .int a1), (2, .int a2)]) hx hb dX1_firstEvent_3 hl (by decide) rfl (fun ls hl => ?_)
  obtain ⟨y12, hc14, ho⟩ := bd_some ho
  obtain ⟨ny12, hc14⟩ := lp_to hc14
  refine x1_firstEvent_L5 C0 ?_ ny12 _ _ hc14 _ _ _ hW (lv_sub hl [2, 3, 4, 1, 0] rfl)
  intro H locs ls hW hl
  refine lv_iload_n hx hb dX1_firstEvent_53 rfl (lv_at hl 1 rfl) ?_
  cases ho
  exact rtI C0.1 hW dX1_firstEvent_54
noncomputable def x1_knotEvent (t : St) (a1 : Int32) (a2 : Int32) : Option (Int32 × St) :=
  gd a1 (gN t 603) (if (gA t 603 (a1).toNatClampNeg) = (0 : Int32) then (gd a1 (gN t 604) ((x1_letterEvent t (gA t 604 (a1).toNatClampNeg) a2).bind (fun q4 => some (q4, t)))) else if (gA t 603 (a1).toNatClampNeg) = (1 : Int32) then ((x1_firstEvent t a1 a2).bind (fun q7 => some (q7, t))) else if (gA t 603 (a1).toNatClampNeg) = (2 : Int32) then ((x1_chainEvent t a1 a2).bind (fun q10 => some (q10, t))) else if (gA t 603 (a1).toNatClampNeg) = (3 : Int32) then ((x1_lastEvent t a1 a2).bind (fun q13 => some (q13, t))) else ((x1_someEvent t a1 a2).bind (fun q15 => some (q15.1, q15.2))))
theorem mm_x1_knotEvent (t : St) (a1 : Int32) (a2 : Int32) : MR (x1_knotEvent t a1 a2) t (fun (a : Int32 × St) => a.2) := by
  unfold x1_knotEvent
  exact MR_gd (MR_ite (MR_gd (MR_bindn (fun q4 => MR_some mle.rfl))) (MR_ite (MR_bindn (fun q7 => MR_some mle.rfl)) (MR_ite (MR_bindn (fun q10 => MR_some mle.rfl)) (MR_ite (MR_bindn (fun q13 => MR_some mle.rfl)) (MR_bind (mm_x1_someEvent t a1 a2) (fun q15 hq15 => MR_some hq15))))))
set_option maxHeartbeats 4000000 in
set_option maxRecDepth 100000 in
theorem c_x1_knotEvent (l : Launch) {D : va_G} {cI cJ cZ cR : ClassId} {am gm : Nat → Nat} {st : Nat} (sz : Nat) (t : St) (a1 : Int32) (a2 : Int32) {r : Int32} {t' : St} (ho : x1_knotEvent t a1 a2 = some (r, t')) : Met l yX1_knotEvent (.code yX1_knotEvent cX1_knotEvent 3 (some .int) :: wsAll) (rmN 3 70) (va_Pc [.ref (am 2001), .int a1, .int a2] (prX D (tyX cI cJ cZ cR) (wX cI cJ cZ cR am gm t) sz st)) (qI r D (tyX cI cJ cZ cR) (wX cI cJ cZ cR am gm t') (va_A (wX cI cJ cZ cR am gm t) sz)) 0 0 (va_A (wX cI cJ cZ cR am gm t) sz) := by
  refine Met.ofW (cc := cX1_knotEvent) (maxL := 3) (ret := (some .int)) (by decide) rfl ?_
  intro p e s m args below meth c s₁ B hml hv
  obtain ⟨rfl, ⟨hsz, hP, hK, hD0⟩, hsx⟩ := hv
  have hx := B.exec
  have hb := B.bytes
  have hts := atoms_spec (ws := (.code yX1_knotEvent cX1_knotEvent 3 (some .int) :: wsAll)) B.pre
  have hta := fun w h => hts w (List.mem_cons_of_mem _ h)
  have hown : s.vm.findClass RX1 = some m.cls := findClass_of_methodNamed B.named
  have hlocks := B.notSynchronized
  subst hsz
  have hD := hD0.self (sz := s.heap.size)
  generalize hAe : va_A (wX cI cJ cZ cR am gm t) s.heap.size = A at hD ⊢
  have hA : ∀ q : Nat, s.heap.size ≤ q → A q := fun q h => by rw [← hAe]; exact Or.inr h
  have C0 : cxX p s m ([.ref (am 2001), .int a1, .int a2].toArray) meth c cX1_knotEvent RX1 3 (some .int) D (tyX cI cJ cZ cR) st A := ⟨⟨hx, hb, B.returns, hml, hown, hta, hlocks, hK, hA⟩, by rw [← hAe]; exact hsx⟩
  have hW : wl D A s (wX cI cJ cZ cR am gm t) s.heap [] := ⟨hP, hD, va_S.rf⟩
  have hl := lv_entry [.ref (am 2001), .int a1, .int a2] (n := 3) (Nat.le_of_ble_eq_true rfl)
  rw [lg_entry_eq]
  generalize (lg_sl [.ref (am 2001), .int a1, .int a2] ++ List.replicate (3 - (lg_sl [.ref (am 2001), .int a1, .int a2]).length) Slot.unset).toArray = ls at hl ⊢
  have hl : lv_has ls 3 [(0, .ref (am 2001)), (1, .int a1), (2, .int a2)] := hl
  unfold x1_knotEvent at ho
  refine lv_aload_n hx hb dX1_knotEvent_0 rfl (lv_at hl 0 rfl) ?_
  refine xGET_101 C0 kw_534 hW dX1_knotEvent_1 ?_
  refine xGET_603 C0 kw_188 hW dX1_knotEvent_4 ?_
  refine lv_iload_n hx hb dX1_knotEvent_7 rfl (lv_at hl 1 rfl) ?_
  obtain ⟨g1, ho⟩ := gd_some ho
  refine xLD_603 C0 hW g1 dX1_knotEvent_8 ?_
  by_cases c2 : (gA t 603 (a1).toNatClampNeg) = (0 : Int32)
  · replace ho := ite_t c2 ho
    refine lv_tableIn (tgt := 40) (off := 31) hx hb dX1_knotEvent_9 (by rw [c2]; decide) (by rw [c2]; decide) (by rw [c2]; rfl) (by decide) ?_
    refine lv_aload_n hx hb dX1_knotEvent_40 rfl (lv_at hl 0 rfl) ?_
    refine lv_aload_n hx hb dX1_knotEvent_41 rfl (lv_at hl 0 rfl) ?_
    refine xGET_101 C0 kw_534 hW dX1_knotEvent_42 ?_
    refine xGET_604 C0 kw_192 hW dX1_knotEvent_45 ?_
    refine lv_iload_n hx hb dX1_knotEvent_48 rfl (lv_at hl 1 rfl) ?_
    obtain ⟨g3, ho⟩ := gd_some ho
    refine xLD_604 C0 hW g3 dX1_knotEvent_49 ?_
    refine lv_iload_n hx hb dX1_knotEvent_50 rfl (lv_at hl 2 rfl) ?_
    obtain ⟨q4, hc5, ho⟩ := bd_some ho
    refine bkI C0.1 hW (runVX (As := [.int (gA t 604 (a1).toNatClampNeg), .int a2]) (rest := []) C0 hW (c_x1_letterEvent l _ t (gA t 604 (a1).toNatClampNeg) a2 (r := q4) hc5) cb_X1_X1_letterEvent_64 1 1 rfl rfl rfl rfl rfl ⟨rfl, rfl⟩ ⟨Nat.le_of_ble_eq_true rfl, Nat.le_of_ble_eq_true rfl⟩ (Nat.le_of_ble_eq_true rfl) hl.1 dX1_knotEvent_51 ⟨Nat.le_of_ble_eq_true rfl, Nat.le_of_ble_eq_true rfl⟩) (fun H locs hW => ?_)
    cases ho
    exact rtI C0.1 hW dX1_knotEvent_54
  replace ho := ite_f c2 ho
  by_cases c6 : (gA t 603 (a1).toNatClampNeg) = (1 : Int32)
  · replace ho := ite_t c6 ho
    refine lv_tableIn (tgt := 55) (off := 46) hx hb dX1_knotEvent_9 (by rw [c6]; decide) (by rw [c6]; decide) (by rw [c6]; rfl) (by decide) ?_
    refine lv_aload_n hx hb dX1_knotEvent_55 rfl (lv_at hl 0 rfl) ?_
    refine lv_iload_n hx hb dX1_knotEvent_56 rfl (lv_at hl 1 rfl) ?_
    refine lv_iload_n hx hb dX1_knotEvent_57 rfl (lv_at hl 2 rfl) ?_
    obtain ⟨q7, hc8, ho⟩ := bd_some ho
    refine bkI C0.1 hW (runVX (As := [.int a1, .int a2]) (rest := []) C0 hW (c_x1_firstEvent l _ t a1 a2 (r := q7) hc8) cb_X1_X1_firstEvent_67 1 1 rfl rfl rfl rfl rfl ⟨rfl, rfl⟩ ⟨Nat.le_of_ble_eq_true rfl, Nat.le_of_ble_eq_true rfl⟩ (Nat.le_of_ble_eq_true rfl) hl.1 dX1_knotEvent_58 ⟨Nat.le_of_ble_eq_true rfl, Nat.le_of_ble_eq_true rfl⟩) (fun H locs hW => ?_)
    cases ho
    exact rtI C0.1 hW dX1_knotEvent_61
  replace ho := ite_f c6 ho
  by_cases c9 : (gA t 603 (a1).toNatClampNeg) = (2 : Int32)
  · replace ho := ite_t c9 ho
    refine lv_tableIn (tgt := 62) (off := 53) hx hb dX1_knotEvent_9 (by rw [c9]; decide) (by rw [c9]; decide) (by rw [c9]; rfl) (by decide) ?_
    refine lv_aload_n hx hb dX1_knotEvent_62 rfl (lv_at hl 0 rfl) ?_
    refine lv_iload_n hx hb dX1_knotEvent_63 rfl (lv_at hl 1 rfl) ?_
    refine lv_iload_n hx hb dX1_knotEvent_64 rfl (lv_at hl 2 rfl) ?_
    obtain ⟨q10, hc11, ho⟩ := bd_some ho
    refine bkI C0.1 hW (runVX (As := [.int a1, .int a2]) (rest := []) C0 hW (c_x1_chainEvent l _ t a1 a2 (r := q10) hc11) cb_X1_X1_chainEvent_70 1 1 rfl rfl rfl rfl rfl ⟨rfl, rfl⟩ ⟨Nat.le_of_ble_eq_true rfl, Nat.le_of_ble_eq_true rfl⟩ (Nat.le_of_ble_eq_true rfl) hl.1 dX1_knotEvent_65 ⟨Nat.le_of_ble_eq_true rfl, Nat.le_of_ble_eq_true rfl⟩) (fun H locs hW => ?_)
    cases ho
    exact rtI C0.1 hW dX1_knotEvent_68
  replace ho := ite_f c9 ho
  by_cases c12 : (gA t 603 (a1).toNatClampNeg) = (3 : Int32)
  · replace ho := ite_t c12 ho
    refine lv_tableIn (tgt := 69) (off := 60) hx hb dX1_knotEvent_9 (by rw [c12]; decide) (by rw [c12]; decide) (by rw [c12]; rfl) (by decide) ?_
    refine lv_aload_n hx hb dX1_knotEvent_69 rfl (lv_at hl 0 rfl) ?_
    refine lv_iload_n hx hb dX1_knotEvent_70 rfl (lv_at hl 1 rfl) ?_
    refine lv_iload_n hx hb dX1_knotEvent_71 rfl (lv_at hl 2 rfl) ?_
    obtain ⟨q13, hc14, ho⟩ := bd_some ho
    refine bkI C0.1 hW (runVX (As := [.int a1, .int a2]) (rest := []) C0 hW (c_x1_lastEvent l _ t a1 a2 (r := q13) hc14) cb_X1_X1_lastEvent_73 1 1 rfl rfl rfl rfl rfl ⟨rfl, rfl⟩ ⟨Nat.le_of_ble_eq_true rfl, Nat.le_of_ble_eq_true rfl⟩ (Nat.le_of_ble_eq_true rfl) hl.1 dX1_knotEvent_72 ⟨Nat.le_of_ble_eq_true rfl, Nat.le_of_ble_eq_true rfl⟩) (fun H locs hW => ?_)
    cases ho
    exact rtI C0.1 hW dX1_knotEvent_75
  replace ho := ite_f c12 ho
  refine lv_tableOut (tgt := 76) hx hb dX1_knotEvent_9 (tsw_3 c2 c6 c9 c12) (by decide) ?_
  refine lv_aload_n hx hb dX1_knotEvent_76 rfl (lv_at hl 0 rfl) ?_
  refine lv_iload_n hx hb dX1_knotEvent_77 rfl (lv_at hl 1 rfl) ?_
  refine lv_iload_n hx hb dX1_knotEvent_78 rfl (lv_at hl 2 rfl) ?_
  obtain ⟨q15, hc16, ho⟩ := bd_some ho
  refine bkI C0.1 hW (runVX (As := [.int a1, .int a2]) (rest := []) C0 hW (c_x1_someEvent l _ t a1 a2 (r := q15.1) (t' := q15.2) hc16) cb_X1_X1_someEvent_76 1 1 rfl rfl rfl rfl rfl ⟨rfl, rfl⟩ ⟨Nat.le_of_ble_eq_true rfl, Nat.le_of_ble_eq_true rfl⟩ (Nat.le_of_ble_eq_true rfl) hl.1 dX1_knotEvent_79 ⟨Nat.le_of_ble_eq_true rfl, Nat.le_of_ble_eq_true rfl⟩) (fun H locs hW => ?_)
  cases ho
  exact rtI C0.1 hW dX1_knotEvent_82
noncomputable def x1_eventReaching_B39 (v1 : Int32) (v2 : Int32) (v3 : Int32) (v4 : Int32) (t : St) : Option ((Int32 × St) ⊕ (St)) :=
  if (gI t 104) < v4 then (some (.inr t)) else ((x1_knotEvent t v3 v4).bind (fun q2 => gd ((v3 * (gI t 106)) + v4) (gN q2.2 105) (nm (sA q2.2 105 ((v3 * (gI t 106)) + v4) q2.1) (fun t5 : St => nm (v4 + (1 : Int32)) (fun x6 : Int32 => some (.inl (x6, t5)))))))
theorem mm_x1_eventReaching_B39 (v1 : Int32) (v2 : Int32) (v3 : Int32) (v4 : Int32) (t : St) : MR (x1_eventReaching_B39 v1 v2 v3 v4 t) t (Sum.elim (fun (x : Int32 × St) => x.2) (fun (y : St) => y)) := by
  unfold x1_eventReaching_B39
  exact MR_ite (MR_some mle.rfl) (MR_bind (mm_x1_knotEvent t v3 v4) (fun q2 hq2 => MR_gd (MR_nmS mle_sA (fun t5 ht5 => MR_nm (fun x6 _ => MR_some (mle.trans hq2 ht5))))))
theorem mm_x1_eventReaching_L39 (v1 : Int32) (v2 : Int32) (v3 : Int32) (v4 : Int32) (t : St) : MR (lp (fun x => x1_eventReaching_B39 v1 v2 v3 x.1 x.2) (v4, t)) t (fun (y : St) => y) := MR_lp (p := (fun (x : Int32 × St) => x.2)) (q := (fun (y : St) => y)) (fun x => mm_x1_eventReaching_B39 v1 v2 v3 x.1 x.2) (v4, t)
noncomputable def x1_eventReaching_B31 (v1 : Int32) (v2 : Int32) (v3 : Int32) (t : St) : Option ((Int32 × St) ⊕ (St)) :=
  if v1 < v3 then (some (.inr t)) else ((lp (fun x => x1_eventReaching_B39 v1 v2 v3 x.1 x.2) (v2, t)).bind (fun y8 => nm (v3 + (1 : Int32)) (fun x11 : Int32 => some (.inl (x11, y8)))))
theorem mm_x1_eventReaching_B31 (v1 : Int32) (v2 : Int32) (v3 : Int32) (t : St) : MR (x1_eventReaching_B31 v1 v2 v3 t) t (Sum.elim (fun (x : Int32 × St) => x.2) (fun (y : St) => y)) := by
  unfold x1_eventReaching_B31
  exact MR_ite (MR_some mle.rfl) (MR_bind (mm_x1_eventReaching_L39 v1 v2 v3 v2 t) (fun y8 hm9 => MR_nm (fun x11 _ => MR_some hm9)))
theorem mm_x1_eventReaching_L31 (v1 : Int32) (v2 : Int32) (v3 : Int32) (t : St) : MR (lp (fun x => x1_eventReaching_B31 v1 v2 x.1 x.2) (v3, t)) t (fun (y : St) => y) := MR_lp (p := (fun (x : Int32 × St) => x.2)) (q := (fun (y : St) => y)) (fun x => mm_x1_eventReaching_B31 v1 v2 x.1 x.2) (v3, t)
noncomputable def x1_eventReaching_J29 (t : St) (v1 : Int32) (v2 : Int32) : Option (Int32 × St) :=
  (lp (fun x => x1_eventReaching_B31 v1 v2 x.1 x.2) ((0 : Int32), t)).bind (fun y12 => gd ((v1 * (gI y12 106)) + v2) (gN y12 105) (some ((gA y12 105 (((v1 * (gI y12 106)) + v2)).toNatClampNeg), y12)))
theorem mm_x1_eventReaching_J29 (t : St) (v1 : Int32) (v2 : Int32) : MR (x1_eventReaching_J29 t v1 v2) t (fun (a : Int32 × St) => a.2) := by
  unfold x1_eventReaching_J29
  exact MR_bind (mm_x1_eventReaching_L31 v1 v2 (0 : Int32) t) (fun y12 hm13 => MR_gd (MR_some hm13))
noncomputable def x1_eventReaching (t0 : St) (a1 : Int32) (a2 : Int32) : Option (Int32 × St) :=
  nm (sI t0 106 ((gI t0 104) + (1 : Int32))) (fun t16 : St => grw t16 105 ((a1 + (1 : Int32)) * (gI t16 106)) (fun t17 : St => x1_eventReaching_J29 t17 a1 a2))
theorem mm_x1_eventReaching (t0 : St) (a1 : Int32) (a2 : Int32) : MR (x1_eventReaching t0 a1 a2) t0 (fun (a : Int32 × St) => a.2) := by
  unfold x1_eventReaching
  exact MR_nmS mle_sI (fun t16 ht16 => MR_grw (fun t17 ht17 => MR_wk (mle.trans ht16 ht17) (mm_x1_eventReaching_J29 t17 a1 a2)))
set_option maxHeartbeats 4000000 in
set_option maxRecDepth 100000 in
theorem x1_eventReaching_L39 {p : Program} {l : Launch} {e : Env} {s : State} {m : MethodId} {args : Array Value} {below : List Frame} {meth : Method} {c : Code} {Q : State → Prop} {D : va_G} {cI cJ cZ cR : ClassId} {am gm : Nat → Nat} {st : Nat} {A : Nat → Prop} (C0 : cxX p s m args meth c cX1_eventReaching RX1 5 (some .int) D (tyX cI cJ cZ cR) st A) {t0 t' : St} {cells slots : Nat} (hR : cells ≤ mC t0 t' ∧ slots ≤ mS t0 t') {v1 : Int32} {v2 : Int32} {v3 : Int32} {y : St} (hK0 : ∀ (H : Heap) (locs : List Loc) (ls : Array Slot), wl D A s (wX cI cJ cZ cR am gm y) H locs → lv_has ls 5 [(0, .ref (am 2001)), (1, .int v1), (2, .int v2), (3, .int v3)] → W p l e (rmA 4 92 t0 t') s m args below meth c H locs cells slots Q (F0 m 75 ls [])) :
    ∀ (n : Nat) (v4 : Int32) (t : St), lpn (fun x => x1_eventReaching_B39 v1 v2 v3 x.1 x.2) n (v4, t) = some y → ∀ (H : Heap) (locs : List Loc) (ls : Array Slot), wl D A s (wX cI cJ cZ cR am gm t) H locs → lv_has ls 5 [(0, .ref (am 2001)), (1, .int v1), (2, .int v2), (3, .int v3), (4, .int v4)] → W p l e (rmA 4 92 t0 t') s m args below meth c H locs cells slots Q (F0 m 39 ls []) := by
  have hx := C0.1.1
  have hb := C0.1.2.1
  have hta := C0.1.2.2.2.2.2.1
  have hown := C0.1.2.2.2.2.1
  intro n
  induction n with
  | zero => intro _ _ h; cases h
  | succ n ih =>
    intro v4 t hrun H locs ls hW hl
    obtain ⟨o, ho, hrun⟩ := bd_some hrun
    unfold x1_eventReaching_B39 at ho
    refine lv_iload hx hb dX1_eventReaching_39 (lv_at hl 4 rfl) ?_
    refine lv_aload_n hx hb dX1_eventReaching_41 rfl (lv_at hl 0 rfl) ?_
    refine xGET_104 C0 kw_537 hW dX1_eventReaching_42 ?_
    refine lv_icmp_gt (tgt := 75) hx hb dX1_eventReaching_45 (by decide) (fun c1 => ?_) (fun c1 => ?_)
    · replace ho := ite_t c1 ho
      cases ho
      cases hrun
      exact hK0 _ _ _ hW (lv_sub hl [0, 1, 2, 3] rfl)
    · replace ho := ite_f c1 ho
      refine lv_aload_n hx hb dX1_eventReaching_48 rfl (lv_at hl 0 rfl) ?_
      refine xGET_105 C0 kw_539 hW dX1_eventReaching_49 ?_
      refine lv_iload_n hx hb dX1_eventReaching_52 rfl (lv_at hl 3 rfl) ?_
      refine lv_aload_n hx hb dX1_eventReaching_53 rfl (lv_at hl 0 rfl) ?_
      refine xGET_106 C0 kw_540 hW dX1_eventReaching_54 ?_
      refine lv_imul hx hb dX1_eventReaching_57 ?_
      refine lv_iload hx hb dX1_eventReaching_58 (lv_at hl 4 rfl) ?_
      refine lv_iadd hx hb dX1_eventReaching_60 ?_
      refine lv_aload_n hx hb dX1_eventReaching_61 rfl (lv_at hl 0 rfl) ?_
      refine lv_iload_n hx hb dX1_eventReaching_62 rfl (lv_at hl 3 rfl) ?_
      refine lv_iload hx hb dX1_eventReaching_63 (lv_at hl 4 rfl) ?_
      obtain ⟨q2, hc3, ho⟩ := bd_some ho
      have hq2 := mm_x1_knotEvent t v3 v4 _ hc3
      refine bkI C0.1 hW (runVX (As := [.int v3, .int v4]) (rest := [.int ((v3 * (gI t 106)) + v4), .ref (gm 105)]) C0 hW (c_x1_knotEvent l _ t v3 v4 (r := q2.1) (t' := q2.2) hc3) cb_X1_X1_knotEvent_53 1 1 rfl rfl rfl rfl rfl ⟨rfl, rfl⟩ ⟨Nat.le_of_ble_eq_true rfl, Nat.le_of_ble_eq_true rfl⟩ (Nat.le_of_ble_eq_true rfl) hl.1 dX1_eventReaching_65 ⟨hR.1, hR.2⟩) (fun H locs hW => ?_)
      obtain ⟨g4, ho⟩ := gd_some ho
      refine xST_105 C0 hW g4 dX1_eventReaching_68 (fun H locs hW => ?_)
      obtain ⟨t5, ht5, ho, hW⟩ := nm_wm (P := fun t => wl D A s (wX cI cJ cZ cR am gm t) H locs) mle_sA ho hW
      obtain ⟨x6, ex6, ho⟩ := nm_x ho
      refine lv_iinc (v := x6) (lv' := [(4, .int x6), (0, .ref (am 2001)), (1, .int v1), (2, .int v2), (3, .int v3)]) hx hb dX1_eventReaching_69 hl (k := 4) rfl (by rw [ex6]; rfl) (by decide) rfl (fun ls hl => ?_)
      clear ex6
      refine lv_goto (tgt := 39) hx hb dX1_eventReaching_72 (by decide) ?_
      cases ho
      exact ih _ _ hrun _ _ _ hW (lv_sub hl [1, 2, 3, 4, 0] rfl)
set_option maxHeartbeats 4000000 in
set_option maxRecDepth 100000 in
theorem x1_eventReaching_L31 {p : Program} {l : Launch} {e : Env} {s : State} {m : MethodId} {args : Array Value} {below : List Frame} {meth : Method} {c : Code} {Q : State → Prop} {D : va_G} {cI cJ cZ cR : ClassId} {am gm : Nat → Nat} {st : Nat} {A : Nat → Prop} (C0 : cxX p s m args meth c cX1_eventReaching RX1 5 (some .int) D (tyX cI cJ cZ cR) st A) {t0 t' : St} {cells slots : Nat} (hR : cells ≤ mC t0 t' ∧ slots ≤ mS t0 t') {v1 : Int32} {v2 : Int32} {y : St} (hK0 : ∀ (H : Heap) (locs : List Loc) (ls : Array Slot), wl D A s (wX cI cJ cZ cR am gm y) H locs → lv_has ls 5 [(0, .ref (am 2001)), (1, .int v1), (2, .int v2)] → W p l e (rmA 4 92 t0 t') s m args below meth c H locs cells slots Q (F0 m 81 ls [])) :
    ∀ (n : Nat) (v3 : Int32) (t : St), lpn (fun x => x1_eventReaching_B31 v1 v2 x.1 x.2) n (v3, t) = some y → ∀ (H : Heap) (locs : List Loc) (ls : Array Slot), wl D A s (wX cI cJ cZ cR am gm t) H locs → lv_has ls 5 [(0, .ref (am 2001)), (1, .int v1), (2, .int v2), (3, .int v3)] → W p l e (rmA 4 92 t0 t') s m args below meth c H locs cells slots Q (F0 m 31 ls []) := by
  have hx := C0.1.1
  have hb := C0.1.2.1
  have hta := C0.1.2.2.2.2.2.1
  have hown := C0.1.2.2.2.2.1
  intro n
  induction n with
  | zero => intro _ _ h; cases h
  | succ n ih =>
    intro v3 t hrun H locs ls hW hl
    obtain ⟨o, ho, hrun⟩ := bd_some hrun
    unfold x1_eventReaching_B31 at ho
    refine lv_iload_n hx hb dX1_eventReaching_31 rfl (lv_at hl 3 rfl) ?_
    refine lv_iload_n hx hb dX1_eventReaching_32 rfl (lv_at hl 1 rfl) ?_
    refine lv_icmp_gt (tgt := 81) hx hb dX1_eventReaching_33 (by decide) (fun c7 => ?_) (fun c7 => ?_)
    · replace ho := ite_t c7 ho
      cases ho
      cases hrun
      exact hK0 _ _ _ hW (lv_sub hl [0, 1, 2] rfl)
    · replace ho := ite_f c7 ho
      refine lv_iload_n hx hb dX1_eventReaching_36 rfl (lv_at hl 2 rfl) ?_
      refine lv_istore (lv' := [(4, .int v2), (0, .ref (am 2001)), (1, .int v1), (2, .int v2), (3, .int v3)]) hx hb dX1_eventReaching_37 hl (by decide) rfl (fun ls hl => ?_)
      obtain ⟨y8, hc10, ho⟩ := bd_some ho
      have hm9 := mm_x1_eventReaching_L39 v1 v2 v3 v2 t _ hc10
      obtain ⟨ny8, hc10⟩ := lp_to hc10
      refine x1_eventReaching_L39 C0 hR ?_ ny8 _ _ hc10 _ _ _ hW (lv_sub hl [1, 2, 3, 4, 0] rfl)
      intro H locs ls hW hl
      obtain ⟨x11, ex11, ho⟩ := nm_x ho
      refine lv_iinc (v := x11) (lv' := [(3, .int x11), (0, .ref (am 2001)), (1, .int v1), (2, .int v2)]) hx hb dX1_eventReaching_75 hl (k := 3) rfl (by rw [ex11]; rfl) (by decide) rfl (fun ls hl => ?_)
      clear ex11
      refine lv_goto (tgt := 31) hx hb dX1_eventReaching_78 (by decide) ?_
      cases ho
      exact ih _ _ hrun _ _ _ hW (lv_sub hl [1, 2, 3, 0] rfl)
set_option maxHeartbeats 4000000 in
set_option maxRecDepth 100000 in
theorem c_x1_eventReaching (l : Launch) {D : va_G} {cI cJ cZ cR : ClassId} {am gm : Nat → Nat} {st : Nat} (sz : Nat) (t0 : St) (a1 : Int32) (a2 : Int32) {r : Int32} {t' : St} (ho : x1_eventReaching t0 a1 a2 = some (r, t')) : Met l yX1_eventReaching (.code yX1_eventReaching cX1_eventReaching 5 (some .int) :: wsAll) (rmA 4 92 t0 t') (va_Pc [.ref (am 2001), .int a1, .int a2] (prX D (tyX cI cJ cZ cR) (wX cI cJ cZ cR am gm t0) sz st)) (qIa r D (tyX cI cJ cZ cR) (fun gm => wX cI cJ cZ cR am gm t') (va_A (wX cI cJ cZ cR am gm t0) sz)) (mC t0 t') (mS t0 t') (va_A (wX cI cJ cZ cR am gm t0) sz) := by
  refine Met.ofW (cc := cX1_eventReaching) (maxL := 5) (ret := (some .int)) (by decide) rfl ?_
  intro p e s m args below meth c s₁ B hml hv
  obtain ⟨rfl, ⟨hsz, hP, hK, hD0⟩, hsx⟩ := hv
  have hx := B.exec
  have hb := B.bytes
  have hts := atoms_spec (ws := (.code yX1_eventReaching cX1_eventReaching 5 (some .int) :: wsAll)) B.pre
  have hta := fun w h => hts w (List.mem_cons_of_mem _ h)
  have hown : s.vm.findClass RX1 = some m.cls := findClass_of_methodNamed B.named
  have hlocks := B.notSynchronized
  subst hsz
  have hD := hD0.self (sz := s.heap.size)
  generalize hAe : va_A (wX cI cJ cZ cR am gm t0) s.heap.size = A at hD ⊢
  have hA : ∀ q : Nat, s.heap.size ≤ q → A q := fun q h => by rw [← hAe]; exact Or.inr h
  have C0 : cxX p s m ([.ref (am 2001), .int a1, .int a2].toArray) meth c cX1_eventReaching RX1 5 (some .int) D (tyX cI cJ cZ cR) st A := ⟨⟨hx, hb, B.returns, hml, hown, hta, hlocks, hK, hA⟩, by rw [← hAe]; exact hsx⟩
  have hW : wl D A s (wX cI cJ cZ cR am gm t0) s.heap [] := ⟨hP, hD, va_S.rf⟩
  have hl := lv_entry [.ref (am 2001), .int a1, .int a2] (n := 5) (Nat.le_of_ble_eq_true rfl)
  rw [lg_entry_eq]
  generalize (lg_sl [.ref (am 2001), .int a1, .int a2] ++ List.replicate (5 - (lg_sl [.ref (am 2001), .int a1, .int a2]).length) Slot.unset).toArray = ls at hl ⊢
  have hl : lv_has ls 5 [(0, .ref (am 2001)), (1, .int a1), (2, .int a2)] := hl
  clear hAe hD hP hD0 hts
  have J29 : ∀ (gm : Nat → Nat) (t : St) (v1 : Int32) (v2 : Int32) (_ : x1_eventReaching_J29 t v1 v2 = some (r, t')) (_ : mle t0 t) (H : Heap) (locs : List Loc) (ls : Array Slot), wl D A s (wX cI cJ cZ cR am gm t) H locs → lv_has ls 5 [(0, .ref (am 2001)), (1, .int v1), (2, .int v2)] → W p l e (rmA 4 92 t0 t') s m ([.ref (am 2001), .int a1, .int a2].toArray) below meth c H locs (mC t0 t) (mS t0 t) (MQ below (qIa r D (tyX cI cJ cZ cR) (fun gm => wX cI cJ cZ cR am gm t') A) ([.ref (am 2001), .int a1, .int a2].toArray) s (mC t0 t') (mS t0 t') A) (F0 m 29 ls []) := by
    intro gm t v1 v2 ho h0 H locs ls hW hl
    have hE : mle t t' := (mm_x1_eventReaching_J29 _ _ _ _ ho)
    have hR := hR_of (t0 := t0) hE
    unfold x1_eventReaching_J29 at ho
    refine lv_iconst (v := (0 : Int32)) hx hb dX1_eventReaching_29 (by decide) ?_
    refine lv_istore_n (lv' := [(3, .int (0 : Int32)), (0, .ref (am 2001)), (1, .int v1), (2, .int v2)]) hx hb dX1_eventReaching_30 rfl hl (by decide) rfl (fun ls hl => ?_)
    obtain ⟨y12, hc14, ho⟩ := bd_some ho
    have hm13 := mm_x1_eventReaching_L31 v1 v2 (0 : Int32) t _ hc14
    obtain ⟨ny12, hc14⟩ := lp_to hc14
    refine x1_eventReaching_L31 C0 hR ?_ ny12 _ _ hc14 _ _ _ hW (lv_sub hl [1, 2, 3, 0] rfl)
    intro H locs ls hW hl
    refine lv_aload_n hx hb dX1_eventReaching_81 rfl (lv_at hl 0 rfl) ?_
    refine xGET_105 C0 kw_539 hW dX1_eventReaching_82 ?_
    refine lv_iload_n hx hb dX1_eventReaching_85 rfl (lv_at hl 1 rfl) ?_
    refine lv_aload_n hx hb dX1_eventReaching_86 rfl (lv_at hl 0 rfl) ?_
    refine xGET_106 C0 kw_540 hW dX1_eventReaching_87 ?_
    refine lv_imul hx hb dX1_eventReaching_90 ?_
    refine lv_iload_n hx hb dX1_eventReaching_91 rfl (lv_at hl 2 rfl) ?_
    refine lv_iadd hx hb dX1_eventReaching_92 ?_
    obtain ⟨g15, ho⟩ := gd_some ho
    refine xLD_105 C0 hW g15 dX1_eventReaching_93 ?_
    refine W_up h0 hm13 ?_
    cases ho
    exact rtIa gm C0.1 hW dX1_eventReaching_94
  have hE : mle t0 t' := mm_x1_eventReaching _ _ _ _ ho
  have hR := hR_of (t0 := t0) hE
  have h0 : mle t0 t0 := mle.rfl
  refine W_0 (t0 := t0) ?_
  unfold x1_eventReaching at ho
  refine lv_aload_n hx hb dX1_eventReaching_0 rfl (lv_at hl 0 rfl) ?_
  refine lv_aload_n hx hb dX1_eventReaching_1 rfl (lv_at hl 0 rfl) ?_
  refine xGET_104 C0 kw_537 hW dX1_eventReaching_2 ?_
  refine lv_iconst (v := (1 : Int32)) hx hb dX1_eventReaching_5 (by decide) ?_
  refine lv_iadd hx hb dX1_eventReaching_6 ?_
  refine xPUT_106 C0 kw_540 hW dX1_eventReaching_7 (fun H locs hW => ?_)
  obtain ⟨t16, ht16, ho, hW⟩ := nm_wm (P := fun t => wl D A s (wX cI cJ cZ cR am gm t) H locs) mle_sI ho hW
  refine lv_aload_n hx hb dX1_eventReaching_10 rfl (lv_at hl 0 rfl) ?_
  refine lv_aload_n hx hb dX1_eventReaching_11 rfl (lv_at hl 0 rfl) ?_
  refine xGET_105 C0 kw_539 hW dX1_eventReaching_12 ?_
  refine lv_iload_n hx hb dX1_eventReaching_15 rfl (lv_at hl 1 rfl) ?_
  refine lv_iconst (v := (1 : Int32)) hx hb dX1_eventReaching_16 (by decide) ?_
  refine lv_iadd hx hb dX1_eventReaching_17 ?_
  refine lv_aload_n hx hb dX1_eventReaching_18 rfl (lv_at hl 0 rfl) ?_
  refine xGET_106 C0 kw_540 hW dX1_eventReaching_19 ?_
  refine lv_imul hx hb dX1_eventReaching_22 ?_
  obtain ⟨t17, g18, ho⟩ := grw_some ho
  have ht17 := g18.mle
  have hEt17 := (mm_x1_eventReaching_J29 _ _ _ _ ho)
  refine W_up h0 ht16 ?_
  have h0 := (mle.trans h0 ht16)
  refine xGROW_105 (rest := []) C0 cb_X1_X2_grown_47 kw_539 hl.1 hW g18 h0 hEt17 (Nat.le_of_ble_eq_true rfl) (Nat.le_of_ble_eq_true rfl) (Nat.le_of_ble_eq_true rfl) dX1_eventReaching_23 dX1_eventReaching_26 (fun gm H locs hW => ?_)
  have h0 := mle.trans h0 ht17
  exact J29 gm _ _ _ ho h0 _ _ _ hW (lv_sub hl [0, 1, 2] rfl)
noncomputable def x11_reached_J53 (t : St) (w0 : Int32) : Option (Int32 × St) :=
  some (w0, t)
theorem mm_x11_reached_J53 (t : St) (w0 : Int32) : MR (x11_reached_J53 t w0) t (fun (a : Int32 × St) => a.2) := by
  unfold x11_reached_J53
  exact MR_some mle.rfl
noncomputable def x11_reached (t0 : St) (a1 : Int32) (a2 : Int32) : Option (Int32 × St) :=
  (x11_noNet t0 a1).bind (fun q1 => if q1 = 0 then ((x11_outside t0 a2 (0 : Int32) (gI t0 104)).bind (fun q5 => if q5 = 0 then (gd a1 (gN t0 602) (nm (gA t0 602 (a1).toNatClampNeg) (fun x10 : Int32 => if 0 ≤ x10 then ((x1_eventReaching t0 x10 a2).bind (fun q12 => x11_reached_J53 q12.2 q12.1)) else (x11_reached_J53 t0 (-3 : Int32))))) else (some ((-2 : Int32), t0)))) else (some ((-2 : Int32), t0)))
theorem mm_x11_reached (t0 : St) (a1 : Int32) (a2 : Int32) : MR (x11_reached t0 a1 a2) t0 (fun (a : Int32 × St) => a.2) := by
  unfold x11_reached
  exact MR_bindn (fun q1 => MR_ite (MR_bindn (fun q5 => MR_ite (MR_gd (MR_nm (fun x10 _ => MR_ite (MR_bind (mm_x1_eventReaching t0 x10 a2) (fun q12 hq12 => MR_wk hq12 (mm_x11_reached_J53 q12.2 q12.1))) (MR_wk mle.rfl (mm_x11_reached_J53 t0 (-3 : Int32)))))) (MR_some mle.rfl))) (MR_some mle.rfl))
set_option maxHeartbeats 4000000 in
set_option maxRecDepth 100000 in
theorem c_x11_reached (l : Launch) {D : va_G} {cI cJ cZ cR : ClassId} {am gm : Nat → Nat} {st : Nat} (sz : Nat) (t0 : St) (a1 : Int32) (a2 : Int32) {r : Int32} {t' : St} (ho : x11_reached t0 a1 a2 = some (r, t')) : Met l yX11_reached (.code yX11_reached cX11_reached 4 (some .int) :: wsAll) (rmA 5 116 t0 t') (va_Pc [.ref (am 2011), .int a1, .int a2] (prX D (tyX cI cJ cZ cR) (wX cI cJ cZ cR am gm t0) sz st)) (qIa r D (tyX cI cJ cZ cR) (fun gm => wX cI cJ cZ cR am gm t') (va_A (wX cI cJ cZ cR am gm t0) sz)) (mC t0 t') (mS t0 t') (va_A (wX cI cJ cZ cR am gm t0) sz) := by
  refine Met.ofW (cc := cX11_reached) (maxL := 4) (ret := (some .int)) (by decide) rfl ?_
  intro p e s m args below meth c s₁ B hml hv
  obtain ⟨rfl, ⟨hsz, hP, hK, hD0⟩, hsx⟩ := hv
  have hx := B.exec
  have hb := B.bytes
  have hts := atoms_spec (ws := (.code yX11_reached cX11_reached 4 (some .int) :: wsAll)) B.pre
  have hta := fun w h => hts w (List.mem_cons_of_mem _ h)
  have hown : s.vm.findClass RX11 = some m.cls := findClass_of_methodNamed B.named
  have hlocks := B.notSynchronized
  subst hsz
  have hD := hD0.self (sz := s.heap.size)
  generalize hAe : va_A (wX cI cJ cZ cR am gm t0) s.heap.size = A at hD ⊢
  have hA : ∀ q : Nat, s.heap.size ≤ q → A q := fun q h => by rw [← hAe]; exact Or.inr h
  have C0 : cxX p s m ([.ref (am 2011), .int a1, .int a2].toArray) meth c cX11_reached RX11 4 (some .int) D (tyX cI cJ cZ cR) st A := ⟨⟨hx, hb, B.returns, hml, hown, hta, hlocks, hK, hA⟩, by rw [← hAe]; exact hsx⟩
  have hW : wl D A s (wX cI cJ cZ cR am gm t0) s.heap [] := ⟨hP, hD, va_S.rf⟩
  have hl := lv_entry [.ref (am 2011), .int a1, .int a2] (n := 4) (Nat.le_of_ble_eq_true rfl)
  rw [lg_entry_eq]
  generalize (lg_sl [.ref (am 2011), .int a1, .int a2] ++ List.replicate (4 - (lg_sl [.ref (am 2011), .int a1, .int a2]).length) Slot.unset).toArray = ls at hl ⊢
  have hl : lv_has ls 4 [(0, .ref (am 2011)), (1, .int a1), (2, .int a2)] := hl
  clear hAe hD hP hD0 hts
  have J53 : ∀ (gm : Nat → Nat) (t : St) (w0 : Int32) (_ : x11_reached_J53 t w0 = some (r, t')) (_ : mle t0 t) (H : Heap) (locs : List Loc) (ls : Array Slot), wl D A s (wX cI cJ cZ cR am gm t) H locs → lv_has ls 4 [(0, .ref (am 2011))] → W p l e (rmA 5 116 t0 t') s m ([.ref (am 2011), .int a1, .int a2].toArray) below meth c H locs (mC t0 t) (mS t0 t) (MQ below (qIa r D (tyX cI cJ cZ cR) (fun gm => wX cI cJ cZ cR am gm t') A) ([.ref (am 2011), .int a1, .int a2].toArray) s (mC t0 t') (mS t0 t') A) (F0 m 53 ls [.int w0]) := by
    intro gm t w0 ho h0 H locs ls hW hl
    have hE : mle t t' := (mm_x11_reached_J53 _ _ _ ho)
    have hR := hR_of (t0 := t0) hE
    unfold x11_reached_J53 at ho
    cases ho
    exact rtIa gm C0.1 hW dX11_reached_53
  have hE : mle t0 t' := mm_x11_reached _ _ _ _ ho
  have hR := hR_of (t0 := t0) hE
  have h0 : mle t0 t0 := mle.rfl
  refine W_0 (t0 := t0) ?_
  unfold x11_reached at ho
  refine lv_iload_n hx hb dX11_reached_0 rfl (lv_at hl 1 rfl) ?_
  obtain ⟨q1, hc2, ho⟩ := bd_some ho
  refine bkZ C0.1 hW (runSX (As := [.int a1]) (rest := []) C0 hW (c_x11_noNet l _ t0 a1 (r := q1) hc2) cb_X11_X11_noNet_124 rfl rfl ⟨rfl, rfl⟩ ⟨Nat.le_of_ble_eq_true rfl, Nat.le_of_ble_eq_true rfl⟩ (Nat.le_of_ble_eq_true rfl) hl.1 dX11_reached_1 ⟨hR.1, hR.2⟩) (fun z3 H locs hW => ?_)
  refine lv_if_ne (tgt := 22) hx hb dX11_reached_4 (by decide) (fun c4 => ?_) (fun c4 => ?_)
  · replace ho := ite_f c4 ho
    refine lv_bipush (v := (-2 : Int32)) hx hb dX11_reached_22 (by decide) ?_
    cases ho
    exact rtIa gm C0.1 hW dX11_reached_24
  · replace ho := ite_t c4 ho
    refine lv_iload_n hx hb dX11_reached_7 rfl (lv_at hl 2 rfl) ?_
    refine lv_iconst (v := (0 : Int32)) hx hb dX11_reached_8 (by decide) ?_
    refine lv_aload_n hx hb dX11_reached_9 rfl (lv_at hl 0 rfl) ?_
    refine xGET_1109 C0 kw_600 hW dX11_reached_10 ?_
    refine xGET_104 C0 kw_538 hW dX11_reached_13 ?_
    obtain ⟨q5, hc6, ho⟩ := bd_some ho
    refine bkZ C0.1 hW (runSX (As := [.int a2, .int (0 : Int32), .int (gI t0 104)]) (rest := []) C0 hW (c_x11_outside l _ t0 a2 (0 : Int32) (gI t0 104) (r := q5) hc6) cb_X11_X11_outside_102 rfl rfl ⟨rfl, rfl⟩ ⟨Nat.le_of_ble_eq_true rfl, Nat.le_of_ble_eq_true rfl⟩ (Nat.le_of_ble_eq_true rfl) hl.1 dX11_reached_16 ⟨hR.1, hR.2⟩) (fun z7 H locs hW => ?_)
    refine lv_if_eq (tgt := 25) hx hb dX11_reached_19 (by decide) (fun c8 => ?_) (fun c8 => ?_)
    · replace ho := ite_t c8 ho
      refine lv_aload_n hx hb dX11_reached_25 rfl (lv_at hl 0 rfl) ?_
      refine xGET_1101 C0 kw_592 hW dX11_reached_26 ?_
      refine xGET_602 C0 kw_184 hW dX11_reached_29 ?_
      refine lv_iload_n hx hb dX11_reached_32 rfl (lv_at hl 1 rfl) ?_
      obtain ⟨g9, ho⟩ := gd_some ho
      refine xLD_602 C0 hW g9 dX11_reached_33 ?_
      refine lv_nmi ho (fun x10 ho => ?_)
      refine lv_istore_n (lv' := [(3, .int x10), (0, .ref (am 2011)), (1, .int a1), (2, .int a2)]) hx hb dX11_reached_34 rfl hl (by decide) rfl (fun ls hl => ?_)
      refine lv_iload_n hx hb dX11_reached_35 rfl (lv_at hl 0 rfl) ?_
      refine lv_if_ge (tgt := 44) hx hb dX11_reached_36 (by decide) (fun c11 => ?_) (fun c11 => ?_)
      · replace ho := ite_t c11 ho
        refine lv_aload_n hx hb dX11_reached_44 rfl (lv_at hl 1 rfl) ?_
        refine xGET_1109 C0 kw_600 hW dX11_reached_45 ?_
        refine lv_iload_n hx hb dX11_reached_48 rfl (lv_at hl 0 rfl) ?_
        refine lv_iload_n hx hb dX11_reached_49 rfl (lv_at hl 3 rfl) ?_
        obtain ⟨q12, hc13, ho⟩ := bd_some ho
        have hq12 := mm_x1_eventReaching t0 x10 a2 _ hc13
        have hEq12 := (mm_x11_reached_J53 _ _ _ ho)
        refine bkIa C0.1 hW h0 hq12 (runVX (As := [.int x10, .int a2]) (rest := []) C0 hW (c_x1_eventReaching l _ t0 x10 a2 (r := q12.1) (t' := q12.2) hc13) cb_X11_X1_eventReaching_333 1 1 rfl rfl rfl rfl rfl ⟨rfl, rfl⟩ ⟨Nat.le_of_ble_eq_true rfl, Nat.le_of_ble_eq_true rfl⟩ (Nat.le_of_ble_eq_true rfl) hl.1 dX11_reached_50 (hf_of h0 hq12 hEq12)) (fun gm H locs hW => ?_)
        have h0 := mle.trans h0 hq12
        exact J53 gm _ _ ho h0 _ _ _ hW (lv_sub hl [1] rfl)
      · replace ho := ite_f c11 ho
        refine lv_bipush (v := (-3 : Int32)) hx hb dX11_reached_39 (by decide) ?_
        refine lv_goto (tgt := 53) hx hb dX11_reached_41 (by decide) ?_
        exact J53 gm _ _ ho h0 _ _ _ hW (lv_sub hl [1] rfl)
    · replace ho := ite_f c8 ho
      refine lv_bipush (v := (-2 : Int32)) hx hb dX11_reached_22 (by decide) ?_
      cases ho
      exact rtIa gm C0.1 hW dX11_reached_24
noncomputable def x9_addPlace (t : St) (a1 : Int32) (a2 : Int32) : Option (Int32 × St) :=
  gd a1 (gN t 902) (if (gA t 902 (a1).toNatClampNeg) < (12 : Int32) then (gd a1 (gN t 902) (gd ((a1 * (12 : Int32)) + (gA t 902 (a1).toNatClampNeg)) (gN t 901) (nm (sA t 901 ((a1 * (12 : Int32)) + (gA t 902 (a1).toNatClampNeg)) a2) (fun t5 : St => gd a1 (gN t5 902) (gd a1 (gN t5 902) (nm (sA t5 902 a1 ((gA t5 902 (a1).toNatClampNeg) + (1 : Int32))) (fun t8 : St => some ((1 : Int32), t8)))))))) else (some ((0 : Int32), t)))
theorem mm_x9_addPlace (t : St) (a1 : Int32) (a2 : Int32) : MR (x9_addPlace t a1 a2) t (fun (a : Int32 × St) => a.2) := by
  unfold x9_addPlace
  exact MR_gd (MR_ite (MR_gd (MR_gd (MR_nmS mle_sA (fun t5 ht5 => MR_gd (MR_gd (MR_nmS mle_sA (fun t8 ht8 => MR_some (mle.trans ht5 ht8)))))))) (MR_some mle.rfl))
set_option maxHeartbeats 4000000 in
set_option maxRecDepth 100000 in
theorem c_x9_addPlace (l : Launch) {D : va_G} {cI cJ cZ cR : ClassId} {am gm : Nat → Nat} {st : Nat} (sz : Nat) (t : St) (a1 : Int32) (a2 : Int32) {r : Int32} {t' : St} (ho : x9_addPlace t a1 a2 = some (r, t')) : Met l yX9_addPlace (.code yX9_addPlace cX9_addPlace 3 (some .boolean) :: wsAll) (rmN 0 0) (va_Pc [.ref (am 2009), .int a1, .int a2] (prX D (tyX cI cJ cZ cR) (wX cI cJ cZ cR am gm t) sz st)) (qZ r D (tyX cI cJ cZ cR) (wX cI cJ cZ cR am gm t') (va_A (wX cI cJ cZ cR am gm t) sz)) 0 0 (va_A (wX cI cJ cZ cR am gm t) sz) := by
  refine Met.ofW (cc := cX9_addPlace) (maxL := 3) (ret := (some .boolean)) (by decide) rfl ?_
  intro p e s m args below meth c s₁ B hml hv
  obtain ⟨rfl, ⟨hsz, hP, hK, hD0⟩, hsx⟩ := hv
  have hx := B.exec
  have hb := B.bytes
  have hts := atoms_spec (ws := (.code yX9_addPlace cX9_addPlace 3 (some .boolean) :: wsAll)) B.pre
  have hta := fun w h => hts w (List.mem_cons_of_mem _ h)
  have hown : s.vm.findClass RX9 = some m.cls := findClass_of_methodNamed B.named
  have hlocks := B.notSynchronized
  subst hsz
  have hD := hD0.self (sz := s.heap.size)
  generalize hAe : va_A (wX cI cJ cZ cR am gm t) s.heap.size = A at hD ⊢
  have hA : ∀ q : Nat, s.heap.size ≤ q → A q := fun q h => by rw [← hAe]; exact Or.inr h
  have C0 : cxX p s m ([.ref (am 2009), .int a1, .int a2].toArray) meth c cX9_addPlace RX9 3 (some .boolean) D (tyX cI cJ cZ cR) st A := ⟨⟨hx, hb, B.returns, hml, hown, hta, hlocks, hK, hA⟩, by rw [← hAe]; exact hsx⟩
  have hW : wl D A s (wX cI cJ cZ cR am gm t) s.heap [] := ⟨hP, hD, va_S.rf⟩
  have hl := lv_entry [.ref (am 2009), .int a1, .int a2] (n := 3) (Nat.le_of_ble_eq_true rfl)
  rw [lg_entry_eq]
  generalize (lg_sl [.ref (am 2009), .int a1, .int a2] ++ List.replicate (3 - (lg_sl [.ref (am 2009), .int a1, .int a2]).length) Slot.unset).toArray = ls at hl ⊢
  have hl : lv_has ls 3 [(0, .ref (am 2009)), (1, .int a1), (2, .int a2)] := hl
  unfold x9_addPlace at ho
  refine lv_aload_n hx hb dX9_addPlace_0 rfl (lv_at hl 0 rfl) ?_
  refine xGET_902 C0 kw_567 hW dX9_addPlace_1 ?_
  refine lv_iload_n hx hb dX9_addPlace_4 rfl (lv_at hl 1 rfl) ?_
  obtain ⟨g1, ho⟩ := gd_some ho
  refine xLD_902 C0 hW g1 dX9_addPlace_5 ?_
  refine lv_bipush (v := (12 : Int32)) hx hb dX9_addPlace_6 (by decide) ?_
  refine lv_icmp_lt (tgt := 13) hx hb dX9_addPlace_8 (by decide) (fun c2 => ?_) (fun c2 => ?_)
  · replace ho := ite_t c2 ho
    refine lv_aload_n hx hb dX9_addPlace_13 rfl (lv_at hl 0 rfl) ?_
    refine xGET_901 C0 kw_566 hW dX9_addPlace_14 ?_
    refine lv_iload_n hx hb dX9_addPlace_17 rfl (lv_at hl 1 rfl) ?_
    refine lv_bipush (v := (12 : Int32)) hx hb dX9_addPlace_18 (by decide) ?_
    refine lv_imul hx hb dX9_addPlace_20 ?_
    refine lv_aload_n hx hb dX9_addPlace_21 rfl (lv_at hl 0 rfl) ?_
    refine xGET_902 C0 kw_567 hW dX9_addPlace_22 ?_
    refine lv_iload_n hx hb dX9_addPlace_25 rfl (lv_at hl 1 rfl) ?_
    obtain ⟨g3, ho⟩ := gd_some ho
    refine xLD_902 C0 hW g3 dX9_addPlace_26 ?_
    refine lv_iadd hx hb dX9_addPlace_27 ?_
    refine lv_iload_n hx hb dX9_addPlace_28 rfl (lv_at hl 2 rfl) ?_
    obtain ⟨g4, ho⟩ := gd_some ho
    refine xST_901 C0 hW g4 dX9_addPlace_29 (fun H locs hW => ?_)
    obtain ⟨t5, ho, hW⟩ := nm_w (P := fun t => wl D A s (wX cI cJ cZ cR am gm t) H locs) ho hW
    refine lv_aload_n hx hb dX9_addPlace_30 rfl (lv_at hl 0 rfl) ?_
    refine xGET_902 C0 kw_567 hW dX9_addPlace_31 ?_
    refine lv_iload_n hx hb dX9_addPlace_34 rfl (lv_at hl 1 rfl) ?_
    refine lv_dup2_11 hx hb dX9_addPlace_35 rfl rfl ?_
    obtain ⟨g6, ho⟩ := gd_some ho
    refine xLD_902 C0 hW g6 dX9_addPlace_36 ?_
    refine lv_iconst (v := (1 : Int32)) hx hb dX9_addPlace_37 (by decide) ?_
    refine lv_iadd hx hb dX9_addPlace_38 ?_
    obtain ⟨g7, ho⟩ := gd_some ho
    refine xST_902 C0 hW g7 dX9_addPlace_39 (fun H locs hW => ?_)
    obtain ⟨t8, ho, hW⟩ := nm_w (P := fun t => wl D A s (wX cI cJ cZ cR am gm t) H locs) ho hW
    refine lv_iconst (v := (1 : Int32)) hx hb dX9_addPlace_40 (by decide) ?_
    cases ho
    exact rtZ C0.1 hW (Or.inr (rfl : (1 : Int32) = 1)) dX9_addPlace_41
  · replace ho := ite_f c2 ho
    refine lv_iconst (v := (0 : Int32)) hx hb dX9_addPlace_11 (by decide) ?_
    cases ho
    exact rtZ C0.1 hW (Or.inl (rfl : (0 : Int32) = 0)) dX9_addPlace_12
noncomputable def x11_walk (t : St) (a1 : Int32) (a2 : Int32) : Option (Int32 × St) :=
  (x11_outside t a1 (0 : Int32) (3 : Int32)).bind (fun q1 => if q1 = 0 then ((x11_outside t a2 (0 : Int32) (7 : Int32)).bind (fun q5 => if q5 = 0 then ((x9_addPlace t a1 a2).bind (fun q9 => if q9.1 = 0 then (some ((-4 : Int32), q9.2)) else (gd a1 (gN q9.2 902) (some ((gA q9.2 902 (a1).toNatClampNeg), q9.2))))) else (some ((-2 : Int32), t)))) else (some ((-2 : Int32), t)))
theorem mm_x11_walk (t : St) (a1 : Int32) (a2 : Int32) : MR (x11_walk t a1 a2) t (fun (a : Int32 × St) => a.2) := by
  unfold x11_walk
  exact MR_bindn (fun q1 => MR_ite (MR_bindn (fun q5 => MR_ite (MR_bind (mm_x9_addPlace t a1 a2) (fun q9 hq9 => MR_ite (MR_some hq9) (MR_gd (MR_some hq9)))) (MR_some mle.rfl))) (MR_some mle.rfl))
set_option maxHeartbeats 4000000 in
set_option maxRecDepth 100000 in
theorem c_x11_walk (l : Launch) {D : va_G} {cI cJ cZ cR : ClassId} {am gm : Nat → Nat} {st : Nat} (sz : Nat) (t : St) (a1 : Int32) (a2 : Int32) {r : Int32} {t' : St} (ho : x11_walk t a1 a2 = some (r, t')) : Met l yX11_walk (.code yX11_walk cX11_walk 3 (some .int) :: wsAll) (rmN 1 22) (va_Pc [.ref (am 2011), .int a1, .int a2] (prX D (tyX cI cJ cZ cR) (wX cI cJ cZ cR am gm t) sz st)) (qI r D (tyX cI cJ cZ cR) (wX cI cJ cZ cR am gm t') (va_A (wX cI cJ cZ cR am gm t) sz)) 0 0 (va_A (wX cI cJ cZ cR am gm t) sz) := by
  refine Met.ofW (cc := cX11_walk) (maxL := 3) (ret := (some .int)) (by decide) rfl ?_
  intro p e s m args below meth c s₁ B hml hv
  obtain ⟨rfl, ⟨hsz, hP, hK, hD0⟩, hsx⟩ := hv
  have hx := B.exec
  have hb := B.bytes
  have hts := atoms_spec (ws := (.code yX11_walk cX11_walk 3 (some .int) :: wsAll)) B.pre
  have hta := fun w h => hts w (List.mem_cons_of_mem _ h)
  have hown : s.vm.findClass RX11 = some m.cls := findClass_of_methodNamed B.named
  have hlocks := B.notSynchronized
  subst hsz
  have hD := hD0.self (sz := s.heap.size)
  generalize hAe : va_A (wX cI cJ cZ cR am gm t) s.heap.size = A at hD ⊢
  have hA : ∀ q : Nat, s.heap.size ≤ q → A q := fun q h => by rw [← hAe]; exact Or.inr h
  have C0 : cxX p s m ([.ref (am 2011), .int a1, .int a2].toArray) meth c cX11_walk RX11 3 (some .int) D (tyX cI cJ cZ cR) st A := ⟨⟨hx, hb, B.returns, hml, hown, hta, hlocks, hK, hA⟩, by rw [← hAe]; exact hsx⟩
  have hW : wl D A s (wX cI cJ cZ cR am gm t) s.heap [] := ⟨hP, hD, va_S.rf⟩
  have hl := lv_entry [.ref (am 2011), .int a1, .int a2] (n := 3) (Nat.le_of_ble_eq_true rfl)
  rw [lg_entry_eq]
  generalize (lg_sl [.ref (am 2011), .int a1, .int a2] ++ List.replicate (3 - (lg_sl [.ref (am 2011), .int a1, .int a2]).length) Slot.unset).toArray = ls at hl ⊢
  have hl : lv_has ls 3 [(0, .ref (am 2011)), (1, .int a1), (2, .int a2)] := hl
  unfold x11_walk at ho
  refine lv_iload_n hx hb dX11_walk_0 rfl (lv_at hl 1 rfl) ?_
  refine lv_iconst (v := (0 : Int32)) hx hb dX11_walk_1 (by decide) ?_
  refine lv_iconst (v := (3 : Int32)) hx hb dX11_walk_2 (by decide) ?_
  obtain ⟨q1, hc2, ho⟩ := bd_some ho
  refine bkZ C0.1 hW (runSX (As := [.int a1, .int (0 : Int32), .int (3 : Int32)]) (rest := []) C0 hW (c_x11_outside l _ t a1 (0 : Int32) (3 : Int32) (r := q1) hc2) cb_X11_X11_outside_102 rfl rfl ⟨rfl, rfl⟩ ⟨Nat.le_of_ble_eq_true rfl, Nat.le_of_ble_eq_true rfl⟩ (Nat.le_of_ble_eq_true rfl) hl.1 dX11_walk_3 ⟨Nat.le_of_ble_eq_true rfl, Nat.le_of_ble_eq_true rfl⟩) (fun z3 H locs hW => ?_)
  refine lv_if_ne (tgt := 19) hx hb dX11_walk_6 (by decide) (fun c4 => ?_) (fun c4 => ?_)
  · replace ho := ite_f c4 ho
    refine lv_bipush (v := (-2 : Int32)) hx hb dX11_walk_19 (by decide) ?_
    cases ho
    exact rtI C0.1 hW dX11_walk_21
  · replace ho := ite_t c4 ho
    refine lv_iload_n hx hb dX11_walk_9 rfl (lv_at hl 2 rfl) ?_
    refine lv_iconst (v := (0 : Int32)) hx hb dX11_walk_10 (by decide) ?_
    refine lv_bipush (v := (7 : Int32)) hx hb dX11_walk_11 (by decide) ?_
    obtain ⟨q5, hc6, ho⟩ := bd_some ho
    refine bkZ C0.1 hW (runSX (As := [.int a2, .int (0 : Int32), .int (7 : Int32)]) (rest := []) C0 hW (c_x11_outside l _ t a2 (0 : Int32) (7 : Int32) (r := q5) hc6) cb_X11_X11_outside_102 rfl rfl ⟨rfl, rfl⟩ ⟨Nat.le_of_ble_eq_true rfl, Nat.le_of_ble_eq_true rfl⟩ (Nat.le_of_ble_eq_true rfl) hl.1 dX11_walk_13 ⟨Nat.le_of_ble_eq_true rfl, Nat.le_of_ble_eq_true rfl⟩) (fun z7 H locs hW => ?_)
    refine lv_if_eq (tgt := 22) hx hb dX11_walk_16 (by decide) (fun c8 => ?_) (fun c8 => ?_)
    · replace ho := ite_t c8 ho
      refine lv_aload_n hx hb dX11_walk_22 rfl (lv_at hl 0 rfl) ?_
      refine xGET_1110 C0 kw_601 hW dX11_walk_23 ?_
      refine lv_iload_n hx hb dX11_walk_26 rfl (lv_at hl 1 rfl) ?_
      refine lv_iload_n hx hb dX11_walk_27 rfl (lv_at hl 2 rfl) ?_
      obtain ⟨q9, hc10, ho⟩ := bd_some ho
      refine bkZ C0.1 hW (runVX (As := [.int a1, .int a2]) (rest := []) C0 hW (c_x9_addPlace l _ t a1 a2 (r := q9.1) (t' := q9.2) hc10) cb_X11_X9_addPlace_336 9 9 rfl rfl rfl rfl rfl ⟨rfl, rfl⟩ ⟨Nat.le_of_ble_eq_true rfl, Nat.le_of_ble_eq_true rfl⟩ (Nat.le_of_ble_eq_true rfl) hl.1 dX11_walk_28 ⟨Nat.le_of_ble_eq_true rfl, Nat.le_of_ble_eq_true rfl⟩) (fun z11 H locs hW => ?_)
      refine lv_if_eq (tgt := 46) hx hb dX11_walk_31 (by decide) (fun c12 => ?_) (fun c12 => ?_)
      · replace ho := ite_t c12 ho
        refine lv_bipush (v := (-4 : Int32)) hx hb dX11_walk_46 (by decide) ?_
        cases ho
        exact rtI C0.1 hW dX11_walk_48
      · replace ho := ite_f c12 ho
        refine lv_aload_n hx hb dX11_walk_34 rfl (lv_at hl 0 rfl) ?_
        refine xGET_1110 C0 kw_601 hW dX11_walk_35 ?_
        refine xGET_902 C0 kw_568 hW dX11_walk_38 ?_
        refine lv_iload_n hx hb dX11_walk_41 rfl (lv_at hl 1 rfl) ?_
        obtain ⟨g13, ho⟩ := gd_some ho
        refine xLD_902 C0 hW g13 dX11_walk_42 ?_
        refine lv_goto (tgt := 48) hx hb dX11_walk_43 (by decide) ?_
        cases ho
        exact rtI C0.1 hW dX11_walk_48
    · replace ho := ite_f c8 ho
      refine lv_bipush (v := (-2 : Int32)) hx hb dX11_walk_19 (by decide) ?_
      cases ho
      exact rtI C0.1 hW dX11_walk_21
noncomputable def x11_home (t : St) (a1 : Int32) : Option (Int32 × St) :=
  (x11_outside t a1 (0 : Int32) (3 : Int32)).bind (fun q1 => if q1 = 0 then (gd a1 (gN t 902) (nm (gA t 902 (a1).toNatClampNeg) (fun x6 : Int32 => gd a1 (gN t 902) (nm (sA t 902 a1 (0 : Int32)) (fun t8 : St => some (x6, t8)))))) else (some ((-2 : Int32), t)))
theorem mm_x11_home (t : St) (a1 : Int32) : MR (x11_home t a1) t (fun (a : Int32 × St) => a.2) := by
  unfold x11_home
  exact MR_bindn (fun q1 => MR_ite (MR_gd (MR_nm (fun x6 _ => MR_gd (MR_nmS mle_sA (fun t8 ht8 => MR_some ht8))))) (MR_some mle.rfl))
set_option maxHeartbeats 4000000 in
set_option maxRecDepth 100000 in
theorem c_x11_home (l : Launch) {D : va_G} {cI cJ cZ cR : ClassId} {am gm : Nat → Nat} {st : Nat} (sz : Nat) (t : St) (a1 : Int32) {r : Int32} {t' : St} (ho : x11_home t a1 = some (r, t')) : Met l yX11_home (.code yX11_home cX11_home 3 (some .int) :: wsAll) (rmN 1 22) (va_Pc [.ref (am 2011), .int a1] (prX D (tyX cI cJ cZ cR) (wX cI cJ cZ cR am gm t) sz st)) (qI r D (tyX cI cJ cZ cR) (wX cI cJ cZ cR am gm t') (va_A (wX cI cJ cZ cR am gm t) sz)) 0 0 (va_A (wX cI cJ cZ cR am gm t) sz) := by
  refine Met.ofW (cc := cX11_home) (maxL := 3) (ret := (some .int)) (by decide) rfl ?_
  intro p e s m args below meth c s₁ B hml hv
  obtain ⟨rfl, ⟨hsz, hP, hK, hD0⟩, hsx⟩ := hv
  have hx := B.exec
  have hb := B.bytes
  have hts := atoms_spec (ws := (.code yX11_home cX11_home 3 (some .int) :: wsAll)) B.pre
  have hta := fun w h => hts w (List.mem_cons_of_mem _ h)
  have hown : s.vm.findClass RX11 = some m.cls := findClass_of_methodNamed B.named
  have hlocks := B.notSynchronized
  subst hsz
  have hD := hD0.self (sz := s.heap.size)
  generalize hAe : va_A (wX cI cJ cZ cR am gm t) s.heap.size = A at hD ⊢
  have hA : ∀ q : Nat, s.heap.size ≤ q → A q := fun q h => by rw [← hAe]; exact Or.inr h
  have C0 : cxX p s m ([.ref (am 2011), .int a1].toArray) meth c cX11_home RX11 3 (some .int) D (tyX cI cJ cZ cR) st A := ⟨⟨hx, hb, B.returns, hml, hown, hta, hlocks, hK, hA⟩, by rw [← hAe]; exact hsx⟩
  have hW : wl D A s (wX cI cJ cZ cR am gm t) s.heap [] := ⟨hP, hD, va_S.rf⟩
  have hl := lv_entry [.ref (am 2011), .int a1] (n := 3) (Nat.le_of_ble_eq_true rfl)
  rw [lg_entry_eq]
  generalize (lg_sl [.ref (am 2011), .int a1] ++ List.replicate (3 - (lg_sl [.ref (am 2011), .int a1]).length) Slot.unset).toArray = ls at hl ⊢
  have hl : lv_has ls 3 [(0, .ref (am 2011)), (1, .int a1)] := hl
  unfold x11_home at ho
  refine lv_iload_n hx hb dX11_home_0 rfl (lv_at hl 1 rfl) ?_
  refine lv_iconst (v := (0 : Int32)) hx hb dX11_home_1 (by decide) ?_
  refine lv_iconst (v := (3 : Int32)) hx hb dX11_home_2 (by decide) ?_
  obtain ⟨q1, hc2, ho⟩ := bd_some ho
  refine bkZ C0.1 hW (runSX (As := [.int a1, .int (0 : Int32), .int (3 : Int32)]) (rest := []) C0 hW (c_x11_outside l _ t a1 (0 : Int32) (3 : Int32) (r := q1) hc2) cb_X11_X11_outside_102 rfl rfl ⟨rfl, rfl⟩ ⟨Nat.le_of_ble_eq_true rfl, Nat.le_of_ble_eq_true rfl⟩ (Nat.le_of_ble_eq_true rfl) hl.1 dX11_home_3 ⟨Nat.le_of_ble_eq_true rfl, Nat.le_of_ble_eq_true rfl⟩) (fun z3 H locs hW => ?_)
  refine lv_if_eq (tgt := 12) hx hb dX11_home_6 (by decide) (fun c4 => ?_) (fun c4 => ?_)
  · replace ho := ite_t c4 ho
    refine lv_aload_n hx hb dX11_home_12 rfl (lv_at hl 0 rfl) ?_
    refine xGET_1110 C0 kw_601 hW dX11_home_13 ?_
    refine xGET_902 C0 kw_568 hW dX11_home_16 ?_
    refine lv_iload_n hx hb dX11_home_19 rfl (lv_at hl 1 rfl) ?_
    obtain ⟨g5, ho⟩ := gd_some ho
    refine xLD_902 C0 hW g5 dX11_home_20 ?_
    refine lv_nmi ho (fun x6 ho => ?_)
    refine lv_istore_n (lv' := [(2, .int x6), (0, .ref (am 2011)), (1, .int a1)]) hx hb dX11_home_21 rfl hl (by decide) rfl (fun ls hl => ?_)
    refine lv_aload_n hx hb dX11_home_22 rfl (lv_at hl 1 rfl) ?_
    refine xGET_1110 C0 kw_601 hW dX11_home_23 ?_
    refine xGET_902 C0 kw_568 hW dX11_home_26 ?_
    refine lv_iload_n hx hb dX11_home_29 rfl (lv_at hl 2 rfl) ?_
    refine lv_iconst (v := (0 : Int32)) hx hb dX11_home_30 (by decide) ?_
    obtain ⟨g7, ho⟩ := gd_some ho
    refine xST_902 C0 hW g7 dX11_home_31 (fun H locs hW => ?_)
    obtain ⟨t8, ho, hW⟩ := nm_w (P := fun t => wl D A s (wX cI cJ cZ cR am gm t) H locs) ho hW
    refine lv_iload_n hx hb dX11_home_32 rfl (lv_at hl 0 rfl) ?_
    cases ho
    exact rtI C0.1 hW dX11_home_33
  · replace ho := ite_f c4 ho
    refine lv_bipush (v := (-2 : Int32)) hx hb dX11_home_9 (by decide) ?_
    cases ho
    exact rtI C0.1 hW dX11_home_11
noncomputable def x9_placeOf (t : St) (a1 : Int32) (a2 : Int32) : Option (Int32) :=
  gd a1 (gN t 902) (if (gA t 902 (a1).toNatClampNeg) = 0 then (some (-1 : Int32)) else (gd a1 (gN t 902) (dv (gA t 902 (a1).toNatClampNeg) (gd ((a1 * (12 : Int32)) + (a2 - a2 / (gA t 902 (a1).toNatClampNeg) * (gA t 902 (a1).toNatClampNeg))) (gN t 901) (some (gA t 901 (((a1 * (12 : Int32)) + (a2 - a2 / (gA t 902 (a1).toNatClampNeg) * (gA t 902 (a1).toNatClampNeg)))).toNatClampNeg))))))
set_option maxHeartbeats 4000000 in
set_option maxRecDepth 100000 in
theorem c_x9_placeOf (l : Launch) {D : va_G} {cI cJ cZ cR : ClassId} {am gm : Nat → Nat} {st : Nat} (sz : Nat) (t : St) (a1 : Int32) (a2 : Int32) {r : Int32} (ho : x9_placeOf t a1 a2 = some r) : Met l yX9_placeOf (.code yX9_placeOf cX9_placeOf 3 (some .int) :: wsAll) (rmN 0 0) (va_Pc [.ref (am 2009), .int a1, .int a2] (prX D (tyX cI cJ cZ cR) (wX cI cJ cZ cR am gm t) sz st)) (qI r D (tyX cI cJ cZ cR) (wX cI cJ cZ cR am gm t) (va_A (wX cI cJ cZ cR am gm t) sz)) 0 0 (va_A (wX cI cJ cZ cR am gm t) sz) := by
  refine Met.ofW (cc := cX9_placeOf) (maxL := 3) (ret := (some .int)) (by decide) rfl ?_
  intro p e s m args below meth c s₁ B hml hv
  obtain ⟨rfl, ⟨hsz, hP, hK, hD0⟩, hsx⟩ := hv
  have hx := B.exec
  have hb := B.bytes
  have hts := atoms_spec (ws := (.code yX9_placeOf cX9_placeOf 3 (some .int) :: wsAll)) B.pre
  have hta := fun w h => hts w (List.mem_cons_of_mem _ h)
  have hown : s.vm.findClass RX9 = some m.cls := findClass_of_methodNamed B.named
  have hlocks := B.notSynchronized
  subst hsz
  have hD := hD0.self (sz := s.heap.size)
  generalize hAe : va_A (wX cI cJ cZ cR am gm t) s.heap.size = A at hD ⊢
  have hA : ∀ q : Nat, s.heap.size ≤ q → A q := fun q h => by rw [← hAe]; exact Or.inr h
  have C0 : cxX p s m ([.ref (am 2009), .int a1, .int a2].toArray) meth c cX9_placeOf RX9 3 (some .int) D (tyX cI cJ cZ cR) st A := ⟨⟨hx, hb, B.returns, hml, hown, hta, hlocks, hK, hA⟩, by rw [← hAe]; exact hsx⟩
  have hW : wl D A s (wX cI cJ cZ cR am gm t) s.heap [] := ⟨hP, hD, va_S.rf⟩
  have hl := lv_entry [.ref (am 2009), .int a1, .int a2] (n := 3) (Nat.le_of_ble_eq_true rfl)
  rw [lg_entry_eq]
  generalize (lg_sl [.ref (am 2009), .int a1, .int a2] ++ List.replicate (3 - (lg_sl [.ref (am 2009), .int a1, .int a2]).length) Slot.unset).toArray = ls at hl ⊢
  have hl : lv_has ls 3 [(0, .ref (am 2009)), (1, .int a1), (2, .int a2)] := hl
  unfold x9_placeOf at ho
  refine lv_aload_n hx hb dX9_placeOf_0 rfl (lv_at hl 0 rfl) ?_
  refine xGET_902 C0 kw_567 hW dX9_placeOf_1 ?_
  refine lv_iload_n hx hb dX9_placeOf_4 rfl (lv_at hl 1 rfl) ?_
  obtain ⟨g1, ho⟩ := gd_some ho
  refine xLD_902 C0 hW g1 dX9_placeOf_5 ?_
  refine lv_if_ne (tgt := 11) hx hb dX9_placeOf_6 (by decide) (fun c2 => ?_) (fun c2 => ?_)
  · replace ho := ite_f c2 ho
    refine lv_aload_n hx hb dX9_placeOf_11 rfl (lv_at hl 0 rfl) ?_
    refine xGET_901 C0 kw_566 hW dX9_placeOf_12 ?_
    refine lv_iload_n hx hb dX9_placeOf_15 rfl (lv_at hl 1 rfl) ?_
    refine lv_bipush (v := (12 : Int32)) hx hb dX9_placeOf_16 (by decide) ?_
    refine lv_imul hx hb dX9_placeOf_18 ?_
    refine lv_iload_n hx hb dX9_placeOf_19 rfl (lv_at hl 2 rfl) ?_
    refine lv_aload_n hx hb dX9_placeOf_20 rfl (lv_at hl 0 rfl) ?_
    refine xGET_902 C0 kw_567 hW dX9_placeOf_21 ?_
    refine lv_iload_n hx hb dX9_placeOf_24 rfl (lv_at hl 1 rfl) ?_
    obtain ⟨g3, ho⟩ := gd_some ho
    refine xLD_902 C0 hW g3 dX9_placeOf_25 ?_
    obtain ⟨g4, ho⟩ := dv_some ho
    refine lv_irem hx hb dX9_placeOf_26 g4 ?_
    refine lv_iadd hx hb dX9_placeOf_27 ?_
    obtain ⟨g5, ho⟩ := gd_some ho
    refine xLD_901 C0 hW g5 dX9_placeOf_28 ?_
    cases ho
    exact rtI C0.1 hW dX9_placeOf_29
  · replace ho := ite_t c2 ho
    refine lv_iconst (v := (-1 : Int32)) hx hb dX9_placeOf_9 (by decide) ?_
    cases ho
    exact rtI C0.1 hW dX9_placeOf_10
noncomputable def x9_menAt_B5 (t : St) (v1 : Int32) (v2 : Int32) (v3 : Int32) (v4 : Int32) : Option ((Int32 × Int32) ⊕ (Int32)) :=
  if (3 : Int32) < v4 then (some (.inr v3)) else ((x9_placeOf t v4 v2).bind (fun q2 => if q2 = v1 then (nm (v3 + (1 : Int32)) (fun x6 : Int32 => nm (v4 + (1 : Int32)) (fun x7 : Int32 => some (.inl (x6, x7))))) else (nm (v4 + (1 : Int32)) (fun x5 : Int32 => some (.inl (v3, x5))))))
noncomputable def x9_menAt (t : St) (a1 : Int32) (a2 : Int32) : Option (Int32) :=
  (lp (fun x => x9_menAt_B5 t a1 a2 x.1 x.2) ((0 : Int32), (0 : Int32))).bind (fun y8 => some y8)
set_option maxHeartbeats 4000000 in
set_option maxRecDepth 100000 in
theorem x9_menAt_L5 {p : Program} {l : Launch} {e : Env} {s : State} {m : MethodId} {args : Array Value} {below : List Frame} {meth : Method} {c : Code} {Q : State → Prop} {D : va_G} {cI cJ cZ cR : ClassId} {am gm : Nat → Nat} {st : Nat} {A : Nat → Prop} (C0 : cxX p s m args meth c cX9_menAt RX9 5 (some .int) D (tyX cI cJ cZ cR) st A) {t : St} {v1 : Int32} {v2 : Int32} {y : Int32} (hK0 : ∀ (H : Heap) (locs : List Loc) (ls : Array Slot), wl D A s (wX cI cJ cZ cR am gm t) H locs → lv_has ls 5 [(0, .ref (am 2009)), (3, .int y)] → W p l e (rmN 1 22) s m args below meth c H locs 0 0 Q (F0 m 31 ls [])) :
    ∀ (n : Nat) (v3 : Int32) (v4 : Int32), lpn (fun x => x9_menAt_B5 t v1 v2 x.1 x.2) n (v3, v4) = some y → ∀ (H : Heap) (locs : List Loc) (ls : Array Slot), wl D A s (wX cI cJ cZ cR am gm t) H locs → lv_has ls 5 [(0, .ref (am 2009)), (1, .int v1), (2, .int v2), (3, .int v3), (4, .int v4)] → W p l e (rmN 1 22) s m args below meth c H locs 0 0 Q (F0 m 5 ls []) := by
  have hx := C0.1.1
  have hb := C0.1.2.1
  have hta := C0.1.2.2.2.2.2.1
  have hown := C0.1.2.2.2.2.1
  intro n
  induction n with
  | zero => intro _ _ h; cases h
  | succ n ih =>
    intro v3 v4 hrun H locs ls hW hl
    obtain ⟨o, ho, hrun⟩ := bd_some hrun
    unfold x9_menAt_B5 at ho
    refine lv_iload hx hb dX9_menAt_5 (lv_at hl 4 rfl) ?_
    refine lv_iconst (v := (3 : Int32)) hx hb dX9_menAt_7 (by decide) ?_
    refine lv_icmp_gt (tgt := 31) hx hb dX9_menAt_8 (by decide) (fun c1 => ?_) (fun c1 => ?_)
    · replace ho := ite_t c1 ho
      cases ho
      cases hrun
      exact hK0 _ _ _ hW (lv_sub hl [0, 3] rfl)
    · replace ho := ite_f c1 ho
      refine lv_aload_n hx hb dX9_menAt_11 rfl (lv_at hl 0 rfl) ?_
      refine lv_iload hx hb dX9_menAt_12 (lv_at hl 4 rfl) ?_
      refine lv_iload_n hx hb dX9_menAt_14 rfl (lv_at hl 2 rfl) ?_
      obtain ⟨q2, hc3, ho⟩ := bd_some ho
      refine bkI C0.1 hW (runVX (As := [.int v4, .int v2]) (rest := []) C0 hW (c_x9_placeOf l _ t v4 v2 (r := q2) hc3) cb_X9_X9_placeOf_38 9 9 rfl rfl rfl rfl rfl ⟨rfl, rfl⟩ ⟨Nat.le_of_ble_eq_true rfl, Nat.le_of_ble_eq_true rfl⟩ (Nat.le_of_ble_eq_true rfl) hl.1 dX9_menAt_15 ⟨Nat.le_of_ble_eq_true rfl, Nat.le_of_ble_eq_true rfl⟩) (fun H locs hW => ?_)
      refine lv_iload_n hx hb dX9_menAt_18 rfl (lv_at hl 1 rfl) ?_
      refine lv_icmp_ne (tgt := 25) hx hb dX9_menAt_19 (by decide) (fun c4 => ?_) (fun c4 => ?_)
      · replace ho := ite_f c4 ho
        obtain ⟨x5, ex5, ho⟩ := nm_x ho
        refine lv_iinc (v := x5) (lv' := [(4, .int x5), (0, .ref (am 2009)), (1, .int v1), (2, .int v2), (3, .int v3)]) hx hb dX9_menAt_25 hl (k := 4) rfl (by rw [ex5]; rfl) (by decide) rfl (fun ls hl => ?_)
        clear ex5
        refine lv_goto (tgt := 5) hx hb dX9_menAt_28 (by decide) ?_
        cases ho
        exact ih _ _ hrun _ _ _ hW (lv_sub hl [1, 2, 3, 4, 0] rfl)
      · replace ho := ite_t c4 ho
        obtain ⟨x6, ex6, ho⟩ := nm_x ho
        refine lv_iinc (v := x6) (lv' := [(3, .int x6), (0, .ref (am 2009)), (1, .int v1), (2, .int v2), (4, .int v4)]) hx hb dX9_menAt_22 hl (k := 3) rfl (by rw [ex6]; rfl) (by decide) rfl (fun ls hl => ?_)
        clear ex6
        obtain ⟨x7, ex7, ho⟩ := nm_x ho
        refine lv_iinc (v := x7) (lv' := [(4, .int x7), (3, .int x6), (0, .ref (am 2009)), (1, .int v1), (2, .int v2)]) hx hb dX9_menAt_25 hl (k := 4) rfl (by rw [ex7]; rfl) (by decide) rfl (fun ls hl => ?_)
        clear ex7
        refine lv_goto (tgt := 5) hx hb dX9_menAt_28 (by decide) ?_
        cases ho
        exact ih _ _ hrun _ _ _ hW (lv_sub hl [2, 3, 4, 1, 0] rfl)
set_option maxHeartbeats 4000000 in
set_option maxRecDepth 100000 in
theorem c_x9_menAt (l : Launch) {D : va_G} {cI cJ cZ cR : ClassId} {am gm : Nat → Nat} {st : Nat} (sz : Nat) (t : St) (a1 : Int32) (a2 : Int32) {r : Int32} (ho : x9_menAt t a1 a2 = some r) : Met l yX9_menAt (.code yX9_menAt cX9_menAt 5 (some .int) :: wsAll) (rmN 1 22) (va_Pc [.ref (am 2009), .int a1, .int a2] (prX D (tyX cI cJ cZ cR) (wX cI cJ cZ cR am gm t) sz st)) (qI r D (tyX cI cJ cZ cR) (wX cI cJ cZ cR am gm t) (va_A (wX cI cJ cZ cR am gm t) sz)) 0 0 (va_A (wX cI cJ cZ cR am gm t) sz) := by
  refine Met.ofW (cc := cX9_menAt) (maxL := 5) (ret := (some .int)) (by decide) rfl ?_
  intro p e s m args below meth c s₁ B hml hv
  obtain ⟨rfl, ⟨hsz, hP, hK, hD0⟩, hsx⟩ := hv
  have hx := B.exec
  have hb := B.bytes
  have hts := atoms_spec (ws := (.code yX9_menAt cX9_menAt 5 (some .int) :: wsAll)) B.pre
  have hta := fun w h => hts w (List.mem_cons_of_mem _ h)
  have hown : s.vm.findClass RX9 = some m.cls := findClass_of_methodNamed B.named
  have hlocks := B.notSynchronized
  subst hsz
  have hD := hD0.self (sz := s.heap.size)
  generalize hAe : va_A (wX cI cJ cZ cR am gm t) s.heap.size = A at hD ⊢
  have hA : ∀ q : Nat, s.heap.size ≤ q → A q := fun q h => by rw [← hAe]; exact Or.inr h
  have C0 : cxX p s m ([.ref (am 2009), .int a1, .int a2].toArray) meth c cX9_menAt RX9 5 (some .int) D (tyX cI cJ cZ cR) st A := ⟨⟨hx, hb, B.returns, hml, hown, hta, hlocks, hK, hA⟩, by rw [← hAe]; exact hsx⟩
  have hW : wl D A s (wX cI cJ cZ cR am gm t) s.heap [] := ⟨hP, hD, va_S.rf⟩
  have hl := lv_entry [.ref (am 2009), .int a1, .int a2] (n := 5) (Nat.le_of_ble_eq_true rfl)
  rw [lg_entry_eq]
  generalize (lg_sl [.ref (am 2009), .int a1, .int a2] ++ List.replicate (5 - (lg_sl [.ref (am 2009), .int a1, .int a2]).length) Slot.unset).toArray = ls at hl ⊢
  have hl : lv_has ls 5 [(0, .ref (am 2009)), (1, .int a1), (2, .int a2)] := hl
  unfold x9_menAt at ho
  refine lv_iconst (v := (0 : Int32)) hx hb dX9_menAt_0 (by decide) ?_
  refine lv_istore_n (lv' := [(3, .int (0 : Int32)), (0, .ref (am 2009)), (1, .int a1), (2, .int a2)]) hx hb dX9_menAt_1 rfl hl (by decide) rfl (fun ls hl => ?_)
  refine lv_iconst (v := (0 : Int32)) hx hb dX9_menAt_2 (by decide) ?_
  refine lv_istore (lv' := [(4, .int (0 : Int32)), (3, .int (0 : Int32)), (0, .ref (am 2009)), (1, .int a1), (2, .int a2)]) hx hb dX9_menAt_3 hl (by decide) rfl (fun ls hl => ?_)
  obtain ⟨y8, hc10, ho⟩ := bd_some ho
  obtain ⟨ny8, hc10⟩ := lp_to hc10
  refine x9_menAt_L5 C0 ?_ ny8 _ _ hc10 _ _ _ hW (lv_sub hl [2, 3, 4, 1, 0] rfl)
  intro H locs ls hW hl
  refine lv_iload_n hx hb dX9_menAt_31 rfl (lv_at hl 1 rfl) ?_
  cases ho
  exact rtI C0.1 hW dX9_menAt_32
noncomputable def x11_stands (t : St) (a1 : Int32) (a2 : Int32) : Option (Int32) :=
  (x11_outside t a1 (0 : Int32) (7 : Int32)).bind (fun q1 => if q1 = 0 then ((x11_outside t a2 (0 : Int32) (10000 : Int32)).bind (fun q5 => if q5 = 0 then ((x9_menAt t a1 a2).bind (fun q9 => some q9)) else (some (-2 : Int32)))) else (some (-2 : Int32)))
set_option maxHeartbeats 4000000 in
set_option maxRecDepth 100000 in
theorem c_x11_stands (l : Launch) {D : va_G} {cI cJ cZ cR : ClassId} {am gm : Nat → Nat} {st : Nat} (sz : Nat) (t : St) (a1 : Int32) (a2 : Int32) {r : Int32} (ho : x11_stands t a1 a2 = some r) : Met l yX11_stands (.code yX11_stands cX11_stands 3 (some .int) :: wsAll) (rmN 2 46) (va_Pc [.ref (am 2011), .int a1, .int a2] (prX D (tyX cI cJ cZ cR) (wX cI cJ cZ cR am gm t) sz st)) (qI r D (tyX cI cJ cZ cR) (wX cI cJ cZ cR am gm t) (va_A (wX cI cJ cZ cR am gm t) sz)) 0 0 (va_A (wX cI cJ cZ cR am gm t) sz) := by
  refine Met.ofW (cc := cX11_stands) (maxL := 3) (ret := (some .int)) (by decide) rfl ?_
  intro p e s m args below meth c s₁ B hml hv
  obtain ⟨rfl, ⟨hsz, hP, hK, hD0⟩, hsx⟩ := hv
  have hx := B.exec
  have hb := B.bytes
  have hts := atoms_spec (ws := (.code yX11_stands cX11_stands 3 (some .int) :: wsAll)) B.pre
  have hta := fun w h => hts w (List.mem_cons_of_mem _ h)
  have hown : s.vm.findClass RX11 = some m.cls := findClass_of_methodNamed B.named
  have hlocks := B.notSynchronized
  subst hsz
  have hD := hD0.self (sz := s.heap.size)
  generalize hAe : va_A (wX cI cJ cZ cR am gm t) s.heap.size = A at hD ⊢
  have hA : ∀ q : Nat, s.heap.size ≤ q → A q := fun q h => by rw [← hAe]; exact Or.inr h
  have C0 : cxX p s m ([.ref (am 2011), .int a1, .int a2].toArray) meth c cX11_stands RX11 3 (some .int) D (tyX cI cJ cZ cR) st A := ⟨⟨hx, hb, B.returns, hml, hown, hta, hlocks, hK, hA⟩, by rw [← hAe]; exact hsx⟩
  have hW : wl D A s (wX cI cJ cZ cR am gm t) s.heap [] := ⟨hP, hD, va_S.rf⟩
  have hl := lv_entry [.ref (am 2011), .int a1, .int a2] (n := 3) (Nat.le_of_ble_eq_true rfl)
  rw [lg_entry_eq]
  generalize (lg_sl [.ref (am 2011), .int a1, .int a2] ++ List.replicate (3 - (lg_sl [.ref (am 2011), .int a1, .int a2]).length) Slot.unset).toArray = ls at hl ⊢
  have hl : lv_has ls 3 [(0, .ref (am 2011)), (1, .int a1), (2, .int a2)] := hl
  unfold x11_stands at ho
  refine lv_iload_n hx hb dX11_stands_0 rfl (lv_at hl 1 rfl) ?_
  refine lv_iconst (v := (0 : Int32)) hx hb dX11_stands_1 (by decide) ?_
  refine lv_bipush (v := (7 : Int32)) hx hb dX11_stands_2 (by decide) ?_
  obtain ⟨q1, hc2, ho⟩ := bd_some ho
  refine bkZ C0.1 hW (runSX (As := [.int a1, .int (0 : Int32), .int (7 : Int32)]) (rest := []) C0 hW (c_x11_outside l _ t a1 (0 : Int32) (7 : Int32) (r := q1) hc2) cb_X11_X11_outside_102 rfl rfl ⟨rfl, rfl⟩ ⟨Nat.le_of_ble_eq_true rfl, Nat.le_of_ble_eq_true rfl⟩ (Nat.le_of_ble_eq_true rfl) hl.1 dX11_stands_4 ⟨Nat.le_of_ble_eq_true rfl, Nat.le_of_ble_eq_true rfl⟩) (fun z3 H locs hW => ?_)
  refine lv_if_ne (tgt := 21) hx hb dX11_stands_7 (by decide) (fun c4 => ?_) (fun c4 => ?_)
  · replace ho := ite_f c4 ho
    refine lv_bipush (v := (-2 : Int32)) hx hb dX11_stands_21 (by decide) ?_
    cases ho
    exact rtI C0.1 hW dX11_stands_23
  · replace ho := ite_t c4 ho
    refine lv_iload_n hx hb dX11_stands_10 rfl (lv_at hl 2 rfl) ?_
    refine lv_iconst (v := (0 : Int32)) hx hb dX11_stands_11 (by decide) ?_
    refine lv_sipush (v := (10000 : Int32)) hx hb dX11_stands_12 (by decide) ?_
    obtain ⟨q5, hc6, ho⟩ := bd_some ho
    refine bkZ C0.1 hW (runSX (As := [.int a2, .int (0 : Int32), .int (10000 : Int32)]) (rest := []) C0 hW (c_x11_outside l _ t a2 (0 : Int32) (10000 : Int32) (r := q5) hc6) cb_X11_X11_outside_102 rfl rfl ⟨rfl, rfl⟩ ⟨Nat.le_of_ble_eq_true rfl, Nat.le_of_ble_eq_true rfl⟩ (Nat.le_of_ble_eq_true rfl) hl.1 dX11_stands_15 ⟨Nat.le_of_ble_eq_true rfl, Nat.le_of_ble_eq_true rfl⟩) (fun z7 H locs hW => ?_)
    refine lv_if_eq (tgt := 24) hx hb dX11_stands_18 (by decide) (fun c8 => ?_) (fun c8 => ?_)
    · replace ho := ite_t c8 ho
      refine lv_aload_n hx hb dX11_stands_24 rfl (lv_at hl 0 rfl) ?_
      refine xGET_1110 C0 kw_601 hW dX11_stands_25 ?_
      refine lv_iload_n hx hb dX11_stands_28 rfl (lv_at hl 1 rfl) ?_
      refine lv_iload_n hx hb dX11_stands_29 rfl (lv_at hl 2 rfl) ?_
      obtain ⟨q9, hc10, ho⟩ := bd_some ho
      refine bkI C0.1 hW (runVX (As := [.int a1, .int a2]) (rest := []) C0 hW (c_x9_menAt l _ t a1 a2 (r := q9) hc10) cb_X11_X9_menAt_342 9 9 rfl rfl rfl rfl rfl ⟨rfl, rfl⟩ ⟨Nat.le_of_ble_eq_true rfl, Nat.le_of_ble_eq_true rfl⟩ (Nat.le_of_ble_eq_true rfl) hl.1 dX11_stands_30 ⟨Nat.le_of_ble_eq_true rfl, Nat.le_of_ble_eq_true rfl⟩) (fun H locs hW => ?_)
      cases ho
      exact rtI C0.1 hW dX11_stands_33
    · replace ho := ite_f c8 ho
      refine lv_bipush (v := (-2 : Int32)) hx hb dX11_stands_21 (by decide) ?_
      cases ho
      exact rtI C0.1 hW dX11_stands_23
