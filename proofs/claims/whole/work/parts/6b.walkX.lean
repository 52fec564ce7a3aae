noncomputable def x7_readInRow_J21 (rr : RRt) (t : St) (w0 : Int32) : Option (Int32 × St) :=
  some (w0, t)
theorem mm_x7_readInRow_J21 (rr : RRt) (hmm : RRm rr) (t : St) (w0 : Int32) : MR (x7_readInRow_J21 rr t w0) t (fun (a : Int32 × St) => a.2) := by
  unfold x7_readInRow_J21
  exact MR_some mle.rfl
noncomputable def x7_readInRow_J10 (rr : RRt) (t : St) (w0 : Int32) : Option (Int32 × St) :=
  x7_readInRow_J21 rr t w0
theorem mm_x7_readInRow_J10 (rr : RRt) (hmm : RRm rr) (t : St) (w0 : Int32) : MR (x7_readInRow_J10 rr t w0) t (fun (a : Int32 × St) => a.2) := by
  unfold x7_readInRow_J10
  exact MR_wk mle.rfl (mm_x7_readInRow_J21 rr hmm t w0)
noncomputable def x7_readInRow (rr : RRt) (t0 : St) (a1 : Int32) (a2 : Int32) : Option (Int32 × St) :=
  if a1 = (3 : Int32) then ((x7_readPart rr t0 a2).bind (fun q4 => x7_readInRow_J10 rr q4.2 q4.1)) else ((rr t0 (a1 + (1 : Int32)) a2).bind (fun q2 => x7_readInRow_J21 rr q2.2 q2.1))
theorem mm_x7_readInRow (rr : RRt) (hmm : RRm rr) (t0 : St) (a1 : Int32) (a2 : Int32) : MR (x7_readInRow rr t0 a1 a2) t0 (fun (a : Int32 × St) => a.2) := by
  unfold x7_readInRow
  exact MR_ite (MR_bind (mm_x7_readPart rr hmm t0 a2) (fun q4 hq4 => MR_wk hq4 (mm_x7_readInRow_J10 rr hmm q4.2 q4.1))) (MR_bind (hmm t0 (a1 + (1 : Int32)) a2) (fun q2 hq2 => MR_wk hq2 (mm_x7_readInRow_J21 rr hmm q2.2 q2.1)))
set_option maxHeartbeats 4000000 in
set_option maxRecDepth 100000 in
theorem c_x7_readInRow (l : Launch) {F L : Nat} {rr : RRt} (hmm : RRm rr) (hrr : RRok l F L rr) {D : va_G} {cI cJ cZ cR : ClassId} {am gm : Nat → Nat} {st : Nat} (sz : Nat) (t0 : St) (a1 : Int32) (a2 : Int32) {r : Int32} {t' : St} (ho : x7_readInRow rr t0 a1 a2 = some (r, t')) : Met l yX7_readInRow (.code yX7_readInRow cX7_readInRow 3 (some .int) :: wsAll) (rmA (F + 5) (L + 158) t0 t') (va_Pc [.ref (am 2007), .int a1, .int a2] (prX D (tyX cI cJ cZ cR) (wX cI cJ cZ cR am gm t0) sz st)) (qIa r D (tyX cI cJ cZ cR) (fun gm => wX cI cJ cZ cR am gm t') (va_A (wX cI cJ cZ cR am gm t0) sz)) (mC t0 t') (mS t0 t') (va_A (wX cI cJ cZ cR am gm t0) sz) := by
  refine Met.ofW (cc := cX7_readInRow) (maxL := 3) (ret := (some .int)) (by decide) rfl ?_
  intro p e s m args below meth c s₁ B hml hv
  obtain ⟨rfl, ⟨hsz, hP, hK, hD0⟩, hsx⟩ := hv
  have hx := B.exec
  have hb := B.bytes
  have hts := atoms_spec (ws := (.code yX7_readInRow cX7_readInRow 3 (some .int) :: wsAll)) B.pre
  have hta := fun w h => hts w (List.mem_cons_of_mem _ h)
  have hown : s.vm.findClass RX7 = some m.cls := findClass_of_methodNamed B.named
  have hlocks := B.notSynchronized
  subst hsz
  have hD := hD0.self (sz := s.heap.size)
  generalize hAe : va_A (wX cI cJ cZ cR am gm t0) s.heap.size = A at hD ⊢
  have hA : ∀ q : Nat, s.heap.size ≤ q → A q := fun q h => by rw [← hAe]; exact Or.inr h
  have C0 : cxX p s m ([.ref (am 2007), .int a1, .int a2].toArray) meth c cX7_readInRow RX7 3 (some .int) D (tyX cI cJ cZ cR) st A := ⟨⟨hx, hb, B.returns, hml, hown, hta, hlocks, hK, hA⟩, by rw [← hAe]; exact hsx⟩
  have hW : wl D A s (wX cI cJ cZ cR am gm t0) s.heap [] := ⟨hP, hD, va_S.rf⟩
  have hl := lv_entry [.ref (am 2007), .int a1, .int a2] (n := 3) (Nat.le_of_ble_eq_true rfl)
  rw [lg_entry_eq]
  generalize (lg_sl [.ref (am 2007), .int a1, .int a2] ++ List.replicate (3 - (lg_sl [.ref (am 2007), .int a1, .int a2]).length) Slot.unset).toArray = ls at hl ⊢
  have hl : lv_has ls 3 [(0, .ref (am 2007)), (1, .int a1), (2, .int a2)] := hl
  clear hAe hD hP hD0 hts
  have J21 : ∀ (gm : Nat → Nat) (t : St) (w0 : Int32) (_ : x7_readInRow_J21 rr t w0 = some (r, t')) (_ : mle t0 t) (H : Heap) (locs : List Loc) (ls : Array Slot), wl D A s (wX cI cJ cZ cR am gm t) H locs → lv_has ls 3 [(0, .ref (am 2007))] → W p l e (rmA (F + 5) (L + 158) t0 t') s m ([.ref (am 2007), .int a1, .int a2].toArray) below meth c H locs (mC t0 t) (mS t0 t) (MQ below (qIa r D (tyX cI cJ cZ cR) (fun gm => wX cI cJ cZ cR am gm t') A) ([.ref (am 2007), .int a1, .int a2].toArray) s (mC t0 t') (mS t0 t') A) (F0 m 21 ls [.int w0]) := by
    intro gm t w0 ho h0 H locs ls hW hl
    have hE : mle t t' := (mm_x7_readInRow_J21 rr hmm _ _ _ ho)
    have hR := hR_of (t0 := t0) hE
    unfold x7_readInRow_J21 at ho
    cases ho
    exact rtIa gm C0.1 hW dX7_readInRow_21
  have J10 : ∀ (gm : Nat → Nat) (t : St) (w0 : Int32) (_ : x7_readInRow_J10 rr t w0 = some (r, t')) (_ : mle t0 t) (H : Heap) (locs : List Loc) (ls : Array Slot), wl D A s (wX cI cJ cZ cR am gm t) H locs → lv_has ls 3 [(0, .ref (am 2007))] → W p l e (rmA (F + 5) (L + 158) t0 t') s m ([.ref (am 2007), .int a1, .int a2].toArray) below meth c H locs (mC t0 t) (mS t0 t) (MQ below (qIa r D (tyX cI cJ cZ cR) (fun gm => wX cI cJ cZ cR am gm t') A) ([.ref (am 2007), .int a1, .int a2].toArray) s (mC t0 t') (mS t0 t') A) (F0 m 10 ls [.int w0]) := by
    intro gm t w0 ho h0 H locs ls hW hl
    have hE : mle t t' := (mm_x7_readInRow_J10 rr hmm _ _ _ ho)
    have hR := hR_of (t0 := t0) hE
    unfold x7_readInRow_J10 at ho
    refine lv_goto (tgt := 21) hx hb dX7_readInRow_10 (by decide) ?_
    exact J21 gm _ _ ho h0 _ _ _ hW (lv_sub hl [0] rfl)
  have hE : mle t0 t' := mm_x7_readInRow rr hmm _ _ _ _ ho
  have hR := hR_of (t0 := t0) hE
  have h0 : mle t0 t0 := mle.rfl
  refine W_0 (t0 := t0) ?_
  unfold x7_readInRow at ho
  refine lv_iload_n hx hb dX7_readInRow_0 rfl (lv_at hl 1 rfl) ?_
  refine lv_iconst (v := (3 : Int32)) hx hb dX7_readInRow_1 (by decide) ?_
  refine lv_icmp_ne (tgt := 13) hx hb dX7_readInRow_2 (by decide) (fun c1 => ?_) (fun c1 => ?_)
  · replace ho := ite_f c1 ho
    refine lv_aload_n hx hb dX7_readInRow_13 rfl (lv_at hl 0 rfl) ?_
    refine lv_iload_n hx hb dX7_readInRow_14 rfl (lv_at hl 1 rfl) ?_
    refine lv_iconst (v := (1 : Int32)) hx hb dX7_readInRow_15 (by decide) ?_
    refine lv_iadd hx hb dX7_readInRow_16 ?_
    refine lv_iload_n hx hb dX7_readInRow_17 rfl (lv_at hl 2 rfl) ?_
    obtain ⟨q2, hc3, ho⟩ := bd_some ho
    have hq2 := hmm t0 (a1 + (1 : Int32)) a2 _ hc3
    have hEq2 := (mm_x7_readInRow_J21 rr hmm _ _ _ ho)
    refine bkIa C0.1 hW h0 hq2 (runVX (As := [.int (a1 + (1 : Int32)), .int a2]) (rest := []) C0 hW (RRok.use hrr _ t0 (a1 + (1 : Int32)) a2 (r := q2.1) (t' := q2.2) hc3) cb_X7_X7_readRow_35 7 7 rfl rfl rfl rfl rfl ⟨rfl, rfl⟩ ⟨(show F + 1 ≤ F + 5 by omega), (show 8 + (5 + 11) + (L) ≤ L + 158 by omega)⟩ (Nat.le_of_ble_eq_true rfl) hl.1 dX7_readInRow_18 (hf_of h0 hq2 hEq2)) (fun gm H locs hW => ?_)
    have h0 := mle.trans h0 hq2
    exact J21 gm _ _ ho h0 _ _ _ hW (lv_sub hl [0] rfl)
  · replace ho := ite_t c1 ho
    refine lv_aload_n hx hb dX7_readInRow_5 rfl (lv_at hl 0 rfl) ?_
    refine lv_iload_n hx hb dX7_readInRow_6 rfl (lv_at hl 2 rfl) ?_
    obtain ⟨q4, hc5, ho⟩ := bd_some ho
    have hq4 := mm_x7_readPart rr hmm t0 a2 _ hc5
    have hEq4 := (mm_x7_readInRow_J10 rr hmm _ _ _ ho)
    refine bkIa C0.1 hW h0 hq4 (runVX (As := [.int a2]) (rest := []) C0 hW (c_x7_readPart l hmm hrr _ t0 a2 (r := q4.1) (t' := q4.2) hc5) cb_X7_X7_readPart_71 7 7 rfl rfl rfl rfl rfl ⟨rfl, rfl⟩ ⟨(show F + 4 + 1 ≤ F + 5 by omega), (show 8 + (3 + 11) + (L + 136) ≤ L + 158 by omega)⟩ (Nat.le_of_ble_eq_true rfl) hl.1 dX7_readInRow_7 (hf_of h0 hq4 hEq4)) (fun gm H locs hW => ?_)
    have h0 := mle.trans h0 hq4
    exact J10 gm _ _ ho h0 _ _ _ hW (lv_sub hl [0] rfl)
noncomputable def x7_separator (t : St) (a0 : Int32) : Option (Int32) :=
  if a0 = (1 : Int32) then (some (124 : Int32)) else (if a0 = (2 : Int32) then (some (62 : Int32)) else (some (38 : Int32)))
set_option maxHeartbeats 4000000 in
set_option maxRecDepth 100000 in
theorem c_x7_separator (l : Launch) {D : va_G} {cI cJ cZ cR : ClassId} {am gm : Nat → Nat} {st : Nat} (sz : Nat) (t : St) (a0 : Int32) {r : Int32} (ho : x7_separator t a0 = some r) : Met l yX7_separator (.code yX7_separator cX7_separator 1 (some .int) :: wsAll) (rmN 0 0) (va_Pc [.int a0] (prX D (tyX cI cJ cZ cR) (wX cI cJ cZ cR am gm t) sz st)) (qI r D (tyX cI cJ cZ cR) (wX cI cJ cZ cR am gm t) (va_A (wX cI cJ cZ cR am gm t) sz)) 0 0 (va_A (wX cI cJ cZ cR am gm t) sz) := by
  refine Met.ofW (cc := cX7_separator) (maxL := 1) (ret := (some .int)) (by decide) rfl ?_
  intro p e s m args below meth c s₁ B hml hv
  obtain ⟨rfl, ⟨hsz, hP, hK, hD0⟩, hsx⟩ := hv
  have hx := B.exec
  have hb := B.bytes
  have hts := atoms_spec (ws := (.code yX7_separator cX7_separator 1 (some .int) :: wsAll)) B.pre
  have hta := fun w h => hts w (List.mem_cons_of_mem _ h)
  have hown : s.vm.findClass RX7 = some m.cls := findClass_of_methodNamed B.named
  have hlocks := B.notSynchronized
  subst hsz
  have hD := hD0.self (sz := s.heap.size)
  generalize hAe : va_A (wX cI cJ cZ cR am gm t) s.heap.size = A at hD ⊢
  have hA : ∀ q : Nat, s.heap.size ≤ q → A q := fun q h => by rw [← hAe]; exact Or.inr h
  have C0 : cxX p s m ([.int a0].toArray) meth c cX7_separator RX7 1 (some .int) D (tyX cI cJ cZ cR) st A := ⟨⟨hx, hb, B.returns, hml, hown, hta, hlocks, hK, hA⟩, by rw [← hAe]; exact hsx⟩
  have hW : wl D A s (wX cI cJ cZ cR am gm t) s.heap [] := ⟨hP, hD, va_S.rf⟩
  have hl := lv_entry [.int a0] (n := 1) (Nat.le_of_ble_eq_true rfl)
  rw [lg_entry_eq]
  generalize (lg_sl [.int a0] ++ List.replicate (1 - (lg_sl [.int a0]).length) Slot.unset).toArray = ls at hl ⊢
  have hl : lv_has ls 1 [(0, .int a0)] := hl
  unfold x7_separator at ho
  refine lv_iload_n hx hb dX7_separator_0 rfl (lv_at hl 0 rfl) ?_
  refine lv_iconst (v := (1 : Int32)) hx hb dX7_separator_1 (by decide) ?_
  refine lv_icmp_ne (tgt := 8) hx hb dX7_separator_2 (by decide) (fun c1 => ?_) (fun c1 => ?_)
  · replace ho := ite_f c1 ho
    refine lv_iload_n hx hb dX7_separator_8 rfl (lv_at hl 0 rfl) ?_
    refine lv_iconst (v := (2 : Int32)) hx hb dX7_separator_9 (by decide) ?_
    refine lv_icmp_ne (tgt := 18) hx hb dX7_separator_10 (by decide) (fun c2 => ?_) (fun c2 => ?_)
    · replace ho := ite_f c2 ho
      refine lv_bipush (v := (38 : Int32)) hx hb dX7_separator_18 (by decide) ?_
      cases ho
      exact rtI C0.1 hW dX7_separator_20
    · replace ho := ite_t c2 ho
      refine lv_bipush (v := (62 : Int32)) hx hb dX7_separator_13 (by decide) ?_
      refine lv_goto (tgt := 20) hx hb dX7_separator_15 (by decide) ?_
      cases ho
      exact rtI C0.1 hW dX7_separator_20
  · replace ho := ite_t c1 ho
    refine lv_bipush (v := (124 : Int32)) hx hb dX7_separator_5 (by decide) ?_
    cases ho
    exact rtI C0.1 hW dX7_separator_7
noncomputable def x7_readRowS_J60 (rr : RRt) (t : St) (v1 : Int32) (v2 : Int32) (v3 : Int32) (v4 : Int32) (w1 : Int32) : Option ((Int32 × St) ⊕ (St)) :=
  (x7_hold t w1).bind (fun q1 => nm (v4 + (1 : Int32)) (fun x3 : Int32 => some (.inl (x3, q1))))
theorem mm_x7_readRowS_J60 (rr : RRt) (hmm : RRm rr) (t : St) (v1 : Int32) (v2 : Int32) (v3 : Int32) (v4 : Int32) (w1 : Int32) : MR (x7_readRowS_J60 rr t v1 v2 v3 v4 w1) t (Sum.elim (fun (x : Int32 × St) => x.2) (fun (y : St) => y)) := by
  unfold x7_readRowS_J60
  exact MR_bind (mm_x7_hold t w1) (fun q1 hq1 => MR_nm (fun x3 _ => MR_some hq1))
noncomputable def x7_readRowS_B18 (rr : RRt) (v1 : Int32) (v2 : Int32) (v3 : Int32) (v4 : Int32) (t : St) : Option ((Int32 × St) ⊕ (St)) :=
  if (80 : Int32) < v4 then (some (.inr t)) else (if (gI t 704) = 0 then ((x7_next t).bind (fun q6 => (x7_separator q6.2 v1).bind (fun q8 => if q6.1 = q8 then (nm (sI q6.2 703 ((gI q6.2 703) + (1 : Int32))) (fun t11 : St => (x7_readInRow rr t11 v1 v2).bind (fun q12 => x7_readRowS_J60 rr q12.2 v1 v2 v3 v4 q12.1))) else (some (.inr q6.2))))) else (some (.inr t)))
theorem mm_x7_readRowS_B18 (rr : RRt) (hmm : RRm rr) (v1 : Int32) (v2 : Int32) (v3 : Int32) (v4 : Int32) (t : St) : MR (x7_readRowS_B18 rr v1 v2 v3 v4 t) t (Sum.elim (fun (x : Int32 × St) => x.2) (fun (y : St) => y)) := by
  unfold x7_readRowS_B18
  exact MR_ite (MR_some mle.rfl) (MR_ite (MR_bind (mm_x7_next t) (fun q6 hq6 => MR_bindn (fun q8 => MR_ite (MR_nmS mle_sI (fun t11 ht11 => MR_bind (mm_x7_readInRow rr hmm t11 v1 v2) (fun q12 hq12 => MR_wk (mle.trans (mle.trans hq6 ht11) hq12) (mm_x7_readRowS_J60 rr hmm q12.2 v1 v2 v3 v4 q12.1)))) (MR_some hq6)))) (MR_some mle.rfl))
theorem mm_x7_readRowS_L18 (rr : RRt) (hmm : RRm rr) (v1 : Int32) (v2 : Int32) (v3 : Int32) (v4 : Int32) (t : St) : MR (lp (fun x => x7_readRowS_B18 rr v1 v2 v3 x.1 x.2) (v4, t)) t (fun (y : St) => y) := MR_lp (p := (fun (x : Int32 × St) => x.2)) (q := (fun (y : St) => y)) (fun x => mm_x7_readRowS_B18 rr hmm v1 v2 v3 x.1 x.2) (v4, t)
noncomputable def x7_readRowS_J122 (rr : RRt) (t : St) (w0 : Int32) : Option (Int32 × St) :=
  some (w0, t)
theorem mm_x7_readRowS_J122 (rr : RRt) (hmm : RRm rr) (t : St) (w0 : Int32) : MR (x7_readRowS_J122 rr t w0) t (fun (a : Int32 × St) => a.2) := by
  unfold x7_readRowS_J122
  exact MR_some mle.rfl
noncomputable def x7_readRowS_J69 (rr : RRt) (t : St) (v1 : Int32) (v3 : Int32) : Option (Int32 × St) :=
  nm ((gI t 702) - v3) (fun x14 : Int32 => nm (sI t 702 v3) (fun t15 : St => if (gI t15 704) = 0 then (if x14 = (1 : Int32) then (gd v3 (gN t15 701) (x7_readRowS_J122 rr t15 (gA t15 701 (v3).toNatClampNeg))) else ((x6_addRow_701 t15 v1 (0 : Int32) v3 x14).bind (fun q18 => x7_readRowS_J122 rr q18.2 q18.1))) else (some ((-1 : Int32), t15))))
theorem mm_x7_readRowS_J69 (rr : RRt) (hmm : RRm rr) (t : St) (v1 : Int32) (v3 : Int32) : MR (x7_readRowS_J69 rr t v1 v3) t (fun (a : Int32 × St) => a.2) := by
  unfold x7_readRowS_J69
  exact MR_nm (fun x14 _ => MR_nmS mle_sI (fun t15 ht15 => MR_ite (MR_ite (MR_gd (MR_wk ht15 (mm_x7_readRowS_J122 rr hmm t15 (gA t15 701 (v3).toNatClampNeg)))) (MR_bind (mm_x6_addRow_701 t15 v1 (0 : Int32) v3 x14) (fun q18 hq18 => MR_wk (mle.trans ht15 hq18) (mm_x7_readRowS_J122 rr hmm q18.2 q18.1)))) (MR_some ht15)))
noncomputable def x7_readRowS_J12 (rr : RRt) (t : St) (v1 : Int32) (v2 : Int32) (v3 : Int32) (w1 : Int32) : Option (Int32 × St) :=
  (x7_hold t w1).bind (fun q21 => (lp (fun x => x7_readRowS_B18 rr v1 v2 v3 x.1 x.2) ((1 : Int32), q21)).bind (fun y23 => x7_readRowS_J69 rr y23 v1 v3))
theorem mm_x7_readRowS_J12 (rr : RRt) (hmm : RRm rr) (t : St) (v1 : Int32) (v2 : Int32) (v3 : Int32) (w1 : Int32) : MR (x7_readRowS_J12 rr t v1 v2 v3 w1) t (fun (a : Int32 × St) => a.2) := by
  unfold x7_readRowS_J12
  exact MR_bind (mm_x7_hold t w1) (fun q21 hq21 => MR_bind (mm_x7_readRowS_L18 rr hmm v1 v2 v3 (1 : Int32) q21) (fun y23 hm24 => MR_wk (mle.trans hq21 hm24) (mm_x7_readRowS_J69 rr hmm y23 v1 v3)))
noncomputable def x7_readRowS (rr : RRt) (t0 : St) (a1 : Int32) (a2 : Int32) : Option (Int32 × St) :=
  nm (gI t0 702) (fun x26 : Int32 => (x7_readInRow rr t0 a1 a2).bind (fun q27 => x7_readRowS_J12 rr q27.2 a1 a2 x26 q27.1))
theorem mm_x7_readRowS (rr : RRt) (hmm : RRm rr) (t0 : St) (a1 : Int32) (a2 : Int32) : MR (x7_readRowS rr t0 a1 a2) t0 (fun (a : Int32 × St) => a.2) := by
  unfold x7_readRowS
  exact MR_nm (fun x26 _ => MR_bind (mm_x7_readInRow rr hmm t0 a1 a2) (fun q27 hq27 => MR_wk hq27 (mm_x7_readRowS_J12 rr hmm q27.2 a1 a2 x26 q27.1)))
set_option maxHeartbeats 4000000 in
set_option maxRecDepth 100000 in
theorem x7_readRowS_L18 {p : Program} {l : Launch} {e : Env} {s : State} {m : MethodId} {args : Array Value} {below : List Frame} {meth : Method} {c : Code} {Q : State → Prop} {F L : Nat} {rr : RRt} (hmm : RRm rr) (hrr : RRok l F L rr) {D : va_G} {cI cJ cZ cR : ClassId} {am gm : Nat → Nat} {st : Nat} {A : Nat → Prop} (C0 : cxX p s m args meth c cX7_readRow RX7 5 (some .int) D (tyX cI cJ cZ cR) st A) {t0 t' : St} {v1 : Int32} {v2 : Int32} {v3 : Int32} {y : St} (hK0 : ∀ (gm : Nat → Nat) (H : Heap) (locs : List Loc) (ls : Array Slot), wl D A s (wX cI cJ cZ cR am gm y) H locs → lv_has ls 5 [(0, .ref (am 2007)), (1, .int v1), (3, .int v3)] → W p l e (rmA (F + 6) (L + 180) t0 t') s m args below meth c H locs (mC t0 y) (mS t0 y) Q (F0 m 69 ls [])) (hyE : mle ((fun (y : St) => y) y) t') :
    ∀ (n : Nat) (v4 : Int32) (t : St) (gm : Nat → Nat), lpn (fun x => x7_readRowS_B18 rr v1 v2 v3 x.1 x.2) n (v4, t) = some y → mle t0 t → ∀ (H : Heap) (locs : List Loc) (ls : Array Slot), wl D A s (wX cI cJ cZ cR am gm t) H locs → lv_has ls 5 [(0, .ref (am 2007)), (1, .int v1), (2, .int v2), (3, .int v3), (4, .int v4)] → W p l e (rmA (F + 6) (L + 180) t0 t') s m args below meth c H locs (mC t0 t) (mS t0 t) Q (F0 m 18 ls []) := by
  have hx := C0.1.1
  have hb := C0.1.2.1
  have hta := C0.1.2.2.2.2.2.1
  have hown := C0.1.2.2.2.2.1
  intro n
  induction n with
  | zero => intro _ _ _ h; cases h
  | succ n ih =>
    intro v4 t gm hrun h0 H locs ls hW hl
    have hE : mle t t' := mle.trans ((MR_lpn (p := (fun (x : Int32 × St) => x.2)) (q := (fun (y : St) => y)) (fun x => mm_x7_readRowS_B18 rr hmm v1 v2 v3 x.1 x.2) _ _ _ hrun)) hyE
    have hR := hR_of (t0 := t0) hE
    have LE : ∀ o, Sum.elim (fun x' => lpn (fun x => x7_readRowS_B18 rr v1 v2 v3 x.1 x.2) n x') (fun y => some y) o = some y → mle (Sum.elim (fun (x : Int32 × St) => x.2) (fun (y : St) => y) o) t' := by
      intro o ho
      cases o with
      | inl x => exact mle.trans ((MR_lpn (p := (fun (x : Int32 × St) => x.2)) (q := (fun (y : St) => y)) (fun x => mm_x7_readRowS_B18 rr hmm v1 v2 v3 x.1 x.2) _ _ _ ho)) hyE
      | inr z => cases ho; exact hyE
    obtain ⟨o, ho, hrun⟩ := bd_some hrun
    have J60 : ∀ (gm : Nat → Nat) (t : St) (v4 : Int32) (w1 : Int32) (_ : x7_readRowS_J60 rr t v1 v2 v3 v4 w1 = some o) (_ : mle t0 t) (H : Heap) (locs : List Loc) (ls : Array Slot), wl D A s (wX cI cJ cZ cR am gm t) H locs → lv_has ls 5 [(0, .ref (am 2007)), (1, .int v1), (2, .int v2), (3, .int v3), (4, .int v4)] → W p l e (rmA (F + 6) (L + 180) t0 t') s m args below meth c H locs (mC t0 t) (mS t0 t) Q (F0 m 60 ls [.int w1, .ref (am 2007)]) := by
      intro gm t v4 w1 ho h0 H locs ls hW hl
      have hE : mle t t' := (mle.trans (mm_x7_readRowS_J60 rr hmm _ _ _ _ _ _ _ ho) (LE _ hrun))
      have hR := hR_of (t0 := t0) hE
      unfold x7_readRowS_J60 at ho
      obtain ⟨q1, hc2, ho⟩ := bd_some ho
      have hq1 := mm_x7_hold t w1 _ hc2
      refine bkV C0.1 hW (runVX (As := [.int w1]) (rest := []) C0 hW (c_x7_hold l _ t w1 (t' := q1) hc2) cb_X7_X7_hold_59 7 7 rfl rfl rfl rfl rfl ⟨rfl, rfl⟩ ⟨(show 0 + 1 ≤ F + 6 by omega), (show 8 + (2 + 11) + (0) ≤ L + 180 by omega)⟩ (Nat.le_of_ble_eq_true rfl) hl.1 dX7_readRow_60 ⟨hR.1, hR.2⟩) (fun H locs hW => ?_)
      obtain ⟨x3, ex3, ho⟩ := nm_x ho
      refine lv_iinc (v := x3) (lv' := [(4, .int x3), (0, .ref (am 2007)), (1, .int v1), (2, .int v2), (3, .int v3)]) hx hb dX7_readRow_63 hl (k := 4) rfl (by rw [ex3]; rfl) (by decide) rfl (fun ls hl => ?_)
      clear ex3
      refine lv_goto (tgt := 18) hx hb dX7_readRow_66 (by decide) ?_
      cases ho
      refine W_up h0 hq1 ?_
      exact ih _ _ gm hrun (mle.trans h0 hq1) _ _ _ hW (lv_sub hl [1, 2, 3, 4, 0] rfl)
    unfold x7_readRowS_B18 at ho
    refine lv_iload hx hb dX7_readRow_18 (lv_at hl 4 rfl) ?_
    refine lv_bipush (v := (80 : Int32)) hx hb dX7_readRow_20 (by decide) ?_
    refine lv_icmp_gt (tgt := 69) hx hb dX7_readRow_22 (by decide) (fun c4 => ?_) (fun c4 => ?_)
    · replace ho := ite_t c4 ho
      cases ho
      cases hrun
      exact hK0 gm _ _ _ hW (lv_sub hl [0, 1, 3] rfl)
    · replace ho := ite_f c4 ho
      refine lv_aload_n hx hb dX7_readRow_25 rfl (lv_at hl 0 rfl) ?_
      refine xGET_704 C0 kw_250 hW dX7_readRow_26 ?_
      refine lv_if_ne (tgt := 69) hx hb dX7_readRow_29 (by decide) (fun c5 => ?_) (fun c5 => ?_)
      · replace ho := ite_f c5 ho
        cases ho
        cases hrun
        exact hK0 gm _ _ _ hW (lv_sub hl [0, 1, 3] rfl)
      · replace ho := ite_t c5 ho
        refine lv_aload_n hx hb dX7_readRow_32 rfl (lv_at hl 0 rfl) ?_
        obtain ⟨q6, hc7, ho⟩ := bd_some ho
        have hq6 := mm_x7_next t _ hc7
        refine bkI C0.1 hW (runVX (As := []) (rest := []) C0 hW (c_x7_next l _ t (r := q6.1) (t' := q6.2) hc7) cb_X7_X7_next_39 7 7 rfl rfl rfl rfl rfl ⟨rfl, rfl⟩ ⟨(show 0 + 1 ≤ F + 6 by omega), (show 8 + (1 + 11) + (0) ≤ L + 180 by omega)⟩ (Nat.le_of_ble_eq_true rfl) hl.1 dX7_readRow_33 ⟨hR.1, hR.2⟩) (fun H locs hW => ?_)
        refine lv_iload_n hx hb dX7_readRow_36 rfl (lv_at hl 1 rfl) ?_
        obtain ⟨q8, hc9, ho⟩ := bd_some ho
        refine bkI C0.1 hW (runSX (As := [.int v1]) (rest := [.int q6.1]) C0 hW (c_x7_separator l _ q6.2 v1 (r := q8) hc9) cb_X7_X7_separator_63 rfl rfl ⟨rfl, rfl⟩ ⟨(show 0 + 1 ≤ F + 6 by omega), (show 8 + (1 + 11) + (0) ≤ L + 180 by omega)⟩ (Nat.le_of_ble_eq_true rfl) hl.1 dX7_readRow_37 ⟨hR.1, hR.2⟩) (fun H locs hW => ?_)
        refine lv_icmp_ne (tgt := 69) hx hb dX7_readRow_40 (by decide) (fun c10 => ?_) (fun c10 => ?_)
        · replace ho := ite_f c10 ho
          cases ho
          cases hrun
          refine W_up h0 hq6 ?_
          exact hK0 gm _ _ _ hW (lv_sub hl [0, 1, 3] rfl)
        · replace ho := ite_t c10 ho
          refine lv_aload_n hx hb dX7_readRow_43 rfl (lv_at hl 0 rfl) ?_
          refine lv_dup hx hb dX7_readRow_44 rfl ?_
          refine xGET_703 C0 kw_249 hW dX7_readRow_45 ?_
          refine lv_iconst (v := (1 : Int32)) hx hb dX7_readRow_48 (by decide) ?_
          refine lv_iadd hx hb dX7_readRow_49 ?_
          refine xPUT_703 C0 kw_249 hW dX7_readRow_50 (fun H locs hW => ?_)
          obtain ⟨t11, ht11, ho, hW⟩ := nm_wm (P := fun t => wl D A s (wX cI cJ cZ cR am gm t) H locs) mle_sI ho hW
          refine lv_aload_n hx hb dX7_readRow_53 rfl (lv_at hl 0 rfl) ?_
          refine lv_aload_n hx hb dX7_readRow_54 rfl (lv_at hl 0 rfl) ?_
          refine lv_iload_n hx hb dX7_readRow_55 rfl (lv_at hl 1 rfl) ?_
          refine lv_iload_n hx hb dX7_readRow_56 rfl (lv_at hl 2 rfl) ?_
          obtain ⟨q12, hc13, ho⟩ := bd_some ho
          have hq12 := mm_x7_readInRow rr hmm t11 v1 v2 _ hc13
          have hEq12 := (mle.trans (mm_x7_readRowS_J60 rr hmm _ _ _ _ _ _ _ ho) (LE _ hrun))
          refine W_up h0 (mle.trans hq6 ht11) ?_
          have h0 := (mle.trans h0 (mle.trans hq6 ht11))
          refine bkIa C0.1 hW h0 hq12 (runVX (As := [.int v1, .int v2]) (rest := [.ref (am 2007)]) C0 hW (c_x7_readInRow l hmm hrr _ t11 v1 v2 (r := q12.1) (t' := q12.2) hc13) cb_X7_X7_readInRow_56 7 7 rfl rfl rfl rfl rfl ⟨rfl, rfl⟩ ⟨(show F + 5 + 1 ≤ F + 6 by omega), (show 8 + (3 + 11) + (L + 158) ≤ L + 180 by omega)⟩ (Nat.le_of_ble_eq_true rfl) hl.1 dX7_readRow_57 (hf_of h0 hq12 hEq12)) (fun gm H locs hW => ?_)
          have h0 := mle.trans h0 hq12
          exact J60 gm _ _ _ ho h0 _ _ _ hW (lv_sub hl [0, 1, 2, 3, 4] rfl)
set_option maxHeartbeats 4000000 in
set_option maxRecDepth 100000 in
theorem c_x7_readRowS (l : Launch) {F L : Nat} {rr : RRt} (hmm : RRm rr) (hrr : RRok l F L rr) {D : va_G} {cI cJ cZ cR : ClassId} {am gm : Nat → Nat} {st : Nat} (sz : Nat) (t0 : St) (a1 : Int32) (a2 : Int32) {r : Int32} {t' : St} (ho : x7_readRowS rr t0 a1 a2 = some (r, t')) : Met l yX7_readRow (.code yX7_readRow cX7_readRow 5 (some .int) :: wsAll) (rmA (F + 6) (L + 180) t0 t') (va_Pc [.ref (am 2007), .int a1, .int a2] (prX D (tyX cI cJ cZ cR) (wX cI cJ cZ cR am gm t0) sz st)) (qIa r D (tyX cI cJ cZ cR) (fun gm => wX cI cJ cZ cR am gm t') (va_A (wX cI cJ cZ cR am gm t0) sz)) (mC t0 t') (mS t0 t') (va_A (wX cI cJ cZ cR am gm t0) sz) := by
  refine Met.ofW (cc := cX7_readRow) (maxL := 5) (ret := (some .int)) (by decide) rfl ?_
  intro p e s m args below meth c s₁ B hml hv
  obtain ⟨rfl, ⟨hsz, hP, hK, hD0⟩, hsx⟩ := hv
  have hx := B.exec
  have hb := B.bytes
  have hts := atoms_spec (ws := (.code yX7_readRow cX7_readRow 5 (some .int) :: wsAll)) B.pre
  have hta := fun w h => hts w (List.mem_cons_of_mem _ h)
  have hown : s.vm.findClass RX7 = some m.cls := findClass_of_methodNamed B.named
  have hlocks := B.notSynchronized
  subst hsz
  have hD := hD0.self (sz := s.heap.size)
  generalize hAe : va_A (wX cI cJ cZ cR am gm t0) s.heap.size = A at hD ⊢
  have hA : ∀ q : Nat, s.heap.size ≤ q → A q := fun q h => by rw [← hAe]; exact Or.inr h
  have C0 : cxX p s m ([.ref (am 2007), .int a1, .int a2].toArray) meth c cX7_readRow RX7 5 (some .int) D (tyX cI cJ cZ cR) st A := ⟨⟨hx, hb, B.returns, hml, hown, hta, hlocks, hK, hA⟩, by rw [← hAe]; exact hsx⟩
  have hW : wl D A s (wX cI cJ cZ cR am gm t0) s.heap [] := ⟨hP, hD, va_S.rf⟩
  have hl := lv_entry [.ref (am 2007), .int a1, .int a2] (n := 5) (Nat.le_of_ble_eq_true rfl)
  rw [lg_entry_eq]
  generalize (lg_sl [.ref (am 2007), .int a1, .int a2] ++ List.replicate (5 - (lg_sl [.ref (am 2007), .int a1, .int a2]).length) Slot.unset).toArray = ls at hl ⊢
  have hl : lv_has ls 5 [(0, .ref (am 2007)), (1, .int a1), (2, .int a2)] := hl
  clear hAe hD hP hD0 hts
  have J122 : ∀ (gm : Nat → Nat) (t : St) (w0 : Int32) (_ : x7_readRowS_J122 rr t w0 = some (r, t')) (_ : mle t0 t) (H : Heap) (locs : List Loc) (ls : Array Slot), wl D A s (wX cI cJ cZ cR am gm t) H locs → lv_has ls 5 [(0, .ref (am 2007))] → W p l e (rmA (F + 6) (L + 180) t0 t') s m ([.ref (am 2007), .int a1, .int a2].toArray) below meth c H locs (mC t0 t) (mS t0 t) (MQ below (qIa r D (tyX cI cJ cZ cR) (fun gm => wX cI cJ cZ cR am gm t') A) ([.ref (am 2007), .int a1, .int a2].toArray) s (mC t0 t') (mS t0 t') A) (F0 m 122 ls [.int w0]) := by
    intro gm t w0 ho h0 H locs ls hW hl
    have hE : mle t t' := (mm_x7_readRowS_J122 rr hmm _ _ _ ho)
    have hR := hR_of (t0 := t0) hE
    unfold x7_readRowS_J122 at ho
    cases ho
    exact rtIa gm C0.1 hW dX7_readRow_122
  have J69 : ∀ (gm : Nat → Nat) (t : St) (v1 : Int32) (v3 : Int32) (_ : x7_readRowS_J69 rr t v1 v3 = some (r, t')) (_ : mle t0 t) (H : Heap) (locs : List Loc) (ls : Array Slot), wl D A s (wX cI cJ cZ cR am gm t) H locs → lv_has ls 5 [(0, .ref (am 2007)), (1, .int v1), (3, .int v3)] → W p l e (rmA (F + 6) (L + 180) t0 t') s m ([.ref (am 2007), .int a1, .int a2].toArray) below meth c H locs (mC t0 t) (mS t0 t) (MQ below (qIa r D (tyX cI cJ cZ cR) (fun gm => wX cI cJ cZ cR am gm t') A) ([.ref (am 2007), .int a1, .int a2].toArray) s (mC t0 t') (mS t0 t') A) (F0 m 69 ls []) := by
    intro gm t v1 v3 ho h0 H locs ls hW hl
    have hE : mle t t' := (mm_x7_readRowS_J69 rr hmm _ _ _ _ ho)
    have hR := hR_of (t0 := t0) hE
    unfold x7_readRowS_J69 at ho
    refine lv_aload_n hx hb dX7_readRow_69 rfl (lv_at hl 0 rfl) ?_
    refine xGET_702 C0 kw_248 hW dX7_readRow_70 ?_
    refine lv_iload_n hx hb dX7_readRow_73 rfl (lv_at hl 2 rfl) ?_
    refine lv_isub hx hb dX7_readRow_74 ?_
    refine lv_nmi ho (fun x14 ho => ?_)
    refine lv_istore (lv' := [(4, .int x14), (0, .ref (am 2007)), (1, .int v1), (3, .int v3)]) hx hb dX7_readRow_75 hl (by decide) rfl (fun ls hl => ?_)
    refine lv_aload_n hx hb dX7_readRow_77 rfl (lv_at hl 1 rfl) ?_
    refine lv_iload_n hx hb dX7_readRow_78 rfl (lv_at hl 3 rfl) ?_
    refine xPUT_702 C0 kw_248 hW dX7_readRow_79 (fun H locs hW => ?_)
    obtain ⟨t15, ht15, ho, hW⟩ := nm_wm (P := fun t => wl D A s (wX cI cJ cZ cR am gm t) H locs) mle_sI ho hW
    refine lv_aload_n hx hb dX7_readRow_82 rfl (lv_at hl 1 rfl) ?_
    refine xGET_704 C0 kw_250 hW dX7_readRow_83 ?_
    refine lv_if_eq (tgt := 91) hx hb dX7_readRow_86 (by decide) (fun c16 => ?_) (fun c16 => ?_)
    · replace ho := ite_t c16 ho
      refine lv_iload hx hb dX7_readRow_91 (lv_at hl 0 rfl) ?_
      refine lv_iconst (v := (1 : Int32)) hx hb dX7_readRow_93 (by decide) ?_
      refine lv_icmp_ne (tgt := 106) hx hb dX7_readRow_94 (by decide) (fun c17 => ?_) (fun c17 => ?_)
      · replace ho := ite_f c17 ho
        refine lv_aload_n hx hb dX7_readRow_106 rfl (lv_at hl 1 rfl) ?_
        refine xGET_700 C0 kw_246 hW dX7_readRow_107 ?_
        refine lv_iload_n hx hb dX7_readRow_110 rfl (lv_at hl 2 rfl) ?_
        refine lv_iconst (v := (0 : Int32)) hx hb dX7_readRow_111 (by decide) ?_
        refine lv_aload_n hx hb dX7_readRow_112 rfl (lv_at hl 1 rfl) ?_
        refine xGET_701 C0 kw_247 hW dX7_readRow_113 ?_
        refine lv_iload_n hx hb dX7_readRow_116 rfl (lv_at hl 3 rfl) ?_
        refine lv_iload hx hb dX7_readRow_117 (lv_at hl 0 rfl) ?_
        obtain ⟨q18, hc19, ho⟩ := bd_some ho
        have hq18 := mm_x6_addRow_701 t15 v1 (0 : Int32) v3 x14 _ hc19
        have hEq18 := (mm_x7_readRowS_J122 rr hmm _ _ _ ho)
        refine W_up h0 ht15 ?_
        have h0 := (mle.trans h0 ht15)
        refine bkIa C0.1 hW h0 hq18 (runVX (As := [.int v1, .int (0 : Int32), .ref (am 701), .int v3, .int x14]) (rest := []) C0 hW (c_x6_addRow_701 l _ t15 v1 (0 : Int32) v3 x14 (r := q18.1) (t' := q18.2) hc19) cb_X7_X6_addRow_67 6 6 rfl rfl rfl rfl rfl ⟨rfl, rfl⟩ ⟨(show 2 + 1 ≤ F + 6 by omega), (show 8 + (9 + 11) + (82) ≤ L + 180 by omega)⟩ (Nat.le_of_ble_eq_true rfl) hl.1 dX7_readRow_119 (hf_of h0 hq18 hEq18)) (fun gm H locs hW => ?_)
        have h0 := mle.trans h0 hq18
        exact J122 gm _ _ ho h0 _ _ _ hW (lv_sub hl [1] rfl)
      · replace ho := ite_t c17 ho
        refine lv_aload_n hx hb dX7_readRow_97 rfl (lv_at hl 1 rfl) ?_
        refine xGET_701 C0 kw_247 hW dX7_readRow_98 ?_
        refine lv_iload_n hx hb dX7_readRow_101 rfl (lv_at hl 3 rfl) ?_
        obtain ⟨g20, ho⟩ := gd_some ho
        refine xLD_701 C0 hW g20 dX7_readRow_102 ?_
        refine lv_goto (tgt := 122) hx hb dX7_readRow_103 (by decide) ?_
        refine W_up h0 ht15 ?_
        exact J122 gm _ _ ho (mle.trans h0 ht15) _ _ _ hW (lv_sub hl [1] rfl)
    · replace ho := ite_f c16 ho
      refine lv_iconst (v := (-1 : Int32)) hx hb dX7_readRow_89 (by decide) ?_
      refine W_up h0 ht15 ?_
      cases ho
      exact rtIa gm C0.1 hW dX7_readRow_90
  have J12 : ∀ (gm : Nat → Nat) (t : St) (v1 : Int32) (v2 : Int32) (v3 : Int32) (w1 : Int32) (_ : x7_readRowS_J12 rr t v1 v2 v3 w1 = some (r, t')) (_ : mle t0 t) (H : Heap) (locs : List Loc) (ls : Array Slot), wl D A s (wX cI cJ cZ cR am gm t) H locs → lv_has ls 5 [(0, .ref (am 2007)), (1, .int v1), (2, .int v2), (3, .int v3)] → W p l e (rmA (F + 6) (L + 180) t0 t') s m ([.ref (am 2007), .int a1, .int a2].toArray) below meth c H locs (mC t0 t) (mS t0 t) (MQ below (qIa r D (tyX cI cJ cZ cR) (fun gm => wX cI cJ cZ cR am gm t') A) ([.ref (am 2007), .int a1, .int a2].toArray) s (mC t0 t') (mS t0 t') A) (F0 m 12 ls [.int w1, .ref (am 2007)]) := by
    intro gm t v1 v2 v3 w1 ho h0 H locs ls hW hl
    have hE : mle t t' := (mm_x7_readRowS_J12 rr hmm _ _ _ _ _ _ ho)
    have hR := hR_of (t0 := t0) hE
    unfold x7_readRowS_J12 at ho
    obtain ⟨q21, hc22, ho⟩ := bd_some ho
    have hq21 := mm_x7_hold t w1 _ hc22
    refine bkV C0.1 hW (runVX (As := [.int w1]) (rest := []) C0 hW (c_x7_hold l _ t w1 (t' := q21) hc22) cb_X7_X7_hold_59 7 7 rfl rfl rfl rfl rfl ⟨rfl, rfl⟩ ⟨(show 0 + 1 ≤ F + 6 by omega), (show 8 + (2 + 11) + (0) ≤ L + 180 by omega)⟩ (Nat.le_of_ble_eq_true rfl) hl.1 dX7_readRow_12 ⟨hR.1, hR.2⟩) (fun H locs hW => ?_)
    refine lv_iconst (v := (1 : Int32)) hx hb dX7_readRow_15 (by decide) ?_
    refine lv_istore (lv' := [(4, .int (1 : Int32)), (0, .ref (am 2007)), (1, .int v1), (2, .int v2), (3, .int v3)]) hx hb dX7_readRow_16 hl (by decide) rfl (fun ls hl => ?_)
    obtain ⟨y23, hc25, ho⟩ := bd_some ho
    have hm24 := mm_x7_readRowS_L18 rr hmm v1 v2 v3 (1 : Int32) q21 _ hc25
    have hEy23 := (mm_x7_readRowS_J69 rr hmm _ _ _ _ ho)
    obtain ⟨ny23, hc25⟩ := lp_to hc25
    refine W_up h0 hq21 ?_
    refine x7_readRowS_L18 hmm hrr (gm := gm) C0 ?_ hEy23 ny23 _ _ gm hc25 (mle.trans h0 hq21) _ _ _ hW (lv_sub hl [1, 2, 3, 4, 0] rfl)
    intro gm H locs ls hW hl
    have h0 := mle.trans h0 (mle.trans hq21 hm24)
    exact J69 gm _ _ _ ho h0 _ _ _ hW (lv_sub hl [0, 1, 2] rfl)
  have hE : mle t0 t' := mm_x7_readRowS rr hmm _ _ _ _ ho
  have hR := hR_of (t0 := t0) hE
  have h0 : mle t0 t0 := mle.rfl
  refine W_0 (t0 := t0) ?_
  unfold x7_readRowS at ho
  refine lv_aload_n hx hb dX7_readRow_0 rfl (lv_at hl 0 rfl) ?_
  refine xGET_702 C0 kw_248 hW dX7_readRow_1 ?_
  refine lv_nmi ho (fun x26 ho => ?_)
  refine lv_istore_n (lv' := [(3, .int x26), (0, .ref (am 2007)), (1, .int a1), (2, .int a2)]) hx hb dX7_readRow_4 rfl hl (by decide) rfl (fun ls hl => ?_)
  refine lv_aload_n hx hb dX7_readRow_5 rfl (lv_at hl 1 rfl) ?_
  refine lv_aload_n hx hb dX7_readRow_6 rfl (lv_at hl 1 rfl) ?_
  refine lv_iload_n hx hb dX7_readRow_7 rfl (lv_at hl 2 rfl) ?_
  refine lv_iload_n hx hb dX7_readRow_8 rfl (lv_at hl 3 rfl) ?_
  obtain ⟨q27, hc28, ho⟩ := bd_some ho
  have hq27 := mm_x7_readInRow rr hmm t0 a1 a2 _ hc28
  have hEq27 := (mm_x7_readRowS_J12 rr hmm _ _ _ _ _ _ ho)
  refine bkIa C0.1 hW h0 hq27 (runVX (As := [.int a1, .int a2]) (rest := [.ref (am 2007)]) C0 hW (c_x7_readInRow l hmm hrr _ t0 a1 a2 (r := q27.1) (t' := q27.2) hc28) cb_X7_X7_readInRow_56 7 7 rfl rfl rfl rfl rfl ⟨rfl, rfl⟩ ⟨(show F + 5 + 1 ≤ F + 6 by omega), (show 8 + (3 + 11) + (L + 158) ≤ L + 180 by omega)⟩ (Nat.le_of_ble_eq_true rfl) hl.1 dX7_readRow_9 (hf_of h0 hq27 hEq27)) (fun gm H locs hW => ?_)
  have h0 := mle.trans h0 hq27
  exact J12 gm _ _ _ _ _ ho h0 _ _ _ hW (lv_sub hl [1, 2, 3, 0] rfl)
noncomputable def x7_readRow : Nat → RRt
  | 0 => fun _ _ _ => none
  | n + 1 => x7_readRowS (x7_readRow n)
theorem mm_x7_readRow : ∀ n : Nat, RRm (x7_readRow n)
  | 0 => fun t a b q e => by cases e
  | n + 1 => fun t a b => mm_x7_readRowS (x7_readRow n) (mm_x7_readRow n) t a b
theorem c_x7_readRow (l : Launch) : ∀ n : Nat, RRok l (n * 6) (n * 180) (x7_readRow n)
  | 0 => fun D cI cJ cZ cR am gm st sz t0 a1 a2 r t' ho => by cases ho
  | n + 1 => fun D cI cJ cZ cR am gm st sz t0 a1 a2 r t' ho => by
    have h := c_x7_readRowS l (mm_x7_readRow n) (c_x7_readRow l n) (D := D) (cI := cI) (cJ := cJ) (cZ := cZ) (cR := cR) (am := am) (gm := gm) (st := st) sz t0 a1 a2 (r := r) (t' := t') ho
    rw [Nat.succ_mul, Nat.succ_mul]
    exact h
noncomputable def x7_readRow30 (t : St) (a b : Int32) : Option (Int32 × St) := x7_readRow 30 t a b
theorem mm_x7_readRow30 (t : St) (a b : Int32) : MR (x7_readRow30 t a b) t (fun (q : Int32 × St) => q.2) := mm_x7_readRow 30 t a b
theorem c_x7_readRow30 (l : Launch) {D : va_G} {cI cJ cZ cR : ClassId} {am gm : Nat → Nat} {st : Nat} (sz : Nat) (t0 : St) (a1 a2 : Int32) {r : Int32} {t' : St} (ho : x7_readRow30 t0 a1 a2 = some (r, t')) : Met l yX7_readRow (.code yX7_readRow cX7_readRow 5 (some .int) :: wsAll) (rmA 180 5400 t0 t') (va_Pc [.ref (am 2007), .int a1, .int a2] (prX D (tyX cI cJ cZ cR) (wX cI cJ cZ cR am gm t0) sz st)) (qIa r D (tyX cI cJ cZ cR) (fun gm => wX cI cJ cZ cR am gm t') (va_A (wX cI cJ cZ cR am gm t0) sz)) (mC t0 t') (mS t0 t') (va_A (wX cI cJ cZ cR am gm t0) sz) := RRok.use (c_x7_readRow l 30) sz t0 a1 a2 ho

noncomputable def x6_shrinkTo (t : St) (a1 : Int32) (a2 : Int32) : Option (St) :=
  nm (sI t 609 a1) (fun t1 : St => nm (sI t1 610 a2) (fun t2 : St => some t2))
theorem mm_x6_shrinkTo (t : St) (a1 : Int32) (a2 : Int32) : MR (x6_shrinkTo t a1 a2) t (fun (a : St) => a) := by
  unfold x6_shrinkTo
  exact MR_nmS mle_sI (fun t1 ht1 => MR_nmS mle_sI (fun t2 ht2 => MR_some (mle.trans ht1 ht2)))
set_option maxHeartbeats 4000000 in
set_option maxRecDepth 100000 in
theorem c_x6_shrinkTo (l : Launch) {D : va_G} {cI cJ cZ cR : ClassId} {am gm : Nat → Nat} {st : Nat} (sz : Nat) (t : St) (a1 : Int32) (a2 : Int32) {t' : St} (ho : x6_shrinkTo t a1 a2 = some t') : Met l yX6_shrinkTo (.code yX6_shrinkTo cX6_shrinkTo 3 none :: wsAll) (rmN 0 0) (va_Pc [.ref (am 2006), .int a1, .int a2] (prX D (tyX cI cJ cZ cR) (wX cI cJ cZ cR am gm t) sz st)) (qV D (tyX cI cJ cZ cR) (wX cI cJ cZ cR am gm t') (va_A (wX cI cJ cZ cR am gm t) sz)) 0 0 (va_A (wX cI cJ cZ cR am gm t) sz) := by
  refine Met.ofW (cc := cX6_shrinkTo) (maxL := 3) (ret := none) (by decide) rfl ?_
  intro p e s m args below meth c s₁ B hml hv
  obtain ⟨rfl, ⟨hsz, hP, hK, hD0⟩, hsx⟩ := hv
  have hx := B.exec
  have hb := B.bytes
  have hts := atoms_spec (ws := (.code yX6_shrinkTo cX6_shrinkTo 3 none :: wsAll)) B.pre
  have hta := fun w h => hts w (List.mem_cons_of_mem _ h)
  have hown : s.vm.findClass RX6 = some m.cls := findClass_of_methodNamed B.named
  have hlocks := B.notSynchronized
  subst hsz
  have hD := hD0.self (sz := s.heap.size)
  generalize hAe : va_A (wX cI cJ cZ cR am gm t) s.heap.size = A at hD ⊢
  have hA : ∀ q : Nat, s.heap.size ≤ q → A q := fun q h => by rw [← hAe]; exact Or.inr h
  have C0 : cxX p s m ([.ref (am 2006), .int a1, .int a2].toArray) meth c cX6_shrinkTo RX6 3 none D (tyX cI cJ cZ cR) st A := ⟨⟨hx, hb, B.returns, hml, hown, hta, hlocks, hK, hA⟩, by rw [← hAe]; exact hsx⟩
  have hW : wl D A s (wX cI cJ cZ cR am gm t) s.heap [] := ⟨hP, hD, va_S.rf⟩
  have hl := lv_entry [.ref (am 2006), .int a1, .int a2] (n := 3) (Nat.le_of_ble_eq_true rfl)
  rw [lg_entry_eq]
  generalize (lg_sl [.ref (am 2006), .int a1, .int a2] ++ List.replicate (3 - (lg_sl [.ref (am 2006), .int a1, .int a2]).length) Slot.unset).toArray = ls at hl ⊢
  have hl : lv_has ls 3 [(0, .ref (am 2006)), (1, .int a1), (2, .int a2)] := hl
  unfold x6_shrinkTo at ho
  refine lv_aload_n hx hb dX6_shrinkTo_0 rfl (lv_at hl 0 rfl) ?_
  refine lv_iload_n hx hb dX6_shrinkTo_1 rfl (lv_at hl 1 rfl) ?_
  refine xPUT_609 C0 kw_203 hW dX6_shrinkTo_2 (fun H locs hW => ?_)
  obtain ⟨t1, ho, hW⟩ := nm_w (P := fun t => wl D A s (wX cI cJ cZ cR am gm t) H locs) ho hW
  refine lv_aload_n hx hb dX6_shrinkTo_5 rfl (lv_at hl 0 rfl) ?_
  refine lv_iload_n hx hb dX6_shrinkTo_6 rfl (lv_at hl 2 rfl) ?_
  refine xPUT_610 C0 kw_206 hW dX6_shrinkTo_7 (fun H locs hW => ?_)
  obtain ⟨t2, ho, hW⟩ := nm_w (P := fun t => wl D A s (wX cI cJ cZ cR am gm t) H locs) ho hW
  cases ho
  exact rtV C0.1 hW dX6_shrinkTo_10
noncomputable def x7_readText_J96 (t : St) (v1 : Int32) (v2 : Int32) (v3 : Int32) : Option (Int32 × St) :=
  if (gI t 704) = 0 then (some (v3, t)) else ((x6_shrinkTo t v1 v2).bind (fun q2 => some (v3, q2)))
theorem mm_x7_readText_J96 (t : St) (v1 : Int32) (v2 : Int32) (v3 : Int32) : MR (x7_readText_J96 t v1 v2 v3) t (fun (a : Int32 × St) => a.2) := by
  unfold x7_readText_J96
  exact MR_ite (MR_some mle.rfl) (MR_bind (mm_x6_shrinkTo t v1 v2) (fun q2 hq2 => MR_some hq2))
noncomputable def x7_readText_J62 (t : St) (v1 : Int32) (v2 : Int32) (v3 : Int32) : Option (Int32 × St) :=
  if (gI t 704) = 0 then (if (gI t 609) ≤ (250 : Int32) then (x7_readText_J96 t v1 v2 v3) else ((x7_refuse t (gI t 601) (6 : Int32)).bind (fun q6 => x7_readText_J96 q6.2 v1 v2 v3))) else (x7_readText_J96 t v1 v2 v3)
theorem mm_x7_readText_J62 (t : St) (v1 : Int32) (v2 : Int32) (v3 : Int32) : MR (x7_readText_J62 t v1 v2 v3) t (fun (a : Int32 × St) => a.2) := by
  unfold x7_readText_J62
  exact MR_ite (MR_ite (MR_wk mle.rfl (mm_x7_readText_J96 t v1 v2 v3)) (MR_bind (mm_x7_refuse t (gI t 601) (6 : Int32)) (fun q6 hq6 => MR_wk hq6 (mm_x7_readText_J96 q6.2 v1 v2 v3)))) (MR_wk mle.rfl (mm_x7_readText_J96 t v1 v2 v3))
noncomputable def x7_readText_J37 (t : St) (v1 : Int32) (v2 : Int32) (w0 : Int32) : Option (Int32 × St) :=
  if (gI t 704) = 0 then ((x7_next t).bind (fun q9 => if q9.1 < 0 then (x7_readText_J62 q9.2 v1 v2 w0) else ((x7_refuse q9.2 (gI q9.2 703) (1 : Int32)).bind (fun q12 => x7_readText_J62 q12.2 v1 v2 w0)))) else (x7_readText_J62 t v1 v2 w0)
theorem mm_x7_readText_J37 (t : St) (v1 : Int32) (v2 : Int32) (w0 : Int32) : MR (x7_readText_J37 t v1 v2 w0) t (fun (a : Int32 × St) => a.2) := by
  unfold x7_readText_J37
  exact MR_ite (MR_bind (mm_x7_next t) (fun q9 hq9 => MR_ite (MR_wk hq9 (mm_x7_readText_J62 q9.2 v1 v2 w0)) (MR_bind (mm_x7_refuse q9.2 (gI q9.2 703) (1 : Int32)) (fun q12 hq12 => MR_wk (mle.trans hq9 hq12) (mm_x7_readText_J62 q12.2 v1 v2 w0))))) (MR_wk mle.rfl (mm_x7_readText_J62 t v1 v2 w0))
noncomputable def x7_readText (t0 : St) : Option (Int32 × St) :=
  nm (gI t0 609) (fun x14 : Int32 => nm (gI t0 610) (fun x15 : Int32 => nm (sI t0 702 (0 : Int32)) (fun t16 : St => nm (sI t16 703 (0 : Int32)) (fun t17 : St => nm (sI t17 704 (0 : Int32)) (fun t18 : St => (x7_readRow30 t18 (1 : Int32) (0 : Int32)).bind (fun q19 => x7_readText_J37 q19.2 x14 x15 q19.1))))))
theorem mm_x7_readText (t0 : St) : MR (x7_readText t0) t0 (fun (a : Int32 × St) => a.2) := by
  unfold x7_readText
  exact MR_nm (fun x14 _ => MR_nm (fun x15 _ => MR_nmS mle_sI (fun t16 ht16 => MR_nmS mle_sI (fun t17 ht17 => MR_nmS mle_sI (fun t18 ht18 => MR_bind (mm_x7_readRow30 t18 (1 : Int32) (0 : Int32)) (fun q19 hq19 => MR_wk (mle.trans (mle.trans (mle.trans ht16 ht17) ht18) hq19) (mm_x7_readText_J37 q19.2 x14 x15 q19.1)))))))
set_option maxHeartbeats 4000000 in
set_option maxRecDepth 100000 in
theorem c_x7_readText (l : Launch) {D : va_G} {cI cJ cZ cR : ClassId} {am gm : Nat → Nat} {st : Nat} (sz : Nat) (t0 : St) {r : Int32} {t' : St} (ho : x7_readText t0 = some (r, t')) : Met l yX7_readText (.code yX7_readText cX7_readText 4 (some .int) :: wsAll) (rmA 181 5424 t0 t') (va_Pc [.ref (am 2007)] (prX D (tyX cI cJ cZ cR) (wX cI cJ cZ cR am gm t0) sz st)) (qIa r D (tyX cI cJ cZ cR) (fun gm => wX cI cJ cZ cR am gm t') (va_A (wX cI cJ cZ cR am gm t0) sz)) (mC t0 t') (mS t0 t') (va_A (wX cI cJ cZ cR am gm t0) sz) := by
  refine Met.ofW (cc := cX7_readText) (maxL := 4) (ret := (some .int)) (by decide) rfl ?_
  intro p e s m args below meth c s₁ B hml hv
  obtain ⟨rfl, ⟨hsz, hP, hK, hD0⟩, hsx⟩ := hv
  have hx := B.exec
  have hb := B.bytes
  have hts := atoms_spec (ws := (.code yX7_readText cX7_readText 4 (some .int) :: wsAll)) B.pre
  have hta := fun w h => hts w (List.mem_cons_of_mem _ h)
  have hown : s.vm.findClass RX7 = some m.cls := findClass_of_methodNamed B.named
  have hlocks := B.notSynchronized
  subst hsz
  have hD := hD0.self (sz := s.heap.size)
  generalize hAe : va_A (wX cI cJ cZ cR am gm t0) s.heap.size = A at hD ⊢
  have hA : ∀ q : Nat, s.heap.size ≤ q → A q := fun q h => by rw [← hAe]; exact Or.inr h
  have C0 : cxX p s m ([.ref (am 2007)].toArray) meth c cX7_readText RX7 4 (some .int) D (tyX cI cJ cZ cR) st A := ⟨⟨hx, hb, B.returns, hml, hown, hta, hlocks, hK, hA⟩, by rw [← hAe]; exact hsx⟩
  have hW : wl D A s (wX cI cJ cZ cR am gm t0) s.heap [] := ⟨hP, hD, va_S.rf⟩
  have hl := lv_entry [.ref (am 2007)] (n := 4) (Nat.le_of_ble_eq_true rfl)
  rw [lg_entry_eq]
  generalize (lg_sl [.ref (am 2007)] ++ List.replicate (4 - (lg_sl [.ref (am 2007)]).length) Slot.unset).toArray = ls at hl ⊢
  have hl : lv_has ls 4 [(0, .ref (am 2007))] := hl
  clear hAe hD hP hD0 hts
  have J96 : ∀ (gm : Nat → Nat) (t : St) (v1 : Int32) (v2 : Int32) (v3 : Int32) (_ : x7_readText_J96 t v1 v2 v3 = some (r, t')) (_ : mle t0 t) (H : Heap) (locs : List Loc) (ls : Array Slot), wl D A s (wX cI cJ cZ cR am gm t) H locs → lv_has ls 4 [(0, .ref (am 2007)), (1, .int v1), (2, .int v2), (3, .int v3)] → W p l e (rmA 181 5424 t0 t') s m ([.ref (am 2007)].toArray) below meth c H locs (mC t0 t) (mS t0 t) (MQ below (qIa r D (tyX cI cJ cZ cR) (fun gm => wX cI cJ cZ cR am gm t') A) ([.ref (am 2007)].toArray) s (mC t0 t') (mS t0 t') A) (F0 m 96 ls []) := by
    intro gm t v1 v2 v3 ho h0 H locs ls hW hl
    have hE : mle t t' := (mm_x7_readText_J96 _ _ _ _ _ ho)
    have hR := hR_of (t0 := t0) hE
    unfold x7_readText_J96 at ho
    refine lv_aload_n hx hb dX7_readText_96 rfl (lv_at hl 0 rfl) ?_
    refine xGET_704 C0 kw_250 hW dX7_readText_97 ?_
    refine lv_if_eq (tgt := 112) hx hb dX7_readText_100 (by decide) (fun c1 => ?_) (fun c1 => ?_)
    · replace ho := ite_t c1 ho
      refine lv_iload_n hx hb dX7_readText_112 rfl (lv_at hl 3 rfl) ?_
      cases ho
      exact rtIa gm C0.1 hW dX7_readText_113
    · replace ho := ite_f c1 ho
      refine lv_aload_n hx hb dX7_readText_103 rfl (lv_at hl 0 rfl) ?_
      refine xGET_700 C0 kw_246 hW dX7_readText_104 ?_
      refine lv_iload_n hx hb dX7_readText_107 rfl (lv_at hl 1 rfl) ?_
      refine lv_iload_n hx hb dX7_readText_108 rfl (lv_at hl 2 rfl) ?_
      obtain ⟨q2, hc3, ho⟩ := bd_some ho
      have hq2 := mm_x6_shrinkTo t v1 v2 _ hc3
      refine bkV C0.1 hW (runVX (As := [.int v1, .int v2]) (rest := []) C0 hW (c_x6_shrinkTo l _ t v1 v2 (t' := q2) hc3) cb_X7_X6_shrinkTo_49 6 6 rfl rfl rfl rfl rfl ⟨rfl, rfl⟩ ⟨Nat.le_of_ble_eq_true rfl, Nat.le_of_ble_eq_true rfl⟩ (Nat.le_of_ble_eq_true rfl) hl.1 dX7_readText_109 ⟨hR.1, hR.2⟩) (fun H locs hW => ?_)
      refine lv_iload_n hx hb dX7_readText_112 rfl (lv_at hl 3 rfl) ?_
      refine W_up h0 hq2 ?_
      cases ho
      exact rtIa gm C0.1 hW dX7_readText_113
  have J62 : ∀ (gm : Nat → Nat) (t : St) (v1 : Int32) (v2 : Int32) (v3 : Int32) (_ : x7_readText_J62 t v1 v2 v3 = some (r, t')) (_ : mle t0 t) (H : Heap) (locs : List Loc) (ls : Array Slot), wl D A s (wX cI cJ cZ cR am gm t) H locs → lv_has ls 4 [(0, .ref (am 2007)), (1, .int v1), (2, .int v2), (3, .int v3)] → W p l e (rmA 181 5424 t0 t') s m ([.ref (am 2007)].toArray) below meth c H locs (mC t0 t) (mS t0 t) (MQ below (qIa r D (tyX cI cJ cZ cR) (fun gm => wX cI cJ cZ cR am gm t') A) ([.ref (am 2007)].toArray) s (mC t0 t') (mS t0 t') A) (F0 m 62 ls []) := by
    intro gm t v1 v2 v3 ho h0 H locs ls hW hl
    have hE : mle t t' := (mm_x7_readText_J62 _ _ _ _ _ ho)
    have hR := hR_of (t0 := t0) hE
    unfold x7_readText_J62 at ho
    refine lv_aload_n hx hb dX7_readText_62 rfl (lv_at hl 0 rfl) ?_
    refine xGET_704 C0 kw_250 hW dX7_readText_63 ?_
    refine lv_if_ne (tgt := 96) hx hb dX7_readText_66 (by decide) (fun c4 => ?_) (fun c4 => ?_)
    · replace ho := ite_f c4 ho
      exact J96 gm _ _ _ _ ho h0 _ _ _ hW (lv_sub hl [0, 1, 2, 3] rfl)
    · replace ho := ite_t c4 ho
      refine lv_aload_n hx hb dX7_readText_69 rfl (lv_at hl 0 rfl) ?_
      refine xGET_700 C0 kw_246 hW dX7_readText_70 ?_
      refine xGET_609 C0 kw_204 hW dX7_readText_73 ?_
      refine lv_sipush (v := (250 : Int32)) hx hb dX7_readText_76 (by decide) ?_
      refine lv_icmp_le (tgt := 96) hx hb dX7_readText_79 (by decide) (fun c5 => ?_) (fun c5 => ?_)
      · replace ho := ite_t c5 ho
        exact J96 gm _ _ _ _ ho h0 _ _ _ hW (lv_sub hl [0, 1, 2, 3] rfl)
      · replace ho := ite_f c5 ho
        refine lv_aload_n hx hb dX7_readText_82 rfl (lv_at hl 0 rfl) ?_
        refine lv_aload_n hx hb dX7_readText_83 rfl (lv_at hl 0 rfl) ?_
        refine xGET_700 C0 kw_246 hW dX7_readText_84 ?_
        refine xGET_601 C0 kw_181 hW dX7_readText_87 ?_
        refine lv_bipush (v := (6 : Int32)) hx hb dX7_readText_90 (by decide) ?_
        obtain ⟨q6, hc7, ho⟩ := bd_some ho
        have hq6 := mm_x7_refuse t (gI t 601) (6 : Int32) _ hc7
        refine bkI C0.1 hW (runVX (As := [.int (gI t 601), .int (6 : Int32)]) (rest := []) C0 hW (c_x7_refuse l _ t (gI t 601) (6 : Int32) (r := q6.1) (t' := q6.2) hc7) cb_X7_X7_refuse_43 7 7 rfl rfl rfl rfl rfl ⟨rfl, rfl⟩ ⟨Nat.le_of_ble_eq_true rfl, Nat.le_of_ble_eq_true rfl⟩ (Nat.le_of_ble_eq_true rfl) hl.1 dX7_readText_92 ⟨hR.1, hR.2⟩) (fun H locs hW => ?_)
        refine lv_pop hx hb dX7_readText_95 rfl ?_
        refine W_up h0 hq6 ?_
        exact J96 gm _ _ _ _ ho (mle.trans h0 hq6) _ _ _ hW (lv_sub hl [0, 1, 2, 3] rfl)
  have J37 : ∀ (gm : Nat → Nat) (t : St) (v1 : Int32) (v2 : Int32) (w0 : Int32) (_ : x7_readText_J37 t v1 v2 w0 = some (r, t')) (_ : mle t0 t) (H : Heap) (locs : List Loc) (ls : Array Slot), wl D A s (wX cI cJ cZ cR am gm t) H locs → lv_has ls 4 [(0, .ref (am 2007)), (1, .int v1), (2, .int v2)] → W p l e (rmA 181 5424 t0 t') s m ([.ref (am 2007)].toArray) below meth c H locs (mC t0 t) (mS t0 t) (MQ below (qIa r D (tyX cI cJ cZ cR) (fun gm => wX cI cJ cZ cR am gm t') A) ([.ref (am 2007)].toArray) s (mC t0 t') (mS t0 t') A) (F0 m 37 ls [.int w0]) := by
    intro gm t v1 v2 w0 ho h0 H locs ls hW hl
    have hE : mle t t' := (mm_x7_readText_J37 _ _ _ _ _ ho)
    have hR := hR_of (t0 := t0) hE
    unfold x7_readText_J37 at ho
    refine lv_istore_n (lv' := [(3, .int w0), (0, .ref (am 2007)), (1, .int v1), (2, .int v2)]) hx hb dX7_readText_37 rfl hl (by decide) rfl (fun ls hl => ?_)
    refine lv_aload_n hx hb dX7_readText_38 rfl (lv_at hl 1 rfl) ?_
    refine xGET_704 C0 kw_250 hW dX7_readText_39 ?_
    refine lv_if_ne (tgt := 62) hx hb dX7_readText_42 (by decide) (fun c8 => ?_) (fun c8 => ?_)
    · replace ho := ite_f c8 ho
      exact J62 gm _ _ _ _ ho h0 _ _ _ hW (lv_sub hl [1, 2, 3, 0] rfl)
    · replace ho := ite_t c8 ho
      refine lv_aload_n hx hb dX7_readText_45 rfl (lv_at hl 1 rfl) ?_
      obtain ⟨q9, hc10, ho⟩ := bd_some ho
      have hq9 := mm_x7_next t _ hc10
      refine bkI C0.1 hW (runVX (As := []) (rest := []) C0 hW (c_x7_next l _ t (r := q9.1) (t' := q9.2) hc10) cb_X7_X7_next_39 7 7 rfl rfl rfl rfl rfl ⟨rfl, rfl⟩ ⟨Nat.le_of_ble_eq_true rfl, Nat.le_of_ble_eq_true rfl⟩ (Nat.le_of_ble_eq_true rfl) hl.1 dX7_readText_46 ⟨hR.1, hR.2⟩) (fun H locs hW => ?_)
      refine lv_if_lt (tgt := 62) hx hb dX7_readText_49 (by decide) (fun c11 => ?_) (fun c11 => ?_)
      · replace ho := ite_t c11 ho
        refine W_up h0 hq9 ?_
        exact J62 gm _ _ _ _ ho (mle.trans h0 hq9) _ _ _ hW (lv_sub hl [1, 2, 3, 0] rfl)
      · replace ho := ite_f c11 ho
        refine lv_aload_n hx hb dX7_readText_52 rfl (lv_at hl 1 rfl) ?_
        refine lv_aload_n hx hb dX7_readText_53 rfl (lv_at hl 1 rfl) ?_
        refine xGET_703 C0 kw_249 hW dX7_readText_54 ?_
        refine lv_iconst (v := (1 : Int32)) hx hb dX7_readText_57 (by decide) ?_
        obtain ⟨q12, hc13, ho⟩ := bd_some ho
        have hq12 := mm_x7_refuse q9.2 (gI q9.2 703) (1 : Int32) _ hc13
        refine bkI C0.1 hW (runVX (As := [.int (gI q9.2 703), .int (1 : Int32)]) (rest := []) C0 hW (c_x7_refuse l _ q9.2 (gI q9.2 703) (1 : Int32) (r := q12.1) (t' := q12.2) hc13) cb_X7_X7_refuse_43 7 7 rfl rfl rfl rfl rfl ⟨rfl, rfl⟩ ⟨Nat.le_of_ble_eq_true rfl, Nat.le_of_ble_eq_true rfl⟩ (Nat.le_of_ble_eq_true rfl) hl.1 dX7_readText_58 ⟨hR.1, hR.2⟩) (fun H locs hW => ?_)
        refine lv_pop hx hb dX7_readText_61 rfl ?_
        refine W_up h0 (mle.trans hq9 hq12) ?_
        exact J62 gm _ _ _ _ ho (mle.trans h0 (mle.trans hq9 hq12)) _ _ _ hW (lv_sub hl [1, 2, 3, 0] rfl)
  have hE : mle t0 t' := mm_x7_readText _ _ ho
  have hR := hR_of (t0 := t0) hE
  have h0 : mle t0 t0 := mle.rfl
  refine W_0 (t0 := t0) ?_
  unfold x7_readText at ho
  refine lv_aload_n hx hb dX7_readText_0 rfl (lv_at hl 0 rfl) ?_
  refine xGET_700 C0 kw_246 hW dX7_readText_1 ?_
  refine xGET_609 C0 kw_204 hW dX7_readText_4 ?_
  refine lv_nmi ho (fun x14 ho => ?_)
  refine lv_istore_n (lv' := [(1, .int x14), (0, .ref (am 2007))]) hx hb dX7_readText_7 rfl hl (by decide) rfl (fun ls hl => ?_)
  refine lv_aload_n hx hb dX7_readText_8 rfl (lv_at hl 1 rfl) ?_
  refine xGET_700 C0 kw_246 hW dX7_readText_9 ?_
  refine xGET_610 C0 kw_207 hW dX7_readText_12 ?_
  refine lv_nmi ho (fun x15 ho => ?_)
  refine lv_istore_n (lv' := [(2, .int x15), (1, .int x14), (0, .ref (am 2007))]) hx hb dX7_readText_15 rfl hl (by decide) rfl (fun ls hl => ?_)
  refine lv_aload_n hx hb dX7_readText_16 rfl (lv_at hl 2 rfl) ?_
  refine lv_iconst (v := (0 : Int32)) hx hb dX7_readText_17 (by decide) ?_
  refine xPUT_702 C0 kw_248 hW dX7_readText_18 (fun H locs hW => ?_)
  obtain ⟨t16, ht16, ho, hW⟩ := nm_wm (P := fun t => wl D A s (wX cI cJ cZ cR am gm t) H locs) mle_sI ho hW
  refine lv_aload_n hx hb dX7_readText_21 rfl (lv_at hl 2 rfl) ?_
  refine lv_iconst (v := (0 : Int32)) hx hb dX7_readText_22 (by decide) ?_
  refine xPUT_703 C0 kw_249 hW dX7_readText_23 (fun H locs hW => ?_)
  obtain ⟨t17, ht17, ho, hW⟩ := nm_wm (P := fun t => wl D A s (wX cI cJ cZ cR am gm t) H locs) mle_sI ho hW
  refine lv_aload_n hx hb dX7_readText_26 rfl (lv_at hl 2 rfl) ?_
  refine lv_iconst (v := (0 : Int32)) hx hb dX7_readText_27 (by decide) ?_
  refine xPUT_704 C0 kw_250 hW dX7_readText_28 (fun H locs hW => ?_)
  obtain ⟨t18, ht18, ho, hW⟩ := nm_wm (P := fun t => wl D A s (wX cI cJ cZ cR am gm t) H locs) mle_sI ho hW
  refine lv_aload_n hx hb dX7_readText_31 rfl (lv_at hl 2 rfl) ?_
  refine lv_iconst (v := (1 : Int32)) hx hb dX7_readText_32 (by decide) ?_
  refine lv_iconst (v := (0 : Int32)) hx hb dX7_readText_33 (by decide) ?_
  obtain ⟨q19, hc20, ho⟩ := bd_some ho
  have hq19 := mm_x7_readRow30 t18 (1 : Int32) (0 : Int32) _ hc20
  have hEq19 := (mm_x7_readText_J37 _ _ _ _ _ ho)
  refine W_up h0 (mle.trans (mle.trans ht16 ht17) ht18) ?_
  have h0 := (mle.trans h0 (mle.trans (mle.trans ht16 ht17) ht18))
  refine bkIa C0.1 hW h0 hq19 (runVX (As := [.int (1 : Int32), .int (0 : Int32)]) (rest := []) C0 hW (c_x7_readRow30 l _ t18 (1 : Int32) (0 : Int32) (r := q19.1) (t' := q19.2) hc20) cb_X7_X7_readRow_35 7 7 rfl rfl rfl rfl rfl ⟨rfl, rfl⟩ ⟨Nat.le_of_ble_eq_true rfl, Nat.le_of_ble_eq_true rfl⟩ (Nat.le_of_ble_eq_true rfl) hl.1 dX7_readText_34 (hf_of h0 hq19 hEq19)) (fun gm H locs hW => ?_)
  have h0 := mle.trans h0 hq19
  exact J37 gm _ _ _ _ ho h0 _ _ _ hW (lv_sub hl [2, 1, 0] rfl)
noncomputable def x11_make_J17 (t : St) (v1 : Int32) (w0 : Int32) : Option (Int32 × St) :=
  if (gI t 704) = 0 then (gd v1 (gN t 602) (nm (sA t 602 v1 w0) (fun t3 : St => some ((0 : Int32), t3)))) else (some ((gI t 704), t))
theorem mm_x11_make_J17 (t : St) (v1 : Int32) (w0 : Int32) : MR (x11_make_J17 t v1 w0) t (fun (a : Int32 × St) => a.2) := by
  unfold x11_make_J17
  exact MR_ite (MR_gd (MR_nmS mle_sA (fun t3 ht3 => MR_some ht3))) (MR_some mle.rfl)
noncomputable def x11_make (t0 : St) (a1 : Int32) : Option (Int32 × St) :=
  (x11_noNet t0 a1).bind (fun q4 => if q4 = 0 then ((x7_readText t0).bind (fun q8 => x11_make_J17 q8.2 a1 q8.1)) else (some ((-2 : Int32), t0)))
theorem mm_x11_make (t0 : St) (a1 : Int32) : MR (x11_make t0 a1) t0 (fun (a : Int32 × St) => a.2) := by
  unfold x11_make
  exact MR_bindn (fun q4 => MR_ite (MR_bind (mm_x7_readText t0) (fun q8 hq8 => MR_wk hq8 (mm_x11_make_J17 q8.2 a1 q8.1))) (MR_some mle.rfl))
set_option maxHeartbeats 4000000 in
set_option maxRecDepth 100000 in
theorem c_x11_make (l : Launch) {D : va_G} {cI cJ cZ cR : ClassId} {am gm : Nat → Nat} {st : Nat} (sz : Nat) (t0 : St) (a1 : Int32) {r : Int32} {t' : St} (ho : x11_make t0 a1 = some (r, t')) : Met l yX11_make (.code yX11_make cX11_make 3 (some .int) :: wsAll) (rmA 182 5447 t0 t') (va_Pc [.ref (am 2011), .int a1] (prX D (tyX cI cJ cZ cR) (wX cI cJ cZ cR am gm t0) sz st)) (qIa r D (tyX cI cJ cZ cR) (fun gm => wX cI cJ cZ cR am gm t') (va_A (wX cI cJ cZ cR am gm t0) sz)) (mC t0 t') (mS t0 t') (va_A (wX cI cJ cZ cR am gm t0) sz) := by
  refine Met.ofW (cc := cX11_make) (maxL := 3) (ret := (some .int)) (by decide) rfl ?_
  intro p e s m args below meth c s₁ B hml hv
  obtain ⟨rfl, ⟨hsz, hP, hK, hD0⟩, hsx⟩ := hv
  have hx := B.exec
  have hb := B.bytes
  have hts := atoms_spec (ws := (.code yX11_make cX11_make 3 (some .int) :: wsAll)) B.pre
  have hta := fun w h => hts w (List.mem_cons_of_mem _ h)
  have hown : s.vm.findClass RX11 = some m.cls := findClass_of_methodNamed B.named
  have hlocks := B.notSynchronized
  subst hsz
  have hD := hD0.self (sz := s.heap.size)
  generalize hAe : va_A (wX cI cJ cZ cR am gm t0) s.heap.size = A at hD ⊢
  have hA : ∀ q : Nat, s.heap.size ≤ q → A q := fun q h => by rw [← hAe]; exact Or.inr h
  have C0 : cxX p s m ([.ref (am 2011), .int a1].toArray) meth c cX11_make RX11 3 (some .int) D (tyX cI cJ cZ cR) st A := ⟨⟨hx, hb, B.returns, hml, hown, hta, hlocks, hK, hA⟩, by rw [← hAe]; exact hsx⟩
  have hW : wl D A s (wX cI cJ cZ cR am gm t0) s.heap [] := ⟨hP, hD, va_S.rf⟩
  have hl := lv_entry [.ref (am 2011), .int a1] (n := 3) (Nat.le_of_ble_eq_true rfl)
  rw [lg_entry_eq]
  generalize (lg_sl [.ref (am 2011), .int a1] ++ List.replicate (3 - (lg_sl [.ref (am 2011), .int a1]).length) Slot.unset).toArray = ls at hl ⊢
  have hl : lv_has ls 3 [(0, .ref (am 2011)), (1, .int a1)] := hl
  clear hAe hD hP hD0 hts
  have J17 : ∀ (gm : Nat → Nat) (t : St) (v1 : Int32) (w0 : Int32) (_ : x11_make_J17 t v1 w0 = some (r, t')) (_ : mle t0 t) (H : Heap) (locs : List Loc) (ls : Array Slot), wl D A s (wX cI cJ cZ cR am gm t) H locs → lv_has ls 3 [(0, .ref (am 2011)), (1, .int v1)] → W p l e (rmA 182 5447 t0 t') s m ([.ref (am 2011), .int a1].toArray) below meth c H locs (mC t0 t) (mS t0 t) (MQ below (qIa r D (tyX cI cJ cZ cR) (fun gm => wX cI cJ cZ cR am gm t') A) ([.ref (am 2011), .int a1].toArray) s (mC t0 t') (mS t0 t') A) (F0 m 17 ls [.int w0]) := by
    intro gm t v1 w0 ho h0 H locs ls hW hl
    have hE : mle t t' := (mm_x11_make_J17 _ _ _ _ ho)
    have hR := hR_of (t0 := t0) hE
    unfold x11_make_J17 at ho
    refine lv_istore_n (lv' := [(2, .int w0), (0, .ref (am 2011)), (1, .int v1)]) hx hb dX11_make_17 rfl hl (by decide) rfl (fun ls hl => ?_)
    refine lv_aload_n hx hb dX11_make_18 rfl (lv_at hl 1 rfl) ?_
    refine xGET_1102 C0 kw_593 hW dX11_make_19 ?_
    refine xGET_704 C0 kw_251 hW dX11_make_22 ?_
    refine lv_if_eq (tgt := 36) hx hb dX11_make_25 (by decide) (fun c1 => ?_) (fun c1 => ?_)
    · replace ho := ite_t c1 ho
      refine lv_aload_n hx hb dX11_make_36 rfl (lv_at hl 1 rfl) ?_
      refine xGET_1101 C0 kw_592 hW dX11_make_37 ?_
      refine xGET_602 C0 kw_184 hW dX11_make_40 ?_
      refine lv_iload_n hx hb dX11_make_43 rfl (lv_at hl 2 rfl) ?_
      refine lv_iload_n hx hb dX11_make_44 rfl (lv_at hl 0 rfl) ?_
      obtain ⟨g2, ho⟩ := gd_some ho
      refine xST_602 C0 hW g2 dX11_make_45 (fun H locs hW => ?_)
      obtain ⟨t3, ht3, ho, hW⟩ := nm_wm (P := fun t => wl D A s (wX cI cJ cZ cR am gm t) H locs) mle_sA ho hW
      refine lv_iconst (v := (0 : Int32)) hx hb dX11_make_46 (by decide) ?_
      refine W_up h0 ht3 ?_
      cases ho
      exact rtIa gm C0.1 hW dX11_make_47
    · replace ho := ite_f c1 ho
      refine lv_aload_n hx hb dX11_make_28 rfl (lv_at hl 1 rfl) ?_
      refine xGET_1102 C0 kw_593 hW dX11_make_29 ?_
      refine xGET_704 C0 kw_251 hW dX11_make_32 ?_
      cases ho
      exact rtIa gm C0.1 hW dX11_make_35
  have hE : mle t0 t' := mm_x11_make _ _ _ ho
  have hR := hR_of (t0 := t0) hE
  have h0 : mle t0 t0 := mle.rfl
  refine W_0 (t0 := t0) ?_
  unfold x11_make at ho
  refine lv_iload_n hx hb dX11_make_0 rfl (lv_at hl 1 rfl) ?_
  obtain ⟨q4, hc5, ho⟩ := bd_some ho
  refine bkZ C0.1 hW (runSX (As := [.int a1]) (rest := []) C0 hW (c_x11_noNet l _ t0 a1 (r := q4) hc5) cb_X11_X11_noNet_124 rfl rfl ⟨rfl, rfl⟩ ⟨Nat.le_of_ble_eq_true rfl, Nat.le_of_ble_eq_true rfl⟩ (Nat.le_of_ble_eq_true rfl) hl.1 dX11_make_1 ⟨hR.1, hR.2⟩) (fun z6 H locs hW => ?_)
  refine lv_if_eq (tgt := 10) hx hb dX11_make_4 (by decide) (fun c7 => ?_) (fun c7 => ?_)
  · replace ho := ite_t c7 ho
    refine lv_aload_n hx hb dX11_make_10 rfl (lv_at hl 0 rfl) ?_
    refine xGET_1102 C0 kw_593 hW dX11_make_11 ?_
    obtain ⟨q8, hc9, ho⟩ := bd_some ho
    have hq8 := mm_x7_readText t0 _ hc9
    have hEq8 := (mm_x11_make_J17 _ _ _ _ ho)
    refine bkIa C0.1 hW h0 hq8 (runVX (As := []) (rest := []) C0 hW (c_x7_readText l _ t0 (r := q8.1) (t' := q8.2) hc9) cb_X11_X7_readText_127 7 7 rfl rfl rfl rfl rfl ⟨rfl, rfl⟩ ⟨Nat.le_of_ble_eq_true rfl, Nat.le_of_ble_eq_true rfl⟩ (Nat.le_of_ble_eq_true rfl) hl.1 dX11_make_14 (hf_of h0 hq8 hEq8)) (fun gm H locs hW => ?_)
    have h0 := mle.trans h0 hq8
    exact J17 gm _ _ _ ho h0 _ _ _ hW (lv_sub hl [0, 1] rfl)
  · replace ho := ite_f c7 ho
    refine lv_bipush (v := (-2 : Int32)) hx hb dX11_make_7 (by decide) ?_
    cases ho
    exact rtIa gm C0.1 hW dX11_make_9
noncomputable def j7_fill_53178_602_B5 (v1 : Int32) (v3 : Int32) (v2 : Int32) (t : St) : Option ((Int32 × St) ⊕ (St)) :=
  if v3 ≤ v2 then (some (.inr t)) else (gd v2 (gN t 602) (nm (sA t 602 v2 v1) (fun t3 : St => nm (v2 + (1 : Int32)) (fun x4 : Int32 => some (.inl (x4, t3))))))
theorem mm_j7_fill_53178_602_B5 (v1 : Int32) (v3 : Int32) (v2 : Int32) (t : St) : MR (j7_fill_53178_602_B5 v1 v3 v2 t) t (Sum.elim (fun (x : Int32 × St) => x.2) (fun (y : St) => y)) := by
  unfold j7_fill_53178_602_B5
  exact MR_ite (MR_some mle.rfl) (MR_gd (MR_nmS mle_sA (fun t3 ht3 => MR_nm (fun x4 _ => MR_some ht3))))
theorem mm_j7_fill_53178_602_L5 (v1 : Int32) (v3 : Int32) (v2 : Int32) (t : St) : MR (lp (fun x => j7_fill_53178_602_B5 v1 v3 x.1 x.2) (v2, t)) t (fun (y : St) => y) := MR_lp (p := (fun (x : Int32 × St) => x.2)) (q := (fun (y : St) => y)) (fun x => mm_j7_fill_53178_602_B5 v1 v3 x.1 x.2) (v2, t)
noncomputable def j7_fill_53178_602 (t : St) (a1 : Int32) : Option (St) :=
  nm (Int32.ofNat (gN t 602)) (fun x5 : Int32 => (lp (fun x => j7_fill_53178_602_B5 a1 x5 x.1 x.2) ((0 : Int32), t)).bind (fun y6 => some y6))
theorem mm_j7_fill_53178_602 (t : St) (a1 : Int32) : MR (j7_fill_53178_602 t a1) t (fun (a : St) => a) := by
  unfold j7_fill_53178_602
  exact MR_nm (fun x5 _ => MR_bind (mm_j7_fill_53178_602_L5 a1 x5 (0 : Int32) t) (fun y6 hm7 => MR_some hm7))
set_option maxHeartbeats 4000000 in
set_option maxRecDepth 100000 in
theorem j7_fill_53178_602_L5 {p : Program} {l : Launch} {e : Env} {s : State} {m : MethodId} {args : Array Value} {below : List Frame} {meth : Method} {c : Code} {Q : State → Prop} {D : va_G} {cI cJ cZ cR : ClassId} {am gm : Nat → Nat} {st : Nat} {A : Nat → Prop} (C0 : cxX p s m args meth c cJ7_fill_53178 RJ7 4 none D (tyX cI cJ cZ cR) st A) {v1 : Int32} {v3 : Int32} {y : St} (hK0 : ∀ (H : Heap) (locs : List Loc) (ls : Array Slot), wl D A s (wX cI cJ cZ cR am gm y) H locs → lv_has ls 4 [] → W p l e (rmN 0 0) s m args below meth c H locs 0 0 Q (F0 m 20 ls [])) :
    ∀ (n : Nat) (v2 : Int32) (t : St), lpn (fun x => j7_fill_53178_602_B5 v1 v3 x.1 x.2) n (v2, t) = some y → ∀ (H : Heap) (locs : List Loc) (ls : Array Slot), wl D A s (wX cI cJ cZ cR am gm t) H locs → lv_has ls 4 [(0, .ref (am 602)), (1, .int v1), (2, .int v2), (3, .int v3)] → W p l e (rmN 0 0) s m args below meth c H locs 0 0 Q (F0 m 5 ls []) := by
  have hx := C0.1.1
  have hb := C0.1.2.1
  have hta := C0.1.2.2.2.2.2.1
  have hown := C0.1.2.2.2.2.1
  intro n
  induction n with
  | zero => intro _ _ h; cases h
  | succ n ih =>
    intro v2 t hrun H locs ls hW hl
    obtain ⟨o, ho, hrun⟩ := bd_some hrun
    unfold j7_fill_53178_602_B5 at ho
    refine lv_iload_n hx hb dJ7_fill_53178_5 rfl (lv_at hl 2 rfl) ?_
    refine lv_iload_n hx hb dJ7_fill_53178_6 rfl (lv_at hl 3 rfl) ?_
    refine lv_icmp_ge (tgt := 20) hx hb dJ7_fill_53178_7 (by decide) (fun c1 => ?_) (fun c1 => ?_)
    · replace ho := ite_t c1 ho
      cases ho
      cases hrun
      exact hK0 _ _ _ hW (lv_sub hl [] rfl)
    · replace ho := ite_f c1 ho
      refine lv_aload_n hx hb dJ7_fill_53178_10 rfl (lv_at hl 0 rfl) ?_
      refine lv_iload_n hx hb dJ7_fill_53178_11 rfl (lv_at hl 2 rfl) ?_
      refine lv_iload_n hx hb dJ7_fill_53178_12 rfl (lv_at hl 1 rfl) ?_
      obtain ⟨g2, ho⟩ := gd_some ho
      refine xST_602 C0 hW g2 dJ7_fill_53178_13 (fun H locs hW => ?_)
      obtain ⟨t3, ho, hW⟩ := nm_w (P := fun t => wl D A s (wX cI cJ cZ cR am gm t) H locs) ho hW
      obtain ⟨x4, ex4, ho⟩ := nm_x ho
      refine lv_iinc (v := x4) (lv' := [(2, .int x4), (0, .ref (am 602)), (1, .int v1), (3, .int v3)]) hx hb dJ7_fill_53178_14 hl (k := 2) rfl (by rw [ex4]; rfl) (by decide) rfl (fun ls hl => ?_)
      clear ex4
      refine lv_goto (tgt := 5) hx hb dJ7_fill_53178_17 (by decide) ?_
      cases ho
      exact ih _ _ hrun _ _ _ hW (lv_sub hl [1, 2, 0, 3] rfl)
set_option maxHeartbeats 4000000 in
set_option maxRecDepth 100000 in
theorem c_j7_fill_53178_602 (l : Launch) {D : va_G} {cI cJ cZ cR : ClassId} {am gm : Nat → Nat} {st : Nat} (sz : Nat) (t : St) (a1 : Int32) {t' : St} (ho : j7_fill_53178_602 t a1 = some t') : Met l yJ7_fill_53178 (.code yJ7_fill_53178 cJ7_fill_53178 4 none :: wsAll) (rmN 0 0) (va_Pc [.ref (am 602), .int a1] (prX D (tyX cI cJ cZ cR) (wX cI cJ cZ cR am gm t) sz st)) (qV D (tyX cI cJ cZ cR) (wX cI cJ cZ cR am gm t') (va_A (wX cI cJ cZ cR am gm t) sz)) 0 0 (va_A (wX cI cJ cZ cR am gm t) sz) := by
  refine Met.ofW (cc := cJ7_fill_53178) (maxL := 4) (ret := none) (by decide) rfl ?_
  intro p e s m args below meth c s₁ B hml hv
  obtain ⟨rfl, ⟨hsz, hP, hK, hD0⟩, hsx⟩ := hv
  have hx := B.exec
  have hb := B.bytes
  have hts := atoms_spec (ws := (.code yJ7_fill_53178 cJ7_fill_53178 4 none :: wsAll)) B.pre
  have hta := fun w h => hts w (List.mem_cons_of_mem _ h)
  have hown : s.vm.findClass RJ7 = some m.cls := findClass_of_methodNamed B.named
  have hlocks := B.notSynchronized
  subst hsz
  have hD := hD0.self (sz := s.heap.size)
  generalize hAe : va_A (wX cI cJ cZ cR am gm t) s.heap.size = A at hD ⊢
  have hA : ∀ q : Nat, s.heap.size ≤ q → A q := fun q h => by rw [← hAe]; exact Or.inr h
  have C0 : cxX p s m ([.ref (am 602), .int a1].toArray) meth c cJ7_fill_53178 RJ7 4 none D (tyX cI cJ cZ cR) st A := ⟨⟨hx, hb, B.returns, hml, hown, hta, hlocks, hK, hA⟩, by rw [← hAe]; exact hsx⟩
  have hW : wl D A s (wX cI cJ cZ cR am gm t) s.heap [] := ⟨hP, hD, va_S.rf⟩
  have hl := lv_entry [.ref (am 602), .int a1] (n := 4) (Nat.le_of_ble_eq_true rfl)
  rw [lg_entry_eq]
  generalize (lg_sl [.ref (am 602), .int a1] ++ List.replicate (4 - (lg_sl [.ref (am 602), .int a1]).length) Slot.unset).toArray = ls at hl ⊢
  have hl : lv_has ls 4 [(0, .ref (am 602)), (1, .int a1)] := hl
  unfold j7_fill_53178_602 at ho
  refine lv_iconst (v := (0 : Int32)) hx hb dJ7_fill_53178_0 (by decide) ?_
  refine lv_istore_n (lv' := [(2, .int (0 : Int32)), (0, .ref (am 602)), (1, .int a1)]) hx hb dJ7_fill_53178_1 rfl hl (by decide) rfl (fun ls hl => ?_)
  refine lv_aload_n hx hb dJ7_fill_53178_2 rfl (lv_at hl 1 rfl) ?_
  refine xLEN_602 C0 hW dJ7_fill_53178_3 ?_
  refine lv_nmi ho (fun x5 ho => ?_)
  refine lv_istore_n (lv' := [(3, .int x5), (2, .int (0 : Int32)), (0, .ref (am 602)), (1, .int a1)]) hx hb dJ7_fill_53178_4 rfl hl (by decide) rfl (fun ls hl => ?_)
  obtain ⟨y6, hc8, ho⟩ := bd_some ho
  obtain ⟨ny6, hc8⟩ := lp_to hc8
  refine j7_fill_53178_602_L5 C0 ?_ ny6 _ _ hc8 _ _ _ hW (lv_sub hl [2, 3, 1, 0] rfl)
  intro H locs ls hW hl
  cases ho
  exact rtV C0.1 hW dJ7_fill_53178_20
noncomputable def x6_forget (t : St) : Option (St) :=
  (j7_fill_53178_602 t (-1 : Int32)).bind (fun q1 => (x6_shrinkTo q1 (0 : Int32) (0 : Int32)).bind (fun q3 => some q3))
theorem mm_x6_forget (t : St) : MR (x6_forget t) t (fun (a : St) => a) := by
  unfold x6_forget
  exact MR_bind (mm_j7_fill_53178_602 t (-1 : Int32)) (fun q1 hq1 => MR_bind (mm_x6_shrinkTo q1 (0 : Int32) (0 : Int32)) (fun q3 hq3 => MR_some (mle.trans hq1 hq3)))
set_option maxHeartbeats 4000000 in
set_option maxRecDepth 100000 in
theorem c_x6_forget (l : Launch) {D : va_G} {cI cJ cZ cR : ClassId} {am gm : Nat → Nat} {st : Nat} (sz : Nat) (t : St) {t' : St} (ho : x6_forget t = some t') : Met l yX6_forget (.code yX6_forget cX6_forget 1 none :: wsAll) (rmN 1 23) (va_Pc [.ref (am 2006)] (prX D (tyX cI cJ cZ cR) (wX cI cJ cZ cR am gm t) sz st)) (qV D (tyX cI cJ cZ cR) (wX cI cJ cZ cR am gm t') (va_A (wX cI cJ cZ cR am gm t) sz)) 0 0 (va_A (wX cI cJ cZ cR am gm t) sz) := by
  refine Met.ofW (cc := cX6_forget) (maxL := 1) (ret := none) (by decide) rfl ?_
  intro p e s m args below meth c s₁ B hml hv
  obtain ⟨rfl, ⟨hsz, hP, hK, hD0⟩, hsx⟩ := hv
  have hx := B.exec
  have hb := B.bytes
  have hts := atoms_spec (ws := (.code yX6_forget cX6_forget 1 none :: wsAll)) B.pre
  have hta := fun w h => hts w (List.mem_cons_of_mem _ h)
  have hown : s.vm.findClass RX6 = some m.cls := findClass_of_methodNamed B.named
  have hlocks := B.notSynchronized
  subst hsz
  have hD := hD0.self (sz := s.heap.size)
  generalize hAe : va_A (wX cI cJ cZ cR am gm t) s.heap.size = A at hD ⊢
  have hA : ∀ q : Nat, s.heap.size ≤ q → A q := fun q h => by rw [← hAe]; exact Or.inr h
  have C0 : cxX p s m ([.ref (am 2006)].toArray) meth c cX6_forget RX6 1 none D (tyX cI cJ cZ cR) st A := ⟨⟨hx, hb, B.returns, hml, hown, hta, hlocks, hK, hA⟩, by rw [← hAe]; exact hsx⟩
  have hW : wl D A s (wX cI cJ cZ cR am gm t) s.heap [] := ⟨hP, hD, va_S.rf⟩
  have hl := lv_entry [.ref (am 2006)] (n := 1) (Nat.le_of_ble_eq_true rfl)
  rw [lg_entry_eq]
  generalize (lg_sl [.ref (am 2006)] ++ List.replicate (1 - (lg_sl [.ref (am 2006)]).length) Slot.unset).toArray = ls at hl ⊢
  have hl : lv_has ls 1 [(0, .ref (am 2006))] := hl
  unfold x6_forget at ho
  refine lv_aload_n hx hb dX6_forget_0 rfl (lv_at hl 0 rfl) ?_
  refine xGET_602 C0 kw_183 hW dX6_forget_1 ?_
  refine lv_iconst (v := (-1 : Int32)) hx hb dX6_forget_4 (by decide) ?_
  obtain ⟨q1, hc2, ho⟩ := bd_some ho
  refine bkV C0.1 hW (runSX (As := [.ref (am 602), .int (-1 : Int32)]) (rest := []) C0 hW (c_j7_fill_53178_602 l _ t (-1 : Int32) (t' := q1) hc2) cb_X6_J7_fill_53178_58 rfl rfl ⟨rfl, rfl⟩ ⟨Nat.le_of_ble_eq_true rfl, Nat.le_of_ble_eq_true rfl⟩ (Nat.le_of_ble_eq_true rfl) hl.1 dX6_forget_5 ⟨Nat.le_of_ble_eq_true rfl, Nat.le_of_ble_eq_true rfl⟩) (fun H locs hW => ?_)
  refine lv_aload_n hx hb dX6_forget_8 rfl (lv_at hl 0 rfl) ?_
  refine lv_iconst (v := (0 : Int32)) hx hb dX6_forget_9 (by decide) ?_
  refine lv_iconst (v := (0 : Int32)) hx hb dX6_forget_10 (by decide) ?_
  obtain ⟨q3, hc4, ho⟩ := bd_some ho
  refine bkV C0.1 hW (runVX (As := [.int (0 : Int32), .int (0 : Int32)]) (rest := []) C0 hW (c_x6_shrinkTo l _ q1 (0 : Int32) (0 : Int32) (t' := q3) hc4) cb_X6_X6_shrinkTo_64 6 6 rfl rfl rfl rfl rfl ⟨rfl, rfl⟩ ⟨Nat.le_of_ble_eq_true rfl, Nat.le_of_ble_eq_true rfl⟩ (Nat.le_of_ble_eq_true rfl) hl.1 dX6_forget_11 ⟨Nat.le_of_ble_eq_true rfl, Nat.le_of_ble_eq_true rfl⟩) (fun H locs hW => ?_)
  cases ho
  exact rtV C0.1 hW dX6_forget_14
noncomputable def j7_fill_53178_813_B5 (v1 : Int32) (v3 : Int32) (v2 : Int32) (t : St) : Option ((Int32 × St) ⊕ (St)) :=
  if v3 ≤ v2 then (some (.inr t)) else (gd v2 (gN t 813) (nm (sA t 813 v2 v1) (fun t3 : St => nm (v2 + (1 : Int32)) (fun x4 : Int32 => some (.inl (x4, t3))))))
theorem mm_j7_fill_53178_813_B5 (v1 : Int32) (v3 : Int32) (v2 : Int32) (t : St) : MR (j7_fill_53178_813_B5 v1 v3 v2 t) t (Sum.elim (fun (x : Int32 × St) => x.2) (fun (y : St) => y)) := by
  unfold j7_fill_53178_813_B5
  exact MR_ite (MR_some mle.rfl) (MR_gd (MR_nmS mle_sA (fun t3 ht3 => MR_nm (fun x4 _ => MR_some ht3))))
theorem mm_j7_fill_53178_813_L5 (v1 : Int32) (v3 : Int32) (v2 : Int32) (t : St) : MR (lp (fun x => j7_fill_53178_813_B5 v1 v3 x.1 x.2) (v2, t)) t (fun (y : St) => y) := MR_lp (p := (fun (x : Int32 × St) => x.2)) (q := (fun (y : St) => y)) (fun x => mm_j7_fill_53178_813_B5 v1 v3 x.1 x.2) (v2, t)
noncomputable def j7_fill_53178_813 (t : St) (a1 : Int32) : Option (St) :=
  nm (Int32.ofNat (gN t 813)) (fun x5 : Int32 => (lp (fun x => j7_fill_53178_813_B5 a1 x5 x.1 x.2) ((0 : Int32), t)).bind (fun y6 => some y6))
theorem mm_j7_fill_53178_813 (t : St) (a1 : Int32) : MR (j7_fill_53178_813 t a1) t (fun (a : St) => a) := by
  unfold j7_fill_53178_813
  exact MR_nm (fun x5 _ => MR_bind (mm_j7_fill_53178_813_L5 a1 x5 (0 : Int32) t) (fun y6 hm7 => MR_some hm7))
set_option maxHeartbeats 4000000 in
set_option maxRecDepth 100000 in
theorem j7_fill_53178_813_L5 {p : Program} {l : Launch} {e : Env} {s : State} {m : MethodId} {args : Array Value} {below : List Frame} {meth : Method} {c : Code} {Q : State → Prop} {D : va_G} {cI cJ cZ cR : ClassId} {am gm : Nat → Nat} {st : Nat} {A : Nat → Prop} (C0 : cxX p s m args meth c cJ7_fill_53178 RJ7 4 none D (tyX cI cJ cZ cR) st A) {v1 : Int32} {v3 : Int32} {y : St} (hK0 : ∀ (H : Heap) (locs : List Loc) (ls : Array Slot), wl D A s (wX cI cJ cZ cR am gm y) H locs → lv_has ls 4 [] → W p l e (rmN 0 0) s m args below meth c H locs 0 0 Q (F0 m 20 ls [])) :
    ∀ (n : Nat) (v2 : Int32) (t : St), lpn (fun x => j7_fill_53178_813_B5 v1 v3 x.1 x.2) n (v2, t) = some y → ∀ (H : Heap) (locs : List Loc) (ls : Array Slot), wl D A s (wX cI cJ cZ cR am gm t) H locs → lv_has ls 4 [(0, .ref (am 813)), (1, .int v1), (2, .int v2), (3, .int v3)] → W p l e (rmN 0 0) s m args below meth c H locs 0 0 Q (F0 m 5 ls []) := by
  have hx := C0.1.1
  have hb := C0.1.2.1
  have hta := C0.1.2.2.2.2.2.1
  have hown := C0.1.2.2.2.2.1
  intro n
  induction n with
  | zero => intro _ _ h; cases h
  | succ n ih =>
    intro v2 t hrun H locs ls hW hl
    obtain ⟨o, ho, hrun⟩ := bd_some hrun
    unfold j7_fill_53178_813_B5 at ho
    refine lv_iload_n hx hb dJ7_fill_53178_5 rfl (lv_at hl 2 rfl) ?_
    refine lv_iload_n hx hb dJ7_fill_53178_6 rfl (lv_at hl 3 rfl) ?_
    refine lv_icmp_ge (tgt := 20) hx hb dJ7_fill_53178_7 (by decide) (fun c1 => ?_) (fun c1 => ?_)
    · replace ho := ite_t c1 ho
      cases ho
      cases hrun
      exact hK0 _ _ _ hW (lv_sub hl [] rfl)
    · replace ho := ite_f c1 ho
      refine lv_aload_n hx hb dJ7_fill_53178_10 rfl (lv_at hl 0 rfl) ?_
      refine lv_iload_n hx hb dJ7_fill_53178_11 rfl (lv_at hl 2 rfl) ?_
      refine lv_iload_n hx hb dJ7_fill_53178_12 rfl (lv_at hl 1 rfl) ?_
      obtain ⟨g2, ho⟩ := gd_some ho
      refine xST_813 C0 hW g2 dJ7_fill_53178_13 (fun H locs hW => ?_)
      obtain ⟨t3, ho, hW⟩ := nm_w (P := fun t => wl D A s (wX cI cJ cZ cR am gm t) H locs) ho hW
      obtain ⟨x4, ex4, ho⟩ := nm_x ho
      refine lv_iinc (v := x4) (lv' := [(2, .int x4), (0, .ref (am 813)), (1, .int v1), (3, .int v3)]) hx hb dJ7_fill_53178_14 hl (k := 2) rfl (by rw [ex4]; rfl) (by decide) rfl (fun ls hl => ?_)
      clear ex4
      refine lv_goto (tgt := 5) hx hb dJ7_fill_53178_17 (by decide) ?_
      cases ho
      exact ih _ _ hrun _ _ _ hW (lv_sub hl [1, 2, 0, 3] rfl)
set_option maxHeartbeats 4000000 in
set_option maxRecDepth 100000 in
theorem c_j7_fill_53178_813 (l : Launch) {D : va_G} {cI cJ cZ cR : ClassId} {am gm : Nat → Nat} {st : Nat} (sz : Nat) (t : St) (a1 : Int32) {t' : St} (ho : j7_fill_53178_813 t a1 = some t') : Met l yJ7_fill_53178 (.code yJ7_fill_53178 cJ7_fill_53178 4 none :: wsAll) (rmN 0 0) (va_Pc [.ref (am 813), .int a1] (prX D (tyX cI cJ cZ cR) (wX cI cJ cZ cR am gm t) sz st)) (qV D (tyX cI cJ cZ cR) (wX cI cJ cZ cR am gm t') (va_A (wX cI cJ cZ cR am gm t) sz)) 0 0 (va_A (wX cI cJ cZ cR am gm t) sz) := by
  refine Met.ofW (cc := cJ7_fill_53178) (maxL := 4) (ret := none) (by decide) rfl ?_
  intro p e s m args below meth c s₁ B hml hv
  obtain ⟨rfl, ⟨hsz, hP, hK, hD0⟩, hsx⟩ := hv
  have hx := B.exec
  have hb := B.bytes
  have hts := atoms_spec (ws := (.code yJ7_fill_53178 cJ7_fill_53178 4 none :: wsAll)) B.pre
  have hta := fun w h => hts w (List.mem_cons_of_mem _ h)
  have hown : s.vm.findClass RJ7 = some m.cls := findClass_of_methodNamed B.named
  have hlocks := B.notSynchronized
  subst hsz
  have hD := hD0.self (sz := s.heap.size)
  generalize hAe : va_A (wX cI cJ cZ cR am gm t) s.heap.size = A at hD ⊢
  have hA : ∀ q : Nat, s.heap.size ≤ q → A q := fun q h => by rw [← hAe]; exact Or.inr h
  have C0 : cxX p s m ([.ref (am 813), .int a1].toArray) meth c cJ7_fill_53178 RJ7 4 none D (tyX cI cJ cZ cR) st A := ⟨⟨hx, hb, B.returns, hml, hown, hta, hlocks, hK, hA⟩, by rw [← hAe]; exact hsx⟩
  have hW : wl D A s (wX cI cJ cZ cR am gm t) s.heap [] := ⟨hP, hD, va_S.rf⟩
  have hl := lv_entry [.ref (am 813), .int a1] (n := 4) (Nat.le_of_ble_eq_true rfl)
  rw [lg_entry_eq]
  generalize (lg_sl [.ref (am 813), .int a1] ++ List.replicate (4 - (lg_sl [.ref (am 813), .int a1]).length) Slot.unset).toArray = ls at hl ⊢
  have hl : lv_has ls 4 [(0, .ref (am 813)), (1, .int a1)] := hl
  unfold j7_fill_53178_813 at ho
  refine lv_iconst (v := (0 : Int32)) hx hb dJ7_fill_53178_0 (by decide) ?_
  refine lv_istore_n (lv' := [(2, .int (0 : Int32)), (0, .ref (am 813)), (1, .int a1)]) hx hb dJ7_fill_53178_1 rfl hl (by decide) rfl (fun ls hl => ?_)
  refine lv_aload_n hx hb dJ7_fill_53178_2 rfl (lv_at hl 1 rfl) ?_
  refine xLEN_813 C0 hW dJ7_fill_53178_3 ?_
  refine lv_nmi ho (fun x5 ho => ?_)
  refine lv_istore_n (lv' := [(3, .int x5), (2, .int (0 : Int32)), (0, .ref (am 813)), (1, .int a1)]) hx hb dJ7_fill_53178_4 rfl hl (by decide) rfl (fun ls hl => ?_)
  obtain ⟨y6, hc8, ho⟩ := bd_some ho
  obtain ⟨ny6, hc8⟩ := lp_to hc8
  refine j7_fill_53178_813_L5 C0 ?_ ny6 _ _ hc8 _ _ _ hW (lv_sub hl [2, 3, 1, 0] rfl)
  intro H locs ls hW hl
  cases ho
  exact rtV C0.1 hW dJ7_fill_53178_20
noncomputable def x8_forget (t : St) : Option (St) :=
  nm (sI t 805 (-1 : Int32)) (fun t1 : St => (j7_fill_53178_813 t1 (0 : Int32)).bind (fun q2 => some q2))
theorem mm_x8_forget (t : St) : MR (x8_forget t) t (fun (a : St) => a) := by
  unfold x8_forget
  exact MR_nmS mle_sI (fun t1 ht1 => MR_bind (mm_j7_fill_53178_813 t1 (0 : Int32)) (fun q2 hq2 => MR_some (mle.trans ht1 hq2)))
set_option maxHeartbeats 4000000 in
set_option maxRecDepth 100000 in
theorem c_x8_forget (l : Launch) {D : va_G} {cI cJ cZ cR : ClassId} {am gm : Nat → Nat} {st : Nat} (sz : Nat) (t : St) {t' : St} (ho : x8_forget t = some t') : Met l yX8_forget (.code yX8_forget cX8_forget 1 none :: wsAll) (rmN 1 23) (va_Pc [.ref (am 2008)] (prX D (tyX cI cJ cZ cR) (wX cI cJ cZ cR am gm t) sz st)) (qV D (tyX cI cJ cZ cR) (wX cI cJ cZ cR am gm t') (va_A (wX cI cJ cZ cR am gm t) sz)) 0 0 (va_A (wX cI cJ cZ cR am gm t) sz) := by
  refine Met.ofW (cc := cX8_forget) (maxL := 1) (ret := none) (by decide) rfl ?_
  intro p e s m args below meth c s₁ B hml hv
  obtain ⟨rfl, ⟨hsz, hP, hK, hD0⟩, hsx⟩ := hv
  have hx := B.exec
  have hb := B.bytes
  have hts := atoms_spec (ws := (.code yX8_forget cX8_forget 1 none :: wsAll)) B.pre
  have hta := fun w h => hts w (List.mem_cons_of_mem _ h)
  have hown : s.vm.findClass RX8 = some m.cls := findClass_of_methodNamed B.named
  have hlocks := B.notSynchronized
  subst hsz
  have hD := hD0.self (sz := s.heap.size)
  generalize hAe : va_A (wX cI cJ cZ cR am gm t) s.heap.size = A at hD ⊢
  have hA : ∀ q : Nat, s.heap.size ≤ q → A q := fun q h => by rw [← hAe]; exact Or.inr h
  have C0 : cxX p s m ([.ref (am 2008)].toArray) meth c cX8_forget RX8 1 none D (tyX cI cJ cZ cR) st A := ⟨⟨hx, hb, B.returns, hml, hown, hta, hlocks, hK, hA⟩, by rw [← hAe]; exact hsx⟩
  have hW : wl D A s (wX cI cJ cZ cR am gm t) s.heap [] := ⟨hP, hD, va_S.rf⟩
  have hl := lv_entry [.ref (am 2008)] (n := 1) (Nat.le_of_ble_eq_true rfl)
  rw [lg_entry_eq]
  generalize (lg_sl [.ref (am 2008)] ++ List.replicate (1 - (lg_sl [.ref (am 2008)]).length) Slot.unset).toArray = ls at hl ⊢
  have hl : lv_has ls 1 [(0, .ref (am 2008))] := hl
  unfold x8_forget at ho
  refine lv_aload_n hx hb dX8_forget_0 rfl (lv_at hl 0 rfl) ?_
  refine lv_iconst (v := (-1 : Int32)) hx hb dX8_forget_1 (by decide) ?_
  refine xPUT_805 C0 kw_280 hW dX8_forget_2 (fun H locs hW => ?_)
  obtain ⟨t1, ho, hW⟩ := nm_w (P := fun t => wl D A s (wX cI cJ cZ cR am gm t) H locs) ho hW
  refine lv_aload_n hx hb dX8_forget_5 rfl (lv_at hl 0 rfl) ?_
  refine xGET_813 C0 kw_290 hW dX8_forget_6 ?_
  refine lv_iconst (v := (0 : Int32)) hx hb dX8_forget_9 (by decide) ?_
  obtain ⟨q2, hc3, ho⟩ := bd_some ho
  refine bkV C0.1 hW (runSX (As := [.ref (am 813), .int (0 : Int32)]) (rest := []) C0 hW (c_j7_fill_53178_813 l _ t1 (0 : Int32) (t' := q2) hc3) cb_X8_J7_fill_53178_66 rfl rfl ⟨rfl, rfl⟩ ⟨Nat.le_of_ble_eq_true rfl, Nat.le_of_ble_eq_true rfl⟩ (Nat.le_of_ble_eq_true rfl) hl.1 dX8_forget_10 ⟨Nat.le_of_ble_eq_true rfl, Nat.le_of_ble_eq_true rfl⟩) (fun H locs hW => ?_)
  cases ho
  exact rtV C0.1 hW dX8_forget_13
noncomputable def x10_forget (t : St) : Option (St) :=
  nm (sI t 1005 (-1 : Int32)) (fun t1 : St => some t1)
theorem mm_x10_forget (t : St) : MR (x10_forget t) t (fun (a : St) => a) := by
  unfold x10_forget
  exact MR_nmS mle_sI (fun t1 ht1 => MR_some ht1)
set_option maxHeartbeats 4000000 in
set_option maxRecDepth 100000 in
theorem c_x10_forget (l : Launch) {D : va_G} {cI cJ cZ cR : ClassId} {am gm : Nat → Nat} {st : Nat} (sz : Nat) (t : St) {t' : St} (ho : x10_forget t = some t') : Met l yX10_forget (.code yX10_forget cX10_forget 1 none :: wsAll) (rmN 0 0) (va_Pc [.ref (am 2010)] (prX D (tyX cI cJ cZ cR) (wX cI cJ cZ cR am gm t) sz st)) (qV D (tyX cI cJ cZ cR) (wX cI cJ cZ cR am gm t') (va_A (wX cI cJ cZ cR am gm t) sz)) 0 0 (va_A (wX cI cJ cZ cR am gm t) sz) := by
  refine Met.ofW (cc := cX10_forget) (maxL := 1) (ret := none) (by decide) rfl ?_
  intro p e s m args below meth c s₁ B hml hv
  obtain ⟨rfl, ⟨hsz, hP, hK, hD0⟩, hsx⟩ := hv
  have hx := B.exec
  have hb := B.bytes
  have hts := atoms_spec (ws := (.code yX10_forget cX10_forget 1 none :: wsAll)) B.pre
  have hta := fun w h => hts w (List.mem_cons_of_mem _ h)
  have hown : s.vm.findClass RX10 = some m.cls := findClass_of_methodNamed B.named
  have hlocks := B.notSynchronized
  subst hsz
  have hD := hD0.self (sz := s.heap.size)
  generalize hAe : va_A (wX cI cJ cZ cR am gm t) s.heap.size = A at hD ⊢
  have hA : ∀ q : Nat, s.heap.size ≤ q → A q := fun q h => by rw [← hAe]; exact Or.inr h
  have C0 : cxX p s m ([.ref (am 2010)].toArray) meth c cX10_forget RX10 1 none D (tyX cI cJ cZ cR) st A := ⟨⟨hx, hb, B.returns, hml, hown, hta, hlocks, hK, hA⟩, by rw [← hAe]; exact hsx⟩
  have hW : wl D A s (wX cI cJ cZ cR am gm t) s.heap [] := ⟨hP, hD, va_S.rf⟩
  have hl := lv_entry [.ref (am 2010)] (n := 1) (Nat.le_of_ble_eq_true rfl)
  rw [lg_entry_eq]
  generalize (lg_sl [.ref (am 2010)] ++ List.replicate (1 - (lg_sl [.ref (am 2010)]).length) Slot.unset).toArray = ls at hl ⊢
  have hl : lv_has ls 1 [(0, .ref (am 2010))] := hl
  unfold x10_forget at ho
  refine lv_aload_n hx hb dX10_forget_0 rfl (lv_at hl 0 rfl) ?_
  refine lv_iconst (v := (-1 : Int32)) hx hb dX10_forget_1 (by decide) ?_
  refine xPUT_1005 C0 kw_339 hW dX10_forget_2 (fun H locs hW => ?_)
  obtain ⟨t1, ho, hW⟩ := nm_w (P := fun t => wl D A s (wX cI cJ cZ cR am gm t) H locs) ho hW
  cases ho
  exact rtV C0.1 hW dX10_forget_5
noncomputable def x0_forget (t : St) : Option (St) :=
  nm (sI t 2 (-1 : Int32)) (fun t1 : St => some t1)
theorem mm_x0_forget (t : St) : MR (x0_forget t) t (fun (a : St) => a) := by
  unfold x0_forget
  exact MR_nmS mle_sI (fun t1 ht1 => MR_some ht1)
set_option maxHeartbeats 4000000 in
set_option maxRecDepth 100000 in
theorem c_x0_forget (l : Launch) {D : va_G} {cI cJ cZ cR : ClassId} {am gm : Nat → Nat} {st : Nat} (sz : Nat) (t : St) {t' : St} (ho : x0_forget t = some t') : Met l yX0_forget (.code yX0_forget cX0_forget 1 none :: wsAll) (rmN 0 0) (va_Pc [.ref (am 2000)] (prX D (tyX cI cJ cZ cR) (wX cI cJ cZ cR am gm t) sz st)) (qV D (tyX cI cJ cZ cR) (wX cI cJ cZ cR am gm t') (va_A (wX cI cJ cZ cR am gm t) sz)) 0 0 (va_A (wX cI cJ cZ cR am gm t) sz) := by
  refine Met.ofW (cc := cX0_forget) (maxL := 1) (ret := none) (by decide) rfl ?_
  intro p e s m args below meth c s₁ B hml hv
  obtain ⟨rfl, ⟨hsz, hP, hK, hD0⟩, hsx⟩ := hv
  have hx := B.exec
  have hb := B.bytes
  have hts := atoms_spec (ws := (.code yX0_forget cX0_forget 1 none :: wsAll)) B.pre
  have hta := fun w h => hts w (List.mem_cons_of_mem _ h)
  have hown : s.vm.findClass RX0 = some m.cls := findClass_of_methodNamed B.named
  have hlocks := B.notSynchronized
  subst hsz
  have hD := hD0.self (sz := s.heap.size)
  generalize hAe : va_A (wX cI cJ cZ cR am gm t) s.heap.size = A at hD ⊢
  have hA : ∀ q : Nat, s.heap.size ≤ q → A q := fun q h => by rw [← hAe]; exact Or.inr h
  have C0 : cxX p s m ([.ref (am 2000)].toArray) meth c cX0_forget RX0 1 none D (tyX cI cJ cZ cR) st A := ⟨⟨hx, hb, B.returns, hml, hown, hta, hlocks, hK, hA⟩, by rw [← hAe]; exact hsx⟩
  have hW : wl D A s (wX cI cJ cZ cR am gm t) s.heap [] := ⟨hP, hD, va_S.rf⟩
  have hl := lv_entry [.ref (am 2000)] (n := 1) (Nat.le_of_ble_eq_true rfl)
  rw [lg_entry_eq]
  generalize (lg_sl [.ref (am 2000)] ++ List.replicate (1 - (lg_sl [.ref (am 2000)]).length) Slot.unset).toArray = ls at hl ⊢
  have hl : lv_has ls 1 [(0, .ref (am 2000))] := hl
  unfold x0_forget at ho
  refine lv_aload_n hx hb dX0_forget_0 rfl (lv_at hl 0 rfl) ?_
  refine lv_iconst (v := (-1 : Int32)) hx hb dX0_forget_1 (by decide) ?_
  refine xPUT_2 C0 kw_384 hW dX0_forget_2 (fun H locs hW => ?_)
  obtain ⟨t1, ho, hW⟩ := nm_w (P := fun t => wl D A s (wX cI cJ cZ cR am gm t) H locs) ho hW
  cases ho
  exact rtV C0.1 hW dX0_forget_5
noncomputable def x11_clear (t : St) : Option (Int32 × St) :=
  nm (gI t 609) (fun x1 : Int32 => (x6_forget t).bind (fun q2 => (x8_forget q2).bind (fun q4 => (x10_forget q4).bind (fun q6 => (x0_forget q6).bind (fun q8 => (x4_forgetFront q8).bind (fun q10 => some (x1, q10)))))))
theorem mm_x11_clear (t : St) : MR (x11_clear t) t (fun (a : Int32 × St) => a.2) := by
  unfold x11_clear
  exact MR_nm (fun x1 _ => MR_bind (mm_x6_forget t) (fun q2 hq2 => MR_bind (mm_x8_forget q2) (fun q4 hq4 => MR_bind (mm_x10_forget q4) (fun q6 hq6 => MR_bind (mm_x0_forget q6) (fun q8 hq8 => MR_bind (mm_x4_forgetFront q8) (fun q10 hq10 => MR_some (mle.trans (mle.trans (mle.trans (mle.trans hq2 hq4) hq6) hq8) hq10)))))))
set_option maxHeartbeats 4000000 in
set_option maxRecDepth 100000 in
theorem c_x11_clear (l : Launch) {D : va_G} {cI cJ cZ cR : ClassId} {am gm : Nat → Nat} {st : Nat} (sz : Nat) (t : St) {r : Int32} {t' : St} (ho : x11_clear t = some (r, t')) : Met l yX11_clear (.code yX11_clear cX11_clear 2 (some .int) :: wsAll) (rmN 2 43) (va_Pc [.ref (am 2011)] (prX D (tyX cI cJ cZ cR) (wX cI cJ cZ cR am gm t) sz st)) (qI r D (tyX cI cJ cZ cR) (wX cI cJ cZ cR am gm t') (va_A (wX cI cJ cZ cR am gm t) sz)) 0 0 (va_A (wX cI cJ cZ cR am gm t) sz) := by
  refine Met.ofW (cc := cX11_clear) (maxL := 2) (ret := (some .int)) (by decide) rfl ?_
  intro p e s m args below meth c s₁ B hml hv
  obtain ⟨rfl, ⟨hsz, hP, hK, hD0⟩, hsx⟩ := hv
  have hx := B.exec
  have hb := B.bytes
  have hts := atoms_spec (ws := (.code yX11_clear cX11_clear 2 (some .int) :: wsAll)) B.pre
  have hta := fun w h => hts w (List.mem_cons_of_mem _ h)
  have hown : s.vm.findClass RX11 = some m.cls := findClass_of_methodNamed B.named
  have hlocks := B.notSynchronized
  subst hsz
  have hD := hD0.self (sz := s.heap.size)
  generalize hAe : va_A (wX cI cJ cZ cR am gm t) s.heap.size = A at hD ⊢
  have hA : ∀ q : Nat, s.heap.size ≤ q → A q := fun q h => by rw [← hAe]; exact Or.inr h
  have C0 : cxX p s m ([.ref (am 2011)].toArray) meth c cX11_clear RX11 2 (some .int) D (tyX cI cJ cZ cR) st A := ⟨⟨hx, hb, B.returns, hml, hown, hta, hlocks, hK, hA⟩, by rw [← hAe]; exact hsx⟩
  have hW : wl D A s (wX cI cJ cZ cR am gm t) s.heap [] := ⟨hP, hD, va_S.rf⟩
  have hl := lv_entry [.ref (am 2011)] (n := 2) (Nat.le_of_ble_eq_true rfl)
  rw [lg_entry_eq]
  generalize (lg_sl [.ref (am 2011)] ++ List.replicate (2 - (lg_sl [.ref (am 2011)]).length) Slot.unset).toArray = ls at hl ⊢
  have hl : lv_has ls 2 [(0, .ref (am 2011))] := hl
  unfold x11_clear at ho
  refine lv_aload_n hx hb dX11_clear_0 rfl (lv_at hl 0 rfl) ?_
  refine xGET_1101 C0 kw_592 hW dX11_clear_1 ?_
  refine xGET_609 C0 kw_205 hW dX11_clear_4 ?_
  refine lv_nmi ho (fun x1 ho => ?_)
  refine lv_istore_n (lv' := [(1, .int x1), (0, .ref (am 2011))]) hx hb dX11_clear_7 rfl hl (by decide) rfl (fun ls hl => ?_)
  refine lv_aload_n hx hb dX11_clear_8 rfl (lv_at hl 1 rfl) ?_
  refine xGET_1101 C0 kw_592 hW dX11_clear_9 ?_
  obtain ⟨q2, hc3, ho⟩ := bd_some ho
  refine bkV C0.1 hW (runVX (As := []) (rest := []) C0 hW (c_x6_forget l _ t (t' := q2) hc3) cb_X11_X6_forget_141 6 6 rfl rfl rfl rfl rfl ⟨rfl, rfl⟩ ⟨Nat.le_of_ble_eq_true rfl, Nat.le_of_ble_eq_true rfl⟩ (Nat.le_of_ble_eq_true rfl) hl.1 dX11_clear_12 ⟨Nat.le_of_ble_eq_true rfl, Nat.le_of_ble_eq_true rfl⟩) (fun H locs hW => ?_)
  refine lv_aload_n hx hb dX11_clear_15 rfl (lv_at hl 1 rfl) ?_
  refine xGET_1103 C0 kw_594 hW dX11_clear_16 ?_
  obtain ⟨q4, hc5, ho⟩ := bd_some ho
  refine bkV C0.1 hW (runVX (As := []) (rest := []) C0 hW (c_x8_forget l _ q2 (t' := q4) hc5) cb_X11_X8_forget_144 8 8 rfl rfl rfl rfl rfl ⟨rfl, rfl⟩ ⟨Nat.le_of_ble_eq_true rfl, Nat.le_of_ble_eq_true rfl⟩ (Nat.le_of_ble_eq_true rfl) hl.1 dX11_clear_19 ⟨Nat.le_of_ble_eq_true rfl, Nat.le_of_ble_eq_true rfl⟩) (fun H locs hW => ?_)
  refine lv_aload_n hx hb dX11_clear_22 rfl (lv_at hl 1 rfl) ?_
  refine xGET_1104 C0 kw_595 hW dX11_clear_23 ?_
  obtain ⟨q6, hc7, ho⟩ := bd_some ho
  refine bkV C0.1 hW (runVX (As := []) (rest := []) C0 hW (c_x10_forget l _ q4 (t' := q6) hc7) cb_X11_X10_forget_145 10 10 rfl rfl rfl rfl rfl ⟨rfl, rfl⟩ ⟨Nat.le_of_ble_eq_true rfl, Nat.le_of_ble_eq_true rfl⟩ (Nat.le_of_ble_eq_true rfl) hl.1 dX11_clear_26 ⟨Nat.le_of_ble_eq_true rfl, Nat.le_of_ble_eq_true rfl⟩) (fun H locs hW => ?_)
  refine lv_aload_n hx hb dX11_clear_29 rfl (lv_at hl 1 rfl) ?_
  refine xGET_1106 C0 kw_597 hW dX11_clear_30 ?_
  obtain ⟨q8, hc9, ho⟩ := bd_some ho
  refine bkV C0.1 hW (runVX (As := []) (rest := []) C0 hW (c_x0_forget l _ q6 (t' := q8) hc9) cb_X11_X0_forget_146 0 0 rfl rfl rfl rfl rfl ⟨rfl, rfl⟩ ⟨Nat.le_of_ble_eq_true rfl, Nat.le_of_ble_eq_true rfl⟩ (Nat.le_of_ble_eq_true rfl) hl.1 dX11_clear_33 ⟨Nat.le_of_ble_eq_true rfl, Nat.le_of_ble_eq_true rfl⟩) (fun H locs hW => ?_)
  refine lv_aload_n hx hb dX11_clear_36 rfl (lv_at hl 1 rfl) ?_
  refine xGET_1107 C0 kw_598 hW dX11_clear_37 ?_
  obtain ⟨q10, hc11, ho⟩ := bd_some ho
  refine bkV C0.1 hW (runVX (As := []) (rest := []) C0 hW (c_x4_forgetFront l _ q8 (t' := q10) hc11) cb_X11_X4_forgetFront_110 4 4 rfl rfl rfl rfl rfl ⟨rfl, rfl⟩ ⟨Nat.le_of_ble_eq_true rfl, Nat.le_of_ble_eq_true rfl⟩ (Nat.le_of_ble_eq_true rfl) hl.1 dX11_clear_40 ⟨Nat.le_of_ble_eq_true rfl, Nat.le_of_ble_eq_true rfl⟩) (fun H locs hW => ?_)
  refine lv_iload_n hx hb dX11_clear_43 rfl (lv_at hl 0 rfl) ?_
  cases ho
  exact rtI C0.1 hW dX11_clear_44
noncomputable def x11_knot (t : St) (a1 : Int32) (a2 : Int32) : Option (Int32) :=
  (x11_noNet t a1).bind (fun q1 => if q1 = 0 then ((x11_outside t a2 (0 : Int32) (4 : Int32)).bind (fun q5 => if q5 = 0 then (gd a1 (gN t 602) (nm (gA t 602 (a1).toNatClampNeg) (fun x10 : Int32 => if 0 ≤ x10 then (if a2 = (0 : Int32) then (some x10) else if a2 = (1 : Int32) then (gd x10 (gN t 603) (some (gA t 603 (x10).toNatClampNeg))) else if a2 = (2 : Int32) then (gd x10 (gN t 604) (some (gA t 604 (x10).toNatClampNeg))) else if a2 = (3 : Int32) then (gd x10 (gN t 605) (some (gA t 605 (x10).toNatClampNeg))) else (gd x10 (gN t 607) (some (gA t 607 (x10).toNatClampNeg)))) else (some (-3 : Int32))))) else (some (-2 : Int32)))) else (some (-2 : Int32)))
set_option maxHeartbeats 4000000 in
set_option maxRecDepth 100000 in
theorem c_x11_knot (l : Launch) {D : va_G} {cI cJ cZ cR : ClassId} {am gm : Nat → Nat} {st : Nat} (sz : Nat) (t : St) (a1 : Int32) (a2 : Int32) {r : Int32} (ho : x11_knot t a1 a2 = some r) : Met l yX11_knot (.code yX11_knot cX11_knot 4 (some .int) :: wsAll) (rmN 2 42) (va_Pc [.ref (am 2011), .int a1, .int a2] (prX D (tyX cI cJ cZ cR) (wX cI cJ cZ cR am gm t) sz st)) (qI r D (tyX cI cJ cZ cR) (wX cI cJ cZ cR am gm t) (va_A (wX cI cJ cZ cR am gm t) sz)) 0 0 (va_A (wX cI cJ cZ cR am gm t) sz) := by
  refine Met.ofW (cc := cX11_knot) (maxL := 4) (ret := (some .int)) (by decide) rfl ?_
  intro p e s m args below meth c s₁ B hml hv
  obtain ⟨rfl, ⟨hsz, hP, hK, hD0⟩, hsx⟩ := hv
  have hx := B.exec
  have hb := B.bytes
  have hts := atoms_spec (ws := (.code yX11_knot cX11_knot 4 (some .int) :: wsAll)) B.pre
  have hta := fun w h => hts w (List.mem_cons_of_mem _ h)
  have hown : s.vm.findClass RX11 = some m.cls := findClass_of_methodNamed B.named
  have hlocks := B.notSynchronized
  subst hsz
  have hD := hD0.self (sz := s.heap.size)
  generalize hAe : va_A (wX cI cJ cZ cR am gm t) s.heap.size = A at hD ⊢
  have hA : ∀ q : Nat, s.heap.size ≤ q → A q := fun q h => by rw [← hAe]; exact Or.inr h
  have C0 : cxX p s m ([.ref (am 2011), .int a1, .int a2].toArray) meth c cX11_knot RX11 4 (some .int) D (tyX cI cJ cZ cR) st A := ⟨⟨hx, hb, B.returns, hml, hown, hta, hlocks, hK, hA⟩, by rw [← hAe]; exact hsx⟩
  have hW : wl D A s (wX cI cJ cZ cR am gm t) s.heap [] := ⟨hP, hD, va_S.rf⟩
  have hl := lv_entry [.ref (am 2011), .int a1, .int a2] (n := 4) (Nat.le_of_ble_eq_true rfl)
  rw [lg_entry_eq]
  generalize (lg_sl [.ref (am 2011), .int a1, .int a2] ++ List.replicate (4 - (lg_sl [.ref (am 2011), .int a1, .int a2]).length) Slot.unset).toArray = ls at hl ⊢
  have hl : lv_has ls 4 [(0, .ref (am 2011)), (1, .int a1), (2, .int a2)] := hl
  unfold x11_knot at ho
  refine lv_iload_n hx hb dX11_knot_0 rfl (lv_at hl 1 rfl) ?_
  obtain ⟨q1, hc2, ho⟩ := bd_some ho
  refine bkZ C0.1 hW (runSX (As := [.int a1]) (rest := []) C0 hW (c_x11_noNet l _ t a1 (r := q1) hc2) cb_X11_X11_noNet_124 rfl rfl ⟨rfl, rfl⟩ ⟨Nat.le_of_ble_eq_true rfl, Nat.le_of_ble_eq_true rfl⟩ (Nat.le_of_ble_eq_true rfl) hl.1 dX11_knot_1 ⟨Nat.le_of_ble_eq_true rfl, Nat.le_of_ble_eq_true rfl⟩) (fun z3 H locs hW => ?_)
  refine lv_if_ne (tgt := 16) hx hb dX11_knot_4 (by decide) (fun c4 => ?_) (fun c4 => ?_)
  · replace ho := ite_f c4 ho
    refine lv_bipush (v := (-2 : Int32)) hx hb dX11_knot_16 (by decide) ?_
    cases ho
    exact rtI C0.1 hW dX11_knot_18
  · replace ho := ite_t c4 ho
    refine lv_iload_n hx hb dX11_knot_7 rfl (lv_at hl 2 rfl) ?_
    refine lv_iconst (v := (0 : Int32)) hx hb dX11_knot_8 (by decide) ?_
    refine lv_iconst (v := (4 : Int32)) hx hb dX11_knot_9 (by decide) ?_
    obtain ⟨q5, hc6, ho⟩ := bd_some ho
    refine bkZ C0.1 hW (runSX (As := [.int a2, .int (0 : Int32), .int (4 : Int32)]) (rest := []) C0 hW (c_x11_outside l _ t a2 (0 : Int32) (4 : Int32) (r := q5) hc6) cb_X11_X11_outside_102 rfl rfl ⟨rfl, rfl⟩ ⟨Nat.le_of_ble_eq_true rfl, Nat.le_of_ble_eq_true rfl⟩ (Nat.le_of_ble_eq_true rfl) hl.1 dX11_knot_10 ⟨Nat.le_of_ble_eq_true rfl, Nat.le_of_ble_eq_true rfl⟩) (fun z7 H locs hW => ?_)
    refine lv_if_eq (tgt := 19) hx hb dX11_knot_13 (by decide) (fun c8 => ?_) (fun c8 => ?_)
    · replace ho := ite_t c8 ho
      refine lv_aload_n hx hb dX11_knot_19 rfl (lv_at hl 0 rfl) ?_
      refine xGET_1101 C0 kw_592 hW dX11_knot_20 ?_
      refine xGET_602 C0 kw_184 hW dX11_knot_23 ?_
      refine lv_iload_n hx hb dX11_knot_26 rfl (lv_at hl 1 rfl) ?_
      obtain ⟨g9, ho⟩ := gd_some ho
      refine xLD_602 C0 hW g9 dX11_knot_27 ?_
      refine lv_nmi ho (fun x10 ho => ?_)
      refine lv_istore_n (lv' := [(3, .int x10), (0, .ref (am 2011)), (1, .int a1), (2, .int a2)]) hx hb dX11_knot_28 rfl hl (by decide) rfl (fun ls hl => ?_)
      refine lv_iload_n hx hb dX11_knot_29 rfl (lv_at hl 0 rfl) ?_
      refine lv_if_ge (tgt := 36) hx hb dX11_knot_30 (by decide) (fun c11 => ?_) (fun c11 => ?_)
      · replace ho := ite_t c11 ho
        refine lv_iload_n hx hb dX11_knot_36 rfl (lv_at hl 3 rfl) ?_
        by_cases c12 : a2 = (0 : Int32)
        · replace ho := ite_t c12 ho
          refine lv_tableIn (tgt := 68) (off := 31) hx hb dX11_knot_37 (by rw [c12]; decide) (by rw [c12]; decide) (by rw [c12]; rfl) (by decide) ?_
          refine lv_iload_n hx hb dX11_knot_68 rfl (lv_at hl 0 rfl) ?_
          cases ho
          exact rtI C0.1 hW dX11_knot_69
        replace ho := ite_f c12 ho
        by_cases c13 : a2 = (1 : Int32)
        · replace ho := ite_t c13 ho
          refine lv_tableIn (tgt := 70) (off := 33) hx hb dX11_knot_37 (by rw [c13]; decide) (by rw [c13]; decide) (by rw [c13]; rfl) (by decide) ?_
          refine lv_aload_n hx hb dX11_knot_70 rfl (lv_at hl 1 rfl) ?_
          refine xGET_1101 C0 kw_592 hW dX11_knot_71 ?_
          refine xGET_603 C0 kw_189 hW dX11_knot_74 ?_
          refine lv_iload_n hx hb dX11_knot_77 rfl (lv_at hl 0 rfl) ?_
          obtain ⟨g14, ho⟩ := gd_some ho
          refine xLD_603 C0 hW g14 dX11_knot_78 ?_
          cases ho
          exact rtI C0.1 hW dX11_knot_79
        replace ho := ite_f c13 ho
        by_cases c15 : a2 = (2 : Int32)
        · replace ho := ite_t c15 ho
          refine lv_tableIn (tgt := 80) (off := 43) hx hb dX11_knot_37 (by rw [c15]; decide) (by rw [c15]; decide) (by rw [c15]; rfl) (by decide) ?_
          refine lv_aload_n hx hb dX11_knot_80 rfl (lv_at hl 1 rfl) ?_
          refine xGET_1101 C0 kw_592 hW dX11_knot_81 ?_
          refine xGET_604 C0 kw_193 hW dX11_knot_84 ?_
          refine lv_iload_n hx hb dX11_knot_87 rfl (lv_at hl 0 rfl) ?_
          obtain ⟨g16, ho⟩ := gd_some ho
          refine xLD_604 C0 hW g16 dX11_knot_88 ?_
          cases ho
          exact rtI C0.1 hW dX11_knot_89
        replace ho := ite_f c15 ho
        by_cases c17 : a2 = (3 : Int32)
        · replace ho := ite_t c17 ho
          refine lv_tableIn (tgt := 90) (off := 53) hx hb dX11_knot_37 (by rw [c17]; decide) (by rw [c17]; decide) (by rw [c17]; rfl) (by decide) ?_
          refine lv_aload_n hx hb dX11_knot_90 rfl (lv_at hl 1 rfl) ?_
          refine xGET_1101 C0 kw_592 hW dX11_knot_91 ?_
          refine xGET_605 C0 kw_195 hW dX11_knot_94 ?_
          refine lv_iload_n hx hb dX11_knot_97 rfl (lv_at hl 0 rfl) ?_
          obtain ⟨g18, ho⟩ := gd_some ho
          refine xLD_605 C0 hW g18 dX11_knot_98 ?_
          cases ho
          exact rtI C0.1 hW dX11_knot_99
        replace ho := ite_f c17 ho
        refine lv_tableOut (tgt := 100) hx hb dX11_knot_37 (tsw_3 c12 c13 c15 c17) (by decide) ?_
        refine lv_aload_n hx hb dX11_knot_100 rfl (lv_at hl 1 rfl) ?_
        refine xGET_1101 C0 kw_592 hW dX11_knot_101 ?_
        refine xGET_607 C0 kw_201 hW dX11_knot_104 ?_
        refine lv_iload_n hx hb dX11_knot_107 rfl (lv_at hl 0 rfl) ?_
        obtain ⟨g19, ho⟩ := gd_some ho
        refine xLD_607 C0 hW g19 dX11_knot_108 ?_
        cases ho
        exact rtI C0.1 hW dX11_knot_109
      · replace ho := ite_f c11 ho
        refine lv_bipush (v := (-3 : Int32)) hx hb dX11_knot_33 (by decide) ?_
        cases ho
        exact rtI C0.1 hW dX11_knot_35
    · replace ho := ite_f c8 ho
      refine lv_bipush (v := (-2 : Int32)) hx hb dX11_knot_16 (by decide) ?_
      cases ho
      exact rtI C0.1 hW dX11_knot_18
noncomputable def x6_partOf (t : St) (a1 : Int32) (a2 : Int32) : Option (Int32) :=
  gd a1 (gN t 606) (gd ((gA t 606 (a1).toNatClampNeg) + a2) (gN t 608) (some (gA t 608 (((gA t 606 (a1).toNatClampNeg) + a2)).toNatClampNeg)))
set_option maxHeartbeats 4000000 in
set_option maxRecDepth 100000 in
theorem c_x6_partOf (l : Launch) {D : va_G} {cI cJ cZ cR : ClassId} {am gm : Nat → Nat} {st : Nat} (sz : Nat) (t : St) (a1 : Int32) (a2 : Int32) {r : Int32} (ho : x6_partOf t a1 a2 = some r) : Met l yX6_partOf (.code yX6_partOf cX6_partOf 3 (some .int) :: wsAll) (rmN 0 0) (va_Pc [.ref (am 2006), .int a1, .int a2] (prX D (tyX cI cJ cZ cR) (wX cI cJ cZ cR am gm t) sz st)) (qI r D (tyX cI cJ cZ cR) (wX cI cJ cZ cR am gm t) (va_A (wX cI cJ cZ cR am gm t) sz)) 0 0 (va_A (wX cI cJ cZ cR am gm t) sz) := by
  refine Met.ofW (cc := cX6_partOf) (maxL := 3) (ret := (some .int)) (by decide) rfl ?_
  intro p e s m args below meth c s₁ B hml hv
  obtain ⟨rfl, ⟨hsz, hP, hK, hD0⟩, hsx⟩ := hv
  have hx := B.exec
  have hb := B.bytes
  have hts := atoms_spec (ws := (.code yX6_partOf cX6_partOf 3 (some .int) :: wsAll)) B.pre
  have hta := fun w h => hts w (List.mem_cons_of_mem _ h)
  have hown : s.vm.findClass RX6 = some m.cls := findClass_of_methodNamed B.named
  have hlocks := B.notSynchronized
  subst hsz
  have hD := hD0.self (sz := s.heap.size)
  generalize hAe : va_A (wX cI cJ cZ cR am gm t) s.heap.size = A at hD ⊢
  have hA : ∀ q : Nat, s.heap.size ≤ q → A q := fun q h => by rw [← hAe]; exact Or.inr h
  have C0 : cxX p s m ([.ref (am 2006), .int a1, .int a2].toArray) meth c cX6_partOf RX6 3 (some .int) D (tyX cI cJ cZ cR) st A := ⟨⟨hx, hb, B.returns, hml, hown, hta, hlocks, hK, hA⟩, by rw [← hAe]; exact hsx⟩
  have hW : wl D A s (wX cI cJ cZ cR am gm t) s.heap [] := ⟨hP, hD, va_S.rf⟩
  have hl := lv_entry [.ref (am 2006), .int a1, .int a2] (n := 3) (Nat.le_of_ble_eq_true rfl)
  rw [lg_entry_eq]
  generalize (lg_sl [.ref (am 2006), .int a1, .int a2] ++ List.replicate (3 - (lg_sl [.ref (am 2006), .int a1, .int a2]).length) Slot.unset).toArray = ls at hl ⊢
  have hl : lv_has ls 3 [(0, .ref (am 2006)), (1, .int a1), (2, .int a2)] := hl
  unfold x6_partOf at ho
  refine lv_aload_n hx hb dX6_partOf_0 rfl (lv_at hl 0 rfl) ?_
  refine xGET_608 C0 kw_202 hW dX6_partOf_1 ?_
  refine lv_aload_n hx hb dX6_partOf_4 rfl (lv_at hl 0 rfl) ?_
  refine xGET_606 C0 kw_198 hW dX6_partOf_5 ?_
  refine lv_iload_n hx hb dX6_partOf_8 rfl (lv_at hl 1 rfl) ?_
  obtain ⟨g1, ho⟩ := gd_some ho
  refine xLD_606 C0 hW g1 dX6_partOf_9 ?_
  refine lv_iload_n hx hb dX6_partOf_10 rfl (lv_at hl 2 rfl) ?_
  refine lv_iadd hx hb dX6_partOf_11 ?_
  obtain ⟨g2, ho⟩ := gd_some ho
  refine xLD_608 C0 hW g2 dX6_partOf_12 ?_
  cases ho
  exact rtI C0.1 hW dX6_partOf_13
noncomputable def x11_part (t : St) (a1 : Int32) (a2 : Int32) : Option (Int32) :=
  (x11_outside t a1 (0 : Int32) ((gI t 609) - (1 : Int32))).bind (fun q1 => if q1 = 0 then (if 0 ≤ a2 then (gd a1 (gN t 603) (if (gA t 603 (a1).toNatClampNeg) = 0 then (some (-1 : Int32)) else (gd a1 (gN t 604) (if a2 < (gA t 604 (a1).toNatClampNeg) then ((x6_partOf t a1 a2).bind (fun q10 => some q10)) else (some (-1 : Int32)))))) else (some (-2 : Int32))) else (some (-2 : Int32)))
set_option maxHeartbeats 4000000 in
set_option maxRecDepth 100000 in
theorem c_x11_part (l : Launch) {D : va_G} {cI cJ cZ cR : ClassId} {am gm : Nat → Nat} {st : Nat} (sz : Nat) (t : St) (a1 : Int32) (a2 : Int32) {r : Int32} (ho : x11_part t a1 a2 = some r) : Met l yX11_part (.code yX11_part cX11_part 3 (some .int) :: wsAll) (rmN 1 22) (va_Pc [.ref (am 2011), .int a1, .int a2] (prX D (tyX cI cJ cZ cR) (wX cI cJ cZ cR am gm t) sz st)) (qI r D (tyX cI cJ cZ cR) (wX cI cJ cZ cR am gm t) (va_A (wX cI cJ cZ cR am gm t) sz)) 0 0 (va_A (wX cI cJ cZ cR am gm t) sz) := by
  refine Met.ofW (cc := cX11_part) (maxL := 3) (ret := (some .int)) (by decide) rfl ?_
  intro p e s m args below meth c s₁ B hml hv
  obtain ⟨rfl, ⟨hsz, hP, hK, hD0⟩, hsx⟩ := hv
  have hx := B.exec
  have hb := B.bytes
  have hts := atoms_spec (ws := (.code yX11_part cX11_part 3 (some .int) :: wsAll)) B.pre
  have hta := fun w h => hts w (List.mem_cons_of_mem _ h)
  have hown : s.vm.findClass RX11 = some m.cls := findClass_of_methodNamed B.named
  have hlocks := B.notSynchronized
  subst hsz
  have hD := hD0.self (sz := s.heap.size)
  generalize hAe : va_A (wX cI cJ cZ cR am gm t) s.heap.size = A at hD ⊢
  have hA : ∀ q : Nat, s.heap.size ≤ q → A q := fun q h => by rw [← hAe]; exact Or.inr h
  have C0 : cxX p s m ([.ref (am 2011), .int a1, .int a2].toArray) meth c cX11_part RX11 3 (some .int) D (tyX cI cJ cZ cR) st A := ⟨⟨hx, hb, B.returns, hml, hown, hta, hlocks, hK, hA⟩, by rw [← hAe]; exact hsx⟩
  have hW : wl D A s (wX cI cJ cZ cR am gm t) s.heap [] := ⟨hP, hD, va_S.rf⟩
  have hl := lv_entry [.ref (am 2011), .int a1, .int a2] (n := 3) (Nat.le_of_ble_eq_true rfl)
  rw [lg_entry_eq]
  generalize (lg_sl [.ref (am 2011), .int a1, .int a2] ++ List.replicate (3 - (lg_sl [.ref (am 2011), .int a1, .int a2]).length) Slot.unset).toArray = ls at hl ⊢
  have hl : lv_has ls 3 [(0, .ref (am 2011)), (1, .int a1), (2, .int a2)] := hl
  unfold x11_part at ho
  refine lv_iload_n hx hb dX11_part_0 rfl (lv_at hl 1 rfl) ?_
  refine lv_iconst (v := (0 : Int32)) hx hb dX11_part_1 (by decide) ?_
  refine lv_aload_n hx hb dX11_part_2 rfl (lv_at hl 0 rfl) ?_
  refine xGET_1101 C0 kw_592 hW dX11_part_3 ?_
  refine xGET_609 C0 kw_205 hW dX11_part_6 ?_
  refine lv_iconst (v := (1 : Int32)) hx hb dX11_part_9 (by decide) ?_
  refine lv_isub hx hb dX11_part_10 ?_
  obtain ⟨q1, hc2, ho⟩ := bd_some ho
  refine bkZ C0.1 hW (runSX (As := [.int a1, .int (0 : Int32), .int ((gI t 609) - (1 : Int32))]) (rest := []) C0 hW (c_x11_outside l _ t a1 (0 : Int32) ((gI t 609) - (1 : Int32)) (r := q1) hc2) cb_X11_X11_outside_102 rfl rfl ⟨rfl, rfl⟩ ⟨Nat.le_of_ble_eq_true rfl, Nat.le_of_ble_eq_true rfl⟩ (Nat.le_of_ble_eq_true rfl) hl.1 dX11_part_11 ⟨Nat.le_of_ble_eq_true rfl, Nat.le_of_ble_eq_true rfl⟩) (fun z3 H locs hW => ?_)
  refine lv_if_ne (tgt := 21) hx hb dX11_part_14 (by decide) (fun c4 => ?_) (fun c4 => ?_)
  · replace ho := ite_f c4 ho
    refine lv_bipush (v := (-2 : Int32)) hx hb dX11_part_21 (by decide) ?_
    cases ho
    exact rtI C0.1 hW dX11_part_23
  · replace ho := ite_t c4 ho
    refine lv_iload_n hx hb dX11_part_17 rfl (lv_at hl 2 rfl) ?_
    refine lv_if_ge (tgt := 24) hx hb dX11_part_18 (by decide) (fun c5 => ?_) (fun c5 => ?_)
    · replace ho := ite_t c5 ho
      refine lv_aload_n hx hb dX11_part_24 rfl (lv_at hl 0 rfl) ?_
      refine xGET_1101 C0 kw_592 hW dX11_part_25 ?_
      refine xGET_603 C0 kw_189 hW dX11_part_28 ?_
      refine lv_iload_n hx hb dX11_part_31 rfl (lv_at hl 1 rfl) ?_
      obtain ⟨g6, ho⟩ := gd_some ho
      refine xLD_603 C0 hW g6 dX11_part_32 ?_
      refine lv_if_eq (tgt := 49) hx hb dX11_part_33 (by decide) (fun c7 => ?_) (fun c7 => ?_)
      · replace ho := ite_t c7 ho
        refine lv_iconst (v := (-1 : Int32)) hx hb dX11_part_49 (by decide) ?_
        cases ho
        exact rtI C0.1 hW dX11_part_50
      · replace ho := ite_f c7 ho
        refine lv_iload_n hx hb dX11_part_36 rfl (lv_at hl 2 rfl) ?_
        refine lv_aload_n hx hb dX11_part_37 rfl (lv_at hl 0 rfl) ?_
        refine xGET_1101 C0 kw_592 hW dX11_part_38 ?_
        refine xGET_604 C0 kw_193 hW dX11_part_41 ?_
        refine lv_iload_n hx hb dX11_part_44 rfl (lv_at hl 1 rfl) ?_
        obtain ⟨g8, ho⟩ := gd_some ho
        refine xLD_604 C0 hW g8 dX11_part_45 ?_
        refine lv_icmp_lt (tgt := 51) hx hb dX11_part_46 (by decide) (fun c9 => ?_) (fun c9 => ?_)
        · replace ho := ite_t c9 ho
          refine lv_aload_n hx hb dX11_part_51 rfl (lv_at hl 0 rfl) ?_
          refine xGET_1101 C0 kw_592 hW dX11_part_52 ?_
          refine lv_iload_n hx hb dX11_part_55 rfl (lv_at hl 1 rfl) ?_
          refine lv_iload_n hx hb dX11_part_56 rfl (lv_at hl 2 rfl) ?_
          obtain ⟨q10, hc11, ho⟩ := bd_some ho
          refine bkI C0.1 hW (runVX (As := [.int a1, .int a2]) (rest := []) C0 hW (c_x6_partOf l _ t a1 a2 (r := q10) hc11) cb_X11_X6_partOf_159 6 6 rfl rfl rfl rfl rfl ⟨rfl, rfl⟩ ⟨Nat.le_of_ble_eq_true rfl, Nat.le_of_ble_eq_true rfl⟩ (Nat.le_of_ble_eq_true rfl) hl.1 dX11_part_57 ⟨Nat.le_of_ble_eq_true rfl, Nat.le_of_ble_eq_true rfl⟩) (fun H locs hW => ?_)
          cases ho
          exact rtI C0.1 hW dX11_part_60
        · replace ho := ite_f c9 ho
          refine lv_iconst (v := (-1 : Int32)) hx hb dX11_part_49 (by decide) ?_
          cases ho
          exact rtI C0.1 hW dX11_part_50
    · replace ho := ite_f c5 ho
      refine lv_bipush (v := (-2 : Int32)) hx hb dX11_part_21 (by decide) ?_
      cases ho
      exact rtI C0.1 hW dX11_part_23
noncomputable def x6_enough (t : St) (a1 : Int32) : Option (Int32) :=
  gd a1 (gN t 603) (if (gA t 603 (a1).toNatClampNeg) = (1 : Int32) then (some (1 : Int32)) else (gd a1 (gN t 603) (if (gA t 603 (a1).toNatClampNeg) = (4 : Int32) then (gd a1 (gN t 605) (some (gA t 605 (a1).toNatClampNeg))) else (gd a1 (gN t 604) (some (gA t 604 (a1).toNatClampNeg))))))
set_option maxHeartbeats 4000000 in
set_option maxRecDepth 100000 in
theorem c_x6_enough (l : Launch) {D : va_G} {cI cJ cZ cR : ClassId} {am gm : Nat → Nat} {st : Nat} (sz : Nat) (t : St) (a1 : Int32) {r : Int32} (ho : x6_enough t a1 = some r) : Met l yX6_enough (.code yX6_enough cX6_enough 2 (some .int) :: wsAll) (rmN 0 0) (va_Pc [.ref (am 2006), .int a1] (prX D (tyX cI cJ cZ cR) (wX cI cJ cZ cR am gm t) sz st)) (qI r D (tyX cI cJ cZ cR) (wX cI cJ cZ cR am gm t) (va_A (wX cI cJ cZ cR am gm t) sz)) 0 0 (va_A (wX cI cJ cZ cR am gm t) sz) := by
  refine Met.ofW (cc := cX6_enough) (maxL := 2) (ret := (some .int)) (by decide) rfl ?_
  intro p e s m args below meth c s₁ B hml hv
  obtain ⟨rfl, ⟨hsz, hP, hK, hD0⟩, hsx⟩ := hv
  have hx := B.exec
  have hb := B.bytes
  have hts := atoms_spec (ws := (.code yX6_enough cX6_enough 2 (some .int) :: wsAll)) B.pre
  have hta := fun w h => hts w (List.mem_cons_of_mem _ h)
  have hown : s.vm.findClass RX6 = some m.cls := findClass_of_methodNamed B.named
  have hlocks := B.notSynchronized
  subst hsz
  have hD := hD0.self (sz := s.heap.size)
  generalize hAe : va_A (wX cI cJ cZ cR am gm t) s.heap.size = A at hD ⊢
  have hA : ∀ q : Nat, s.heap.size ≤ q → A q := fun q h => by rw [← hAe]; exact Or.inr h
  have C0 : cxX p s m ([.ref (am 2006), .int a1].toArray) meth c cX6_enough RX6 2 (some .int) D (tyX cI cJ cZ cR) st A := ⟨⟨hx, hb, B.returns, hml, hown, hta, hlocks, hK, hA⟩, by rw [← hAe]; exact hsx⟩
  have hW : wl D A s (wX cI cJ cZ cR am gm t) s.heap [] := ⟨hP, hD, va_S.rf⟩
  have hl := lv_entry [.ref (am 2006), .int a1] (n := 2) (Nat.le_of_ble_eq_true rfl)
  rw [lg_entry_eq]
  generalize (lg_sl [.ref (am 2006), .int a1] ++ List.replicate (2 - (lg_sl [.ref (am 2006), .int a1]).length) Slot.unset).toArray = ls at hl ⊢
  have hl : lv_has ls 2 [(0, .ref (am 2006)), (1, .int a1)] := hl
  unfold x6_enough at ho
  refine lv_aload_n hx hb dX6_enough_0 rfl (lv_at hl 0 rfl) ?_
  refine xGET_603 C0 kw_186 hW dX6_enough_1 ?_
  refine lv_iload_n hx hb dX6_enough_4 rfl (lv_at hl 1 rfl) ?_
  obtain ⟨g1, ho⟩ := gd_some ho
  refine xLD_603 C0 hW g1 dX6_enough_5 ?_
  refine lv_iconst (v := (1 : Int32)) hx hb dX6_enough_6 (by decide) ?_
  refine lv_icmp_ne (tgt := 12) hx hb dX6_enough_7 (by decide) (fun c2 => ?_) (fun c2 => ?_)
  · replace ho := ite_f c2 ho
    refine lv_aload_n hx hb dX6_enough_12 rfl (lv_at hl 0 rfl) ?_
    refine xGET_603 C0 kw_186 hW dX6_enough_13 ?_
    refine lv_iload_n hx hb dX6_enough_16 rfl (lv_at hl 1 rfl) ?_
    obtain ⟨g3, ho⟩ := gd_some ho
    refine xLD_603 C0 hW g3 dX6_enough_17 ?_
    refine lv_iconst (v := (4 : Int32)) hx hb dX6_enough_18 (by decide) ?_
    refine lv_icmp_ne (tgt := 31) hx hb dX6_enough_19 (by decide) (fun c4 => ?_) (fun c4 => ?_)
    · replace ho := ite_f c4 ho
      refine lv_aload_n hx hb dX6_enough_31 rfl (lv_at hl 0 rfl) ?_
      refine xGET_604 C0 kw_190 hW dX6_enough_32 ?_
      refine lv_iload_n hx hb dX6_enough_35 rfl (lv_at hl 1 rfl) ?_
      obtain ⟨g5, ho⟩ := gd_some ho
      refine xLD_604 C0 hW g5 dX6_enough_36 ?_
      cases ho
      exact rtI C0.1 hW dX6_enough_37
    · replace ho := ite_t c4 ho
      refine lv_aload_n hx hb dX6_enough_22 rfl (lv_at hl 0 rfl) ?_
      refine xGET_605 C0 kw_194 hW dX6_enough_23 ?_
      refine lv_iload_n hx hb dX6_enough_26 rfl (lv_at hl 1 rfl) ?_
      obtain ⟨g6, ho⟩ := gd_some ho
      refine xLD_605 C0 hW g6 dX6_enough_27 ?_
      refine lv_goto (tgt := 37) hx hb dX6_enough_28 (by decide) ?_
      cases ho
      exact rtI C0.1 hW dX6_enough_37
  · replace ho := ite_t c2 ho
    refine lv_iconst (v := (1 : Int32)) hx hb dX6_enough_10 (by decide) ?_
    cases ho
    exact rtI C0.1 hW dX6_enough_11
noncomputable def x6_knotIsOn_B34 (t : St) (v1 : Int32) (v3 : Int32) (v4 : Int32) : Option ((Int32 × Int32) ⊕ (Int32)) :=
  gd v1 (gN t 604) (if (gA t 604 (v1).toNatClampNeg) ≤ v4 then (some (.inr v3)) else ((x6_partOf t v1 v4).bind (fun q3 => gd q3 (gN t 611) (if (gA t 611 (q3).toNatClampNeg) = 0 then (nm (v4 + (1 : Int32)) (fun x7 : Int32 => some (.inl (v3, x7)))) else (nm (v3 + (1 : Int32)) (fun x8 : Int32 => nm (v4 + (1 : Int32)) (fun x9 : Int32 => some (.inl (x8, x9)))))))))
noncomputable def x6_knotIsOn (t : St) (a1 : Int32) (a2 : Int32) : Option (Int32) :=
  gd a1 (gN t 603) (if (gA t 603 (a1).toNatClampNeg) = 0 then (gd a1 (gN t 604) (if ((a2 >>> ((gA t 604 (a1).toNatClampNeg) &&& 31)) &&& (1 : Int32)) = (1 : Int32) then (some (1 : Int32)) else (some (0 : Int32)))) else ((lp (fun x => x6_knotIsOn_B34 t a1 x.1 x.2) ((0 : Int32), (0 : Int32))).bind (fun y12 => (x6_enough t a1).bind (fun q15 => if y12 < q15 then (some (0 : Int32)) else (some (1 : Int32))))))
set_option maxHeartbeats 4000000 in
set_option maxRecDepth 100000 in
theorem x6_knotIsOn_L34 {p : Program} {l : Launch} {e : Env} {s : State} {m : MethodId} {args : Array Value} {below : List Frame} {meth : Method} {c : Code} {Q : State → Prop} {D : va_G} {cI cJ cZ cR : ClassId} {am gm : Nat → Nat} {st : Nat} {A : Nat → Prop} (C0 : cxX p s m args meth c cX6_knotIsOn RX6 5 (some .boolean) D (tyX cI cJ cZ cR) st A) {t : St} {v1 : Int32} {y : Int32} (hK0 : ∀ (H : Heap) (locs : List Loc) (ls : Array Slot), wl D A s (wX cI cJ cZ cR am gm t) H locs → lv_has ls 5 [(0, .ref (am 2006)), (1, .int v1), (3, .int y)] → W p l e (rmN 1 22) s m args below meth c H locs 0 0 Q (F0 m 69 ls [])) :
    ∀ (n : Nat) (v3 : Int32) (v4 : Int32), lpn (fun x => x6_knotIsOn_B34 t v1 x.1 x.2) n (v3, v4) = some y → ∀ (H : Heap) (locs : List Loc) (ls : Array Slot), wl D A s (wX cI cJ cZ cR am gm t) H locs → lv_has ls 5 [(0, .ref (am 2006)), (1, .int v1), (3, .int v3), (4, .int v4)] → W p l e (rmN 1 22) s m args below meth c H locs 0 0 Q (F0 m 34 ls []) := by
  have hx := C0.1.1
  have hb := C0.1.2.1
  have hta := C0.1.2.2.2.2.2.1
  have hown := C0.1.2.2.2.2.1
  intro n
  induction n with
  | zero => intro _ _ h; cases h
  | succ n ih =>
    intro v3 v4 hrun H locs ls hW hl
    obtain ⟨o, ho, hrun⟩ := bd_some hrun
    unfold x6_knotIsOn_B34 at ho
    refine lv_iload hx hb dX6_knotIsOn_34 (lv_at hl 3 rfl) ?_
    refine lv_aload_n hx hb dX6_knotIsOn_36 rfl (lv_at hl 0 rfl) ?_
    refine xGET_604 C0 kw_190 hW dX6_knotIsOn_37 ?_
    refine lv_iload_n hx hb dX6_knotIsOn_40 rfl (lv_at hl 1 rfl) ?_
    obtain ⟨g1, ho⟩ := gd_some ho
    refine xLD_604 C0 hW g1 dX6_knotIsOn_41 ?_
    refine lv_icmp_ge (tgt := 69) hx hb dX6_knotIsOn_42 (by decide) (fun c2 => ?_) (fun c2 => ?_)
    · replace ho := ite_t c2 ho
      cases ho
      cases hrun
      exact hK0 _ _ _ hW (lv_sub hl [0, 1, 2] rfl)
    · replace ho := ite_f c2 ho
      refine lv_aload_n hx hb dX6_knotIsOn_45 rfl (lv_at hl 0 rfl) ?_
      refine xGET_611 C0 kw_208 hW dX6_knotIsOn_46 ?_
      refine lv_aload_n hx hb dX6_knotIsOn_49 rfl (lv_at hl 0 rfl) ?_
      refine lv_iload_n hx hb dX6_knotIsOn_50 rfl (lv_at hl 1 rfl) ?_
      refine lv_iload hx hb dX6_knotIsOn_51 (lv_at hl 3 rfl) ?_
      obtain ⟨q3, hc4, ho⟩ := bd_some ho
      refine bkI C0.1 hW (runVX (As := [.int v1, .int v4]) (rest := [.ref (am 611)]) C0 hW (c_x6_partOf l _ t v1 v4 (r := q3) hc4) cb_X6_X6_partOf_86 6 6 rfl rfl rfl rfl rfl ⟨rfl, rfl⟩ ⟨Nat.le_of_ble_eq_true rfl, Nat.le_of_ble_eq_true rfl⟩ (Nat.le_of_ble_eq_true rfl) hl.1 dX6_knotIsOn_53 ⟨Nat.le_of_ble_eq_true rfl, Nat.le_of_ble_eq_true rfl⟩) (fun H locs hW => ?_)
      obtain ⟨g5, ho⟩ := gd_some ho
      refine xLD_611 C0 hW g5 dX6_knotIsOn_56 ?_
      refine lv_if_eq (tgt := 63) hx hb dX6_knotIsOn_57 (by decide) (fun c6 => ?_) (fun c6 => ?_)
      · replace ho := ite_t c6 ho
        obtain ⟨x7, ex7, ho⟩ := nm_x ho
        refine lv_iinc (v := x7) (lv' := [(4, .int x7), (0, .ref (am 2006)), (1, .int v1), (3, .int v3)]) hx hb dX6_knotIsOn_63 hl (k := 3) rfl (by rw [ex7]; rfl) (by decide) rfl (fun ls hl => ?_)
        clear ex7
        refine lv_goto (tgt := 34) hx hb dX6_knotIsOn_66 (by decide) ?_
        cases ho
        exact ih _ _ hrun _ _ _ hW (lv_sub hl [1, 2, 3, 0] rfl)
      · replace ho := ite_f c6 ho
        obtain ⟨x8, ex8, ho⟩ := nm_x ho
        refine lv_iinc (v := x8) (lv' := [(3, .int x8), (0, .ref (am 2006)), (1, .int v1), (4, .int v4)]) hx hb dX6_knotIsOn_60 hl (k := 2) rfl (by rw [ex8]; rfl) (by decide) rfl (fun ls hl => ?_)
        clear ex8
        obtain ⟨x9, ex9, ho⟩ := nm_x ho
        refine lv_iinc (v := x9) (lv' := [(4, .int x9), (3, .int x8), (0, .ref (am 2006)), (1, .int v1)]) hx hb dX6_knotIsOn_63 hl (k := 3) rfl (by rw [ex9]; rfl) (by decide) rfl (fun ls hl => ?_)
        clear ex9
        refine lv_goto (tgt := 34) hx hb dX6_knotIsOn_66 (by decide) ?_
        cases ho
        exact ih _ _ hrun _ _ _ hW (lv_sub hl [2, 3, 1, 0] rfl)
set_option maxHeartbeats 4000000 in
set_option maxRecDepth 100000 in
theorem c_x6_knotIsOn (l : Launch) {D : va_G} {cI cJ cZ cR : ClassId} {am gm : Nat → Nat} {st : Nat} (sz : Nat) (t : St) (a1 : Int32) (a2 : Int32) {r : Int32} (ho : x6_knotIsOn t a1 a2 = some r) : Met l yX6_knotIsOn (.code yX6_knotIsOn cX6_knotIsOn 5 (some .boolean) :: wsAll) (rmN 1 22) (va_Pc [.ref (am 2006), .int a1, .int a2] (prX D (tyX cI cJ cZ cR) (wX cI cJ cZ cR am gm t) sz st)) (qZ r D (tyX cI cJ cZ cR) (wX cI cJ cZ cR am gm t) (va_A (wX cI cJ cZ cR am gm t) sz)) 0 0 (va_A (wX cI cJ cZ cR am gm t) sz) := by
  refine Met.ofW (cc := cX6_knotIsOn) (maxL := 5) (ret := (some .boolean)) (by decide) rfl ?_
  intro p e s m args below meth c s₁ B hml hv
  obtain ⟨rfl, ⟨hsz, hP, hK, hD0⟩, hsx⟩ := hv
  have hx := B.exec
  have hb := B.bytes
  have hts := atoms_spec (ws := (.code yX6_knotIsOn cX6_knotIsOn 5 (some .boolean) :: wsAll)) B.pre
  have hta := fun w h => hts w (List.mem_cons_of_mem _ h)
  have hown : s.vm.findClass RX6 = some m.cls := findClass_of_methodNamed B.named
  have hlocks := B.notSynchronized
  subst hsz
  have hD := hD0.self (sz := s.heap.size)
  generalize hAe : va_A (wX cI cJ cZ cR am gm t) s.heap.size = A at hD ⊢
  have hA : ∀ q : Nat, s.heap.size ≤ q → A q := fun q h => by rw [← hAe]; exact Or.inr h
  have C0 : cxX p s m ([.ref (am 2006), .int a1, .int a2].toArray) meth c cX6_knotIsOn RX6 5 (some .boolean) D (tyX cI cJ cZ cR) st A := ⟨⟨hx, hb, B.returns, hml, hown, hta, hlocks, hK, hA⟩, by rw [← hAe]; exact hsx⟩
  have hW : wl D A s (wX cI cJ cZ cR am gm t) s.heap [] := ⟨hP, hD, va_S.rf⟩
  have hl := lv_entry [.ref (am 2006), .int a1, .int a2] (n := 5) (Nat.le_of_ble_eq_true rfl)
  rw [lg_entry_eq]
  generalize (lg_sl [.ref (am 2006), .int a1, .int a2] ++ List.replicate (5 - (lg_sl [.ref (am 2006), .int a1, .int a2]).length) Slot.unset).toArray = ls at hl ⊢
  have hl : lv_has ls 5 [(0, .ref (am 2006)), (1, .int a1), (2, .int a2)] := hl
  unfold x6_knotIsOn at ho
  refine lv_aload_n hx hb dX6_knotIsOn_0 rfl (lv_at hl 0 rfl) ?_
  refine xGET_603 C0 kw_186 hW dX6_knotIsOn_1 ?_
  refine lv_iload_n hx hb dX6_knotIsOn_4 rfl (lv_at hl 1 rfl) ?_
  obtain ⟨g10, ho⟩ := gd_some ho
  refine xLD_603 C0 hW g10 dX6_knotIsOn_5 ?_
  refine lv_if_ne (tgt := 29) hx hb dX6_knotIsOn_6 (by decide) (fun c11 => ?_) (fun c11 => ?_)
  · replace ho := ite_f c11 ho
    refine lv_iconst (v := (0 : Int32)) hx hb dX6_knotIsOn_29 (by decide) ?_
    refine lv_istore_n (lv' := [(3, .int (0 : Int32)), (0, .ref (am 2006)), (1, .int a1), (2, .int a2)]) hx hb dX6_knotIsOn_30 rfl hl (by decide) rfl (fun ls hl => ?_)
    refine lv_iconst (v := (0 : Int32)) hx hb dX6_knotIsOn_31 (by decide) ?_
    refine lv_istore (lv' := [(4, .int (0 : Int32)), (3, .int (0 : Int32)), (0, .ref (am 2006)), (1, .int a1), (2, .int a2)]) hx hb dX6_knotIsOn_32 hl (by decide) rfl (fun ls hl => ?_)
    obtain ⟨y12, hc14, ho⟩ := bd_some ho
    obtain ⟨ny12, hc14⟩ := lp_to hc14
    refine x6_knotIsOn_L34 C0 ?_ ny12 _ _ hc14 _ _ _ hW (lv_sub hl [2, 3, 1, 0] rfl)
    intro H locs ls hW hl
    refine lv_iload_n hx hb dX6_knotIsOn_69 rfl (lv_at hl 2 rfl) ?_
    refine lv_aload_n hx hb dX6_knotIsOn_70 rfl (lv_at hl 0 rfl) ?_
    refine lv_iload_n hx hb dX6_knotIsOn_71 rfl (lv_at hl 1 rfl) ?_
    obtain ⟨q15, hc16, ho⟩ := bd_some ho
    refine bkI C0.1 hW (runVX (As := [.int a1]) (rest := [.int y12]) C0 hW (c_x6_enough l _ t a1 (r := q15) hc16) cb_X6_X6_enough_89 6 6 rfl rfl rfl rfl rfl ⟨rfl, rfl⟩ ⟨Nat.le_of_ble_eq_true rfl, Nat.le_of_ble_eq_true rfl⟩ (Nat.le_of_ble_eq_true rfl) hl.1 dX6_knotIsOn_72 ⟨Nat.le_of_ble_eq_true rfl, Nat.le_of_ble_eq_true rfl⟩) (fun H locs hW => ?_)
    refine lv_icmp_lt (tgt := 82) hx hb dX6_knotIsOn_75 (by decide) (fun c17 => ?_) (fun c17 => ?_)
    · replace ho := ite_t c17 ho
      refine lv_iconst (v := (0 : Int32)) hx hb dX6_knotIsOn_82 (by decide) ?_
      cases ho
      exact rtZ C0.1 hW (Or.inl (rfl : (0 : Int32) = 0)) dX6_knotIsOn_83
    · replace ho := ite_f c17 ho
      refine lv_iconst (v := (1 : Int32)) hx hb dX6_knotIsOn_78 (by decide) ?_
      refine lv_goto (tgt := 83) hx hb dX6_knotIsOn_79 (by decide) ?_
      cases ho
      exact rtZ C0.1 hW (Or.inr (rfl : (1 : Int32) = 1)) dX6_knotIsOn_83
  · replace ho := ite_t c11 ho
    refine lv_iload_n hx hb dX6_knotIsOn_9 rfl (lv_at hl 2 rfl) ?_
    refine lv_aload_n hx hb dX6_knotIsOn_10 rfl (lv_at hl 0 rfl) ?_
    refine xGET_604 C0 kw_190 hW dX6_knotIsOn_11 ?_
    refine lv_iload_n hx hb dX6_knotIsOn_14 rfl (lv_at hl 1 rfl) ?_
    obtain ⟨g18, ho⟩ := gd_some ho
    refine xLD_604 C0 hW g18 dX6_knotIsOn_15 ?_
    refine lv_ishr hx hb dX6_knotIsOn_16 ?_
    refine lv_iconst (v := (1 : Int32)) hx hb dX6_knotIsOn_17 (by decide) ?_
    refine lv_iand hx hb dX6_knotIsOn_18 ?_
    refine lv_iconst (v := (1 : Int32)) hx hb dX6_knotIsOn_19 (by decide) ?_
    refine lv_icmp_ne (tgt := 27) hx hb dX6_knotIsOn_20 (by decide) (fun c19 => ?_) (fun c19 => ?_)
    · replace ho := ite_f c19 ho
      refine lv_iconst (v := (0 : Int32)) hx hb dX6_knotIsOn_27 (by decide) ?_
      cases ho
      exact rtZ C0.1 hW (Or.inl (rfl : (0 : Int32) = 0)) dX6_knotIsOn_28
    · replace ho := ite_t c19 ho
      refine lv_iconst (v := (1 : Int32)) hx hb dX6_knotIsOn_23 (by decide) ?_
      refine lv_goto (tgt := 28) hx hb dX6_knotIsOn_24 (by decide) ?_
      cases ho
      exact rtZ C0.1 hW (Or.inr (rfl : (1 : Int32) = 1)) dX6_knotIsOn_28
noncomputable def x6_isReachedBy_B2 (v1 : Int32) (v2 : Int32) (v3 : Int32) (t : St) : Option ((Int32 × St) ⊕ (St)) :=
  if v1 < v3 then (some (.inr t)) else ((x6_knotIsOn t v3 v2).bind (fun q2 => gd v3 (gN t 611) (nm (sA t 611 v3 (vp_nar .boolean q2)) (fun t6 : St => nm (v3 + (1 : Int32)) (fun x7 : Int32 => some (.inl (x7, t6)))))))
theorem mm_x6_isReachedBy_B2 (v1 : Int32) (v2 : Int32) (v3 : Int32) (t : St) : MR (x6_isReachedBy_B2 v1 v2 v3 t) t (Sum.elim (fun (x : Int32 × St) => x.2) (fun (y : St) => y)) := by
  unfold x6_isReachedBy_B2
  exact MR_ite (MR_some mle.rfl) (MR_bindn (fun q2 => MR_gd (MR_nmS mle_sA (fun t6 ht6 => MR_nm (fun x7 _ => MR_some ht6)))))
theorem mm_x6_isReachedBy_L2 (v1 : Int32) (v2 : Int32) (v3 : Int32) (t : St) : MR (lp (fun x => x6_isReachedBy_B2 v1 v2 x.1 x.2) (v3, t)) t (fun (y : St) => y) := MR_lp (p := (fun (x : Int32 × St) => x.2)) (q := (fun (y : St) => y)) (fun x => mm_x6_isReachedBy_B2 v1 v2 x.1 x.2) (v3, t)
noncomputable def x6_isReachedBy (t : St) (a1 : Int32) (a2 : Int32) : Option (Int32 × St) :=
  (lp (fun x => x6_isReachedBy_B2 a1 a2 x.1 x.2) ((0 : Int32), t)).bind (fun y8 => gd a1 (gN y8 611) (bz (gA y8 611 (a1).toNatClampNeg) (some ((gA y8 611 (a1).toNatClampNeg), y8))))
theorem mm_x6_isReachedBy (t : St) (a1 : Int32) (a2 : Int32) : MR (x6_isReachedBy t a1 a2) t (fun (a : Int32 × St) => a.2) := by
  unfold x6_isReachedBy
  exact MR_bind (mm_x6_isReachedBy_L2 a1 a2 (0 : Int32) t) (fun y8 hm9 => MR_gd (MR_bz (MR_some hm9)))
set_option maxHeartbeats 4000000 in
set_option maxRecDepth 100000 in
theorem x6_isReachedBy_L2 {p : Program} {l : Launch} {e : Env} {s : State} {m : MethodId} {args : Array Value} {below : List Frame} {meth : Method} {c : Code} {Q : State → Prop} {D : va_G} {cI cJ cZ cR : ClassId} {am gm : Nat → Nat} {st : Nat} {A : Nat → Prop} (C0 : cxX p s m args meth c cX6_isReachedBy RX6 4 (some .boolean) D (tyX cI cJ cZ cR) st A) {v1 : Int32} {v2 : Int32} {y : St} (hK0 : ∀ (H : Heap) (locs : List Loc) (ls : Array Slot), wl D A s (wX cI cJ cZ cR am gm y) H locs → lv_has ls 4 [(0, .ref (am 2006)), (1, .int v1)] → W p l e (rmN 2 46) s m args below meth c H locs 0 0 Q (F0 m 25 ls [])) :
    ∀ (n : Nat) (v3 : Int32) (t : St), lpn (fun x => x6_isReachedBy_B2 v1 v2 x.1 x.2) n (v3, t) = some y → ∀ (H : Heap) (locs : List Loc) (ls : Array Slot), wl D A s (wX cI cJ cZ cR am gm t) H locs → lv_has ls 4 [(0, .ref (am 2006)), (1, .int v1), (2, .int v2), (3, .int v3)] → W p l e (rmN 2 46) s m args below meth c H locs 0 0 Q (F0 m 2 ls []) := by
  have hx := C0.1.1
  have hb := C0.1.2.1
  have hta := C0.1.2.2.2.2.2.1
  have hown := C0.1.2.2.2.2.1
  intro n
  induction n with
  | zero => intro _ _ h; cases h
  | succ n ih =>
    intro v3 t hrun H locs ls hW hl
    obtain ⟨o, ho, hrun⟩ := bd_some hrun
    unfold x6_isReachedBy_B2 at ho
    refine lv_iload_n hx hb dX6_isReachedBy_2 rfl (lv_at hl 3 rfl) ?_
    refine lv_iload_n hx hb dX6_isReachedBy_3 rfl (lv_at hl 1 rfl) ?_
    refine lv_icmp_gt (tgt := 25) hx hb dX6_isReachedBy_4 (by decide) (fun c1 => ?_) (fun c1 => ?_)
    · replace ho := ite_t c1 ho
      cases ho
      cases hrun
      exact hK0 _ _ _ hW (lv_sub hl [0, 1] rfl)
    · replace ho := ite_f c1 ho
      refine lv_aload_n hx hb dX6_isReachedBy_7 rfl (lv_at hl 0 rfl) ?_
      refine xGET_611 C0 kw_208 hW dX6_isReachedBy_8 ?_
      refine lv_iload_n hx hb dX6_isReachedBy_11 rfl (lv_at hl 3 rfl) ?_
      refine lv_aload_n hx hb dX6_isReachedBy_12 rfl (lv_at hl 0 rfl) ?_
      refine lv_iload_n hx hb dX6_isReachedBy_13 rfl (lv_at hl 3 rfl) ?_
      refine lv_iload_n hx hb dX6_isReachedBy_14 rfl (lv_at hl 2 rfl) ?_
      obtain ⟨q2, hc3, ho⟩ := bd_some ho
      refine bkZ C0.1 hW (runVX (As := [.int v3, .int v2]) (rest := [.int v3, .ref (am 611)]) C0 hW (c_x6_knotIsOn l _ t v3 v2 (r := q2) hc3) cb_X6_X6_knotIsOn_82 6 6 rfl rfl rfl rfl rfl ⟨rfl, rfl⟩ ⟨Nat.le_of_ble_eq_true rfl, Nat.le_of_ble_eq_true rfl⟩ (Nat.le_of_ble_eq_true rfl) hl.1 dX6_isReachedBy_15 ⟨Nat.le_of_ble_eq_true rfl, Nat.le_of_ble_eq_true rfl⟩) (fun z4 H locs hW => ?_)
      obtain ⟨g5, ho⟩ := gd_some ho
      refine xST_611 C0 hW g5 dX6_isReachedBy_18 (fun H locs hW => ?_)
      obtain ⟨t6, ho, hW⟩ := nm_w (P := fun t => wl D A s (wX cI cJ cZ cR am gm t) H locs) ho hW
      obtain ⟨x7, ex7, ho⟩ := nm_x ho
      refine lv_iinc (v := x7) (lv' := [(3, .int x7), (0, .ref (am 2006)), (1, .int v1), (2, .int v2)]) hx hb dX6_isReachedBy_19 hl (k := 3) rfl (by rw [ex7]; rfl) (by decide) rfl (fun ls hl => ?_)
      clear ex7
      refine lv_goto (tgt := 2) hx hb dX6_isReachedBy_22 (by decide) ?_
      cases ho
      exact ih _ _ hrun _ _ _ hW (lv_sub hl [1, 2, 3, 0] rfl)
set_option maxHeartbeats 4000000 in
set_option maxRecDepth 100000 in
theorem c_x6_isReachedBy (l : Launch) {D : va_G} {cI cJ cZ cR : ClassId} {am gm : Nat → Nat} {st : Nat} (sz : Nat) (t : St) (a1 : Int32) (a2 : Int32) {r : Int32} {t' : St} (ho : x6_isReachedBy t a1 a2 = some (r, t')) : Met l yX6_isReachedBy (.code yX6_isReachedBy cX6_isReachedBy 4 (some .boolean) :: wsAll) (rmN 2 46) (va_Pc [.ref (am 2006), .int a1, .int a2] (prX D (tyX cI cJ cZ cR) (wX cI cJ cZ cR am gm t) sz st)) (qZ r D (tyX cI cJ cZ cR) (wX cI cJ cZ cR am gm t') (va_A (wX cI cJ cZ cR am gm t) sz)) 0 0 (va_A (wX cI cJ cZ cR am gm t) sz) := by
  refine Met.ofW (cc := cX6_isReachedBy) (maxL := 4) (ret := (some .boolean)) (by decide) rfl ?_
  intro p e s m args below meth c s₁ B hml hv
  obtain ⟨rfl, ⟨hsz, hP, hK, hD0⟩, hsx⟩ := hv
  have hx := B.exec
  have hb := B.bytes
  have hts := atoms_spec (ws := (.code yX6_isReachedBy cX6_isReachedBy 4 (some .boolean) :: wsAll)) B.pre
  have hta := fun w h => hts w (List.mem_cons_of_mem _ h)
  have hown : s.vm.findClass RX6 = some m.cls := findClass_of_methodNamed B.named
  have hlocks := B.notSynchronized
  subst hsz
  have hD := hD0.self (sz := s.heap.size)
  generalize hAe : va_A (wX cI cJ cZ cR am gm t) s.heap.size = A at hD ⊢
  have hA : ∀ q : Nat, s.heap.size ≤ q → A q := fun q h => by rw [← hAe]; exact Or.inr h
  have C0 : cxX p s m ([.ref (am 2006), .int a1, .int a2].toArray) meth c cX6_isReachedBy RX6 4 (some .boolean) D (tyX cI cJ cZ cR) st A := ⟨⟨hx, hb, B.returns, hml, hown, hta, hlocks, hK, hA⟩, by rw [← hAe]; exact hsx⟩
  have hW : wl D A s (wX cI cJ cZ cR am gm t) s.heap [] := ⟨hP, hD, va_S.rf⟩
  have hl := lv_entry [.ref (am 2006), .int a1, .int a2] (n := 4) (Nat.le_of_ble_eq_true rfl)
  rw [lg_entry_eq]
  generalize (lg_sl [.ref (am 2006), .int a1, .int a2] ++ List.replicate (4 - (lg_sl [.ref (am 2006), .int a1, .int a2]).length) Slot.unset).toArray = ls at hl ⊢
  have hl : lv_has ls 4 [(0, .ref (am 2006)), (1, .int a1), (2, .int a2)] := hl
  unfold x6_isReachedBy at ho
  refine lv_iconst (v := (0 : Int32)) hx hb dX6_isReachedBy_0 (by decide) ?_
  refine lv_istore_n (lv' := [(3, .int (0 : Int32)), (0, .ref (am 2006)), (1, .int a1), (2, .int a2)]) hx hb dX6_isReachedBy_1 rfl hl (by decide) rfl (fun ls hl => ?_)
  obtain ⟨y8, hc10, ho⟩ := bd_some ho
  obtain ⟨ny8, hc10⟩ := lp_to hc10
  refine x6_isReachedBy_L2 C0 ?_ ny8 _ _ hc10 _ _ _ hW (lv_sub hl [1, 2, 3, 0] rfl)
  intro H locs ls hW hl
  refine lv_aload_n hx hb dX6_isReachedBy_25 rfl (lv_at hl 0 rfl) ?_
  refine xGET_611 C0 kw_208 hW dX6_isReachedBy_26 ?_
  refine lv_iload_n hx hb dX6_isReachedBy_29 rfl (lv_at hl 1 rfl) ?_
  obtain ⟨g11, ho⟩ := gd_some ho
  refine xLD_611 C0 hW g11 dX6_isReachedBy_30 ?_
  obtain ⟨z12, ho⟩ := bz_some ho
  cases ho
  exact rtZ C0.1 hW z12 dX6_isReachedBy_31
noncomputable def x11_reaches (t : St) (a1 : Int32) (a2 : Int32) : Option (Int32 × St) :=
  (x11_noNet t a1).bind (fun q1 => if q1 = 0 then ((x11_outside t a2 (0 : Int32) (65535 : Int32)).bind (fun q5 => if q5 = 0 then (gd a1 (gN t 602) (nm (gA t 602 (a1).toNatClampNeg) (fun x10 : Int32 => if 0 ≤ x10 then ((x6_isReachedBy t x10 a2).bind (fun q12 => if q12.1 = 0 then (some ((0 : Int32), q12.2)) else (some ((1 : Int32), q12.2)))) else (some ((-3 : Int32), t))))) else (some ((-2 : Int32), t)))) else (some ((-2 : Int32), t)))
theorem mm_x11_reaches (t : St) (a1 : Int32) (a2 : Int32) : MR (x11_reaches t a1 a2) t (fun (a : Int32 × St) => a.2) := by
  unfold x11_reaches
  exact MR_bindn (fun q1 => MR_ite (MR_bindn (fun q5 => MR_ite (MR_gd (MR_nm (fun x10 _ => MR_ite (MR_bind (mm_x6_isReachedBy t x10 a2) (fun q12 hq12 => MR_ite (MR_some hq12) (MR_some hq12))) (MR_some mle.rfl)))) (MR_some mle.rfl))) (MR_some mle.rfl))
set_option maxHeartbeats 4000000 in
set_option maxRecDepth 100000 in
theorem c_x11_reaches (l : Launch) {D : va_G} {cI cJ cZ cR : ClassId} {am gm : Nat → Nat} {st : Nat} (sz : Nat) (t : St) (a1 : Int32) (a2 : Int32) {r : Int32} {t' : St} (ho : x11_reaches t a1 a2 = some (r, t')) : Met l yX11_reaches (.code yX11_reaches cX11_reaches 4 (some .int) :: wsAll) (rmN 3 69) (va_Pc [.ref (am 2011), .int a1, .int a2] (prX D (tyX cI cJ cZ cR) (wX cI cJ cZ cR am gm t) sz st)) (qI r D (tyX cI cJ cZ cR) (wX cI cJ cZ cR am gm t') (va_A (wX cI cJ cZ cR am gm t) sz)) 0 0 (va_A (wX cI cJ cZ cR am gm t) sz) := by
  refine Met.ofW (cc := cX11_reaches) (maxL := 4) (ret := (some .int)) (by decide) rfl ?_
  intro p e s m args below meth c s₁ B hml hv
  obtain ⟨rfl, ⟨hsz, hP, hK, hD0⟩, hsx⟩ := hv
  have hx := B.exec
  have hb := B.bytes
  have hts := atoms_spec (ws := (.code yX11_reaches cX11_reaches 4 (some .int) :: wsAll)) B.pre
  have hta := fun w h => hts w (List.mem_cons_of_mem _ h)
  have hown : s.vm.findClass RX11 = some m.cls := findClass_of_methodNamed B.named
  have hlocks := B.notSynchronized
  subst hsz
  have hD := hD0.self (sz := s.heap.size)
  generalize hAe : va_A (wX cI cJ cZ cR am gm t) s.heap.size = A at hD ⊢
  have hA : ∀ q : Nat, s.heap.size ≤ q → A q := fun q h => by rw [← hAe]; exact Or.inr h
  have C0 : cxX p s m ([.ref (am 2011), .int a1, .int a2].toArray) meth c cX11_reaches RX11 4 (some .int) D (tyX cI cJ cZ cR) st A := ⟨⟨hx, hb, B.returns, hml, hown, hta, hlocks, hK, hA⟩, by rw [← hAe]; exact hsx⟩
  have hW : wl D A s (wX cI cJ cZ cR am gm t) s.heap [] := ⟨hP, hD, va_S.rf⟩
  have hl := lv_entry [.ref (am 2011), .int a1, .int a2] (n := 4) (Nat.le_of_ble_eq_true rfl)
  rw [lg_entry_eq]
  generalize (lg_sl [.ref (am 2011), .int a1, .int a2] ++ List.replicate (4 - (lg_sl [.ref (am 2011), .int a1, .int a2]).length) Slot.unset).toArray = ls at hl ⊢
  have hl : lv_has ls 4 [(0, .ref (am 2011)), (1, .int a1), (2, .int a2)] := hl
  unfold x11_reaches at ho
  refine lv_iload_n hx hb dX11_reaches_0 rfl (lv_at hl 1 rfl) ?_
  obtain ⟨q1, hc2, ho⟩ := bd_some ho
  refine bkZ C0.1 hW (runSX (As := [.int a1]) (rest := []) C0 hW (c_x11_noNet l _ t a1 (r := q1) hc2) cb_X11_X11_noNet_124 rfl rfl ⟨rfl, rfl⟩ ⟨Nat.le_of_ble_eq_true rfl, Nat.le_of_ble_eq_true rfl⟩ (Nat.le_of_ble_eq_true rfl) hl.1 dX11_reaches_1 ⟨Nat.le_of_ble_eq_true rfl, Nat.le_of_ble_eq_true rfl⟩) (fun z3 H locs hW => ?_)
  refine lv_if_ne (tgt := 17) hx hb dX11_reaches_4 (by decide) (fun c4 => ?_) (fun c4 => ?_)
  · replace ho := ite_f c4 ho
    refine lv_bipush (v := (-2 : Int32)) hx hb dX11_reaches_17 (by decide) ?_
    cases ho
    exact rtI C0.1 hW dX11_reaches_19
  · replace ho := ite_t c4 ho
    refine lv_iload_n hx hb dX11_reaches_7 rfl (lv_at hl 2 rfl) ?_
    refine lv_iconst (v := (0 : Int32)) hx hb dX11_reaches_8 (by decide) ?_
    refine lv_ldc hx hb hown (hta _ kw_798) dX11_reaches_9 ?_
    obtain ⟨q5, hc6, ho⟩ := bd_some ho
    refine bkZ C0.1 hW (runSX (As := [.int a2, .int (0 : Int32), .int (65535 : Int32)]) (rest := []) C0 hW (c_x11_outside l _ t a2 (0 : Int32) (65535 : Int32) (r := q5) hc6) cb_X11_X11_outside_102 rfl rfl ⟨rfl, rfl⟩ ⟨Nat.le_of_ble_eq_true rfl, Nat.le_of_ble_eq_true rfl⟩ (Nat.le_of_ble_eq_true rfl) hl.1 dX11_reaches_11 ⟨Nat.le_of_ble_eq_true rfl, Nat.le_of_ble_eq_true rfl⟩) (fun z7 H locs hW => ?_)
    refine lv_if_eq (tgt := 20) hx hb dX11_reaches_14 (by decide) (fun c8 => ?_) (fun c8 => ?_)
    · replace ho := ite_t c8 ho
      refine lv_aload_n hx hb dX11_reaches_20 rfl (lv_at hl 0 rfl) ?_
      refine xGET_1101 C0 kw_592 hW dX11_reaches_21 ?_
      refine xGET_602 C0 kw_184 hW dX11_reaches_24 ?_
      refine lv_iload_n hx hb dX11_reaches_27 rfl (lv_at hl 1 rfl) ?_
      obtain ⟨g9, ho⟩ := gd_some ho
      refine xLD_602 C0 hW g9 dX11_reaches_28 ?_
      refine lv_nmi ho (fun x10 ho => ?_)
      refine lv_istore_n (lv' := [(3, .int x10), (0, .ref (am 2011)), (1, .int a1), (2, .int a2)]) hx hb dX11_reaches_29 rfl hl (by decide) rfl (fun ls hl => ?_)
      refine lv_iload_n hx hb dX11_reaches_30 rfl (lv_at hl 0 rfl) ?_
      refine lv_if_ge (tgt := 37) hx hb dX11_reaches_31 (by decide) (fun c11 => ?_) (fun c11 => ?_)
      · replace ho := ite_t c11 ho
        refine lv_aload_n hx hb dX11_reaches_37 rfl (lv_at hl 1 rfl) ?_
        refine xGET_1101 C0 kw_592 hW dX11_reaches_38 ?_
        refine lv_iload_n hx hb dX11_reaches_41 rfl (lv_at hl 0 rfl) ?_
        refine lv_iload_n hx hb dX11_reaches_42 rfl (lv_at hl 3 rfl) ?_
        obtain ⟨q12, hc13, ho⟩ := bd_some ho
        refine bkZ C0.1 hW (runVX (As := [.int x10, .int a2]) (rest := []) C0 hW (c_x6_isReachedBy l _ t x10 a2 (r := q12.1) (t' := q12.2) hc13) cb_X11_X6_isReachedBy_163 6 6 rfl rfl rfl rfl rfl ⟨rfl, rfl⟩ ⟨Nat.le_of_ble_eq_true rfl, Nat.le_of_ble_eq_true rfl⟩ (Nat.le_of_ble_eq_true rfl) hl.1 dX11_reaches_43 ⟨Nat.le_of_ble_eq_true rfl, Nat.le_of_ble_eq_true rfl⟩) (fun z14 H locs hW => ?_)
        refine lv_if_eq (tgt := 53) hx hb dX11_reaches_46 (by decide) (fun c15 => ?_) (fun c15 => ?_)
        · replace ho := ite_t c15 ho
          refine lv_iconst (v := (0 : Int32)) hx hb dX11_reaches_53 (by decide) ?_
          cases ho
          exact rtI C0.1 hW dX11_reaches_54
        · replace ho := ite_f c15 ho
          refine lv_iconst (v := (1 : Int32)) hx hb dX11_reaches_49 (by decide) ?_
          refine lv_goto (tgt := 54) hx hb dX11_reaches_50 (by decide) ?_
          cases ho
          exact rtI C0.1 hW dX11_reaches_54
      · replace ho := ite_f c11 ho
        refine lv_bipush (v := (-3 : Int32)) hx hb dX11_reaches_34 (by decide) ?_
        cases ho
        exact rtI C0.1 hW dX11_reaches_36
    · replace ho := ite_f c8 ho
      refine lv_bipush (v := (-2 : Int32)) hx hb dX11_reaches_17 (by decide) ?_
      cases ho
      exact rtI C0.1 hW dX11_reaches_19
noncomputable def x8_rankSteps_B7 (v1 : Int32) (v2 : Int32) (t : St) : Option ((Int32 × St) ⊕ (St)) :=
  if (16 : Int32) ≤ v2 then (some (.inr t)) else (if ((v1 >>> (v2 &&& 31)) &&& (1 : Int32)) = (1 : Int32) then (gd (gI t 803) (gN t 801) (nm (sA t 801 (gI t 803) v2) (fun t5 : St => gd v2 (gN t5 802) (nm (sA t5 802 v2 (gI t5 803)) (fun t7 : St => nm (sI t7 803 ((gI t7 803) + (1 : Int32))) (fun t8 : St => nm (v2 + (1 : Int32)) (fun x9 : Int32 => some (.inl (x9, t8))))))))) else (nm (v2 + (1 : Int32)) (fun x3 : Int32 => some (.inl (x3, t)))))
theorem mm_x8_rankSteps_B7 (v1 : Int32) (v2 : Int32) (t : St) : MR (x8_rankSteps_B7 v1 v2 t) t (Sum.elim (fun (x : Int32 × St) => x.2) (fun (y : St) => y)) := by
  unfold x8_rankSteps_B7
  exact MR_ite (MR_some mle.rfl) (MR_ite (MR_gd (MR_nmS mle_sA (fun t5 ht5 => MR_gd (MR_nmS mle_sA (fun t7 ht7 => MR_nmS mle_sI (fun t8 ht8 => MR_nm (fun x9 _ => MR_some (mle.trans (mle.trans ht5 ht7) ht8)))))))) (MR_nm (fun x3 _ => MR_some mle.rfl)))
theorem mm_x8_rankSteps_L7 (v1 : Int32) (v2 : Int32) (t : St) : MR (lp (fun x => x8_rankSteps_B7 v1 x.1 x.2) (v2, t)) t (fun (y : St) => y) := MR_lp (p := (fun (x : Int32 × St) => x.2)) (q := (fun (y : St) => y)) (fun x => mm_x8_rankSteps_B7 v1 x.1 x.2) (v2, t)
noncomputable def x8_rankSteps (t : St) (a1 : Int32) : Option (St) :=
  nm (sI t 803 (0 : Int32)) (fun t10 : St => (lp (fun x => x8_rankSteps_B7 a1 x.1 x.2) ((0 : Int32), t10)).bind (fun y11 => some y11))
theorem mm_x8_rankSteps (t : St) (a1 : Int32) : MR (x8_rankSteps t a1) t (fun (a : St) => a) := by
  unfold x8_rankSteps
  exact MR_nmS mle_sI (fun t10 ht10 => MR_bind (mm_x8_rankSteps_L7 a1 (0 : Int32) t10) (fun y11 hm12 => MR_some (mle.trans ht10 hm12)))
set_option maxHeartbeats 4000000 in
set_option maxRecDepth 100000 in
theorem x8_rankSteps_L7 {p : Program} {l : Launch} {e : Env} {s : State} {m : MethodId} {args : Array Value} {below : List Frame} {meth : Method} {c : Code} {Q : State → Prop} {D : va_G} {cI cJ cZ cR : ClassId} {am gm : Nat → Nat} {st : Nat} {A : Nat → Prop} (C0 : cxX p s m args meth c cX8_rankSteps RX8 3 none D (tyX cI cJ cZ cR) st A) {v1 : Int32} {y : St} (hK0 : ∀ (H : Heap) (locs : List Loc) (ls : Array Slot), wl D A s (wX cI cJ cZ cR am gm y) H locs → lv_has ls 3 [(0, .ref (am 2008))] → W p l e (rmN 0 0) s m args below meth c H locs 0 0 Q (F0 m 58 ls [])) :
    ∀ (n : Nat) (v2 : Int32) (t : St), lpn (fun x => x8_rankSteps_B7 v1 x.1 x.2) n (v2, t) = some y → ∀ (H : Heap) (locs : List Loc) (ls : Array Slot), wl D A s (wX cI cJ cZ cR am gm t) H locs → lv_has ls 3 [(0, .ref (am 2008)), (1, .int v1), (2, .int v2)] → W p l e (rmN 0 0) s m args below meth c H locs 0 0 Q (F0 m 7 ls []) := by
  have hx := C0.1.1
  have hb := C0.1.2.1
  have hta := C0.1.2.2.2.2.2.1
  have hown := C0.1.2.2.2.2.1
  intro n
  induction n with
  | zero => intro _ _ h; cases h
  | succ n ih =>
    intro v2 t hrun H locs ls hW hl
    obtain ⟨o, ho, hrun⟩ := bd_some hrun
    unfold x8_rankSteps_B7 at ho
    refine lv_iload_n hx hb dX8_rankSteps_7 rfl (lv_at hl 2 rfl) ?_
    refine lv_bipush (v := (16 : Int32)) hx hb dX8_rankSteps_8 (by decide) ?_
    refine lv_icmp_ge (tgt := 58) hx hb dX8_rankSteps_10 (by decide) (fun c1 => ?_) (fun c1 => ?_)
    · replace ho := ite_t c1 ho
      cases ho
      cases hrun
      exact hK0 _ _ _ hW (lv_sub hl [0] rfl)
    · replace ho := ite_f c1 ho
      refine lv_iload_n hx hb dX8_rankSteps_13 rfl (lv_at hl 1 rfl) ?_
      refine lv_iload_n hx hb dX8_rankSteps_14 rfl (lv_at hl 2 rfl) ?_
      refine lv_ishr hx hb dX8_rankSteps_15 ?_
      refine lv_iconst (v := (1 : Int32)) hx hb dX8_rankSteps_16 (by decide) ?_
      refine lv_iand hx hb dX8_rankSteps_17 ?_
      refine lv_iconst (v := (1 : Int32)) hx hb dX8_rankSteps_18 (by decide) ?_
      refine lv_icmp_ne (tgt := 52) hx hb dX8_rankSteps_19 (by decide) (fun c2 => ?_) (fun c2 => ?_)
      · replace ho := ite_f c2 ho
        obtain ⟨x3, ex3, ho⟩ := nm_x ho
        refine lv_iinc (v := x3) (lv' := [(2, .int x3), (0, .ref (am 2008)), (1, .int v1)]) hx hb dX8_rankSteps_52 hl (k := 2) rfl (by rw [ex3]; rfl) (by decide) rfl (fun ls hl => ?_)
        clear ex3
        refine lv_goto (tgt := 7) hx hb dX8_rankSteps_55 (by decide) ?_
        cases ho
        exact ih _ _ hrun _ _ _ hW (lv_sub hl [1, 2, 0] rfl)
      · replace ho := ite_t c2 ho
        refine lv_aload_n hx hb dX8_rankSteps_22 rfl (lv_at hl 0 rfl) ?_
        refine xGET_801 C0 kw_270 hW dX8_rankSteps_23 ?_
        refine lv_aload_n hx hb dX8_rankSteps_26 rfl (lv_at hl 0 rfl) ?_
        refine xGET_803 C0 kw_274 hW dX8_rankSteps_27 ?_
        refine lv_iload_n hx hb dX8_rankSteps_30 rfl (lv_at hl 2 rfl) ?_
        obtain ⟨g4, ho⟩ := gd_some ho
        refine xST_801 C0 hW g4 dX8_rankSteps_31 (fun H locs hW => ?_)
        obtain ⟨t5, ho, hW⟩ := nm_w (P := fun t => wl D A s (wX cI cJ cZ cR am gm t) H locs) ho hW
        refine lv_aload_n hx hb dX8_rankSteps_32 rfl (lv_at hl 0 rfl) ?_
        refine xGET_802 C0 kw_272 hW dX8_rankSteps_33 ?_
        refine lv_iload_n hx hb dX8_rankSteps_36 rfl (lv_at hl 2 rfl) ?_
        refine lv_aload_n hx hb dX8_rankSteps_37 rfl (lv_at hl 0 rfl) ?_
        refine xGET_803 C0 kw_274 hW dX8_rankSteps_38 ?_
        obtain ⟨g6, ho⟩ := gd_some ho
        refine xST_802 C0 hW g6 dX8_rankSteps_41 (fun H locs hW => ?_)
        obtain ⟨t7, ho, hW⟩ := nm_w (P := fun t => wl D A s (wX cI cJ cZ cR am gm t) H locs) ho hW
        refine lv_aload_n hx hb dX8_rankSteps_42 rfl (lv_at hl 0 rfl) ?_
        refine lv_dup hx hb dX8_rankSteps_43 rfl ?_
        refine xGET_803 C0 kw_274 hW dX8_rankSteps_44 ?_
        refine lv_iconst (v := (1 : Int32)) hx hb dX8_rankSteps_47 (by decide) ?_
        refine lv_iadd hx hb dX8_rankSteps_48 ?_
        refine xPUT_803 C0 kw_274 hW dX8_rankSteps_49 (fun H locs hW => ?_)
        obtain ⟨t8, ho, hW⟩ := nm_w (P := fun t => wl D A s (wX cI cJ cZ cR am gm t) H locs) ho hW
        obtain ⟨x9, ex9, ho⟩ := nm_x ho
        refine lv_iinc (v := x9) (lv' := [(2, .int x9), (0, .ref (am 2008)), (1, .int v1)]) hx hb dX8_rankSteps_52 hl (k := 2) rfl (by rw [ex9]; rfl) (by decide) rfl (fun ls hl => ?_)
        clear ex9
        refine lv_goto (tgt := 7) hx hb dX8_rankSteps_55 (by decide) ?_
        cases ho
        exact ih _ _ hrun _ _ _ hW (lv_sub hl [1, 2, 0] rfl)
set_option maxHeartbeats 4000000 in
set_option maxRecDepth 100000 in
theorem c_x8_rankSteps (l : Launch) {D : va_G} {cI cJ cZ cR : ClassId} {am gm : Nat → Nat} {st : Nat} (sz : Nat) (t : St) (a1 : Int32) {t' : St} (ho : x8_rankSteps t a1 = some t') : Met l yX8_rankSteps (.code yX8_rankSteps cX8_rankSteps 3 none :: wsAll) (rmN 0 0) (va_Pc [.ref (am 2008), .int a1] (prX D (tyX cI cJ cZ cR) (wX cI cJ cZ cR am gm t) sz st)) (qV D (tyX cI cJ cZ cR) (wX cI cJ cZ cR am gm t') (va_A (wX cI cJ cZ cR am gm t) sz)) 0 0 (va_A (wX cI cJ cZ cR am gm t) sz) := by
  refine Met.ofW (cc := cX8_rankSteps) (maxL := 3) (ret := none) (by decide) rfl ?_
  intro p e s m args below meth c s₁ B hml hv
  obtain ⟨rfl, ⟨hsz, hP, hK, hD0⟩, hsx⟩ := hv
  have hx := B.exec
  have hb := B.bytes
  have hts := atoms_spec (ws := (.code yX8_rankSteps cX8_rankSteps 3 none :: wsAll)) B.pre
  have hta := fun w h => hts w (List.mem_cons_of_mem _ h)
  have hown : s.vm.findClass RX8 = some m.cls := findClass_of_methodNamed B.named
  have hlocks := B.notSynchronized
  subst hsz
  have hD := hD0.self (sz := s.heap.size)
  generalize hAe : va_A (wX cI cJ cZ cR am gm t) s.heap.size = A at hD ⊢
  have hA : ∀ q : Nat, s.heap.size ≤ q → A q := fun q h => by rw [← hAe]; exact Or.inr h
  have C0 : cxX p s m ([.ref (am 2008), .int a1].toArray) meth c cX8_rankSteps RX8 3 none D (tyX cI cJ cZ cR) st A := ⟨⟨hx, hb, B.returns, hml, hown, hta, hlocks, hK, hA⟩, by rw [← hAe]; exact hsx⟩
  have hW : wl D A s (wX cI cJ cZ cR am gm t) s.heap [] := ⟨hP, hD, va_S.rf⟩
  have hl := lv_entry [.ref (am 2008), .int a1] (n := 3) (Nat.le_of_ble_eq_true rfl)
  rw [lg_entry_eq]
  generalize (lg_sl [.ref (am 2008), .int a1] ++ List.replicate (3 - (lg_sl [.ref (am 2008), .int a1]).length) Slot.unset).toArray = ls at hl ⊢
  have hl : lv_has ls 3 [(0, .ref (am 2008)), (1, .int a1)] := hl
  unfold x8_rankSteps at ho
  refine lv_aload_n hx hb dX8_rankSteps_0 rfl (lv_at hl 0 rfl) ?_
  refine lv_iconst (v := (0 : Int32)) hx hb dX8_rankSteps_1 (by decide) ?_
  refine xPUT_803 C0 kw_274 hW dX8_rankSteps_2 (fun H locs hW => ?_)
  obtain ⟨t10, ho, hW⟩ := nm_w (P := fun t => wl D A s (wX cI cJ cZ cR am gm t) H locs) ho hW
  refine lv_iconst (v := (0 : Int32)) hx hb dX8_rankSteps_5 (by decide) ?_
  refine lv_istore_n (lv' := [(2, .int (0 : Int32)), (0, .ref (am 2008)), (1, .int a1)]) hx hb dX8_rankSteps_6 rfl hl (by decide) rfl (fun ls hl => ?_)
  obtain ⟨y11, hc13, ho⟩ := bd_some ho
  obtain ⟨ny11, hc13⟩ := lp_to hc13
  refine x8_rankSteps_L7 C0 ?_ ny11 _ _ hc13 _ _ _ hW (lv_sub hl [1, 2, 0] rfl)
  intro H locs ls hW hl
  cases ho
  exact rtV C0.1 hW dX8_rankSteps_58
noncomputable def x8_markNeeded_B2 (v1 : Int32) (t : St) : Option ((Int32 × St) ⊕ (St)) :=
  if (gI t 805) ≤ v1 then (some (.inr t)) else (gd v1 (gN t 810) (nm (sA t 810 v1 (vp_nar .boolean (0 : Int32))) (fun t3 : St => nm (v1 + (1 : Int32)) (fun x4 : Int32 => some (.inl (x4, t3))))))
theorem mm_x8_markNeeded_B2 (v1 : Int32) (t : St) : MR (x8_markNeeded_B2 v1 t) t (Sum.elim (fun (x : Int32 × St) => x.2) (fun (y : St) => y)) := by
  unfold x8_markNeeded_B2
  exact MR_ite (MR_some mle.rfl) (MR_gd (MR_nmS mle_sA (fun t3 ht3 => MR_nm (fun x4 _ => MR_some ht3))))
theorem mm_x8_markNeeded_L2 (v1 : Int32) (t : St) : MR (lp (fun x => x8_markNeeded_B2 x.1 x.2) (v1, t)) t (fun (y : St) => y) := MR_lp (p := (fun (x : Int32 × St) => x.2)) (q := (fun (y : St) => y)) (fun x => mm_x8_markNeeded_B2 x.1 x.2) (v1, t)
noncomputable def x8_markNeeded_J113 (t : St) (v1 : Int32) (v2 : Int32) (v3 : Int32) (v4 : Int32) : Option ((Int32 × St) ⊕ (St)) :=
  gd v4 (gN t 810) (nm (sA t 810 v4 (vp_nar .boolean (1 : Int32))) (fun t6 : St => nm (v3 + (1 : Int32)) (fun x7 : Int32 => some (.inl (x7, t6)))))
theorem mm_x8_markNeeded_J113 (t : St) (v1 : Int32) (v2 : Int32) (v3 : Int32) (v4 : Int32) : MR (x8_markNeeded_J113 t v1 v2 v3 v4) t (Sum.elim (fun (x : Int32 × St) => x.2) (fun (y : St) => y)) := by
  unfold x8_markNeeded_J113
  exact MR_gd (MR_nmS mle_sA (fun t6 ht6 => MR_nm (fun x7 _ => MR_some ht6)))
noncomputable def x8_markNeeded_B79 (v1 : Int32) (v2 : Int32) (v3 : Int32) (t : St) : Option ((Int32 × St) ⊕ (St)) :=
  if v2 ≤ v3 then (some (.inr t)) else ((x6_partOf t v1 v3).bind (fun q9 => gd q9 (gN t 810) (if (gA t 810 (q9).toNatClampNeg) = 0 then (gd q9 (gN t 811) (nm (sA t 811 q9 v1) (fun t14 : St => x8_markNeeded_J113 t14 v1 v2 v3 q9))) else (x8_markNeeded_J113 t v1 v2 v3 q9))))
theorem mm_x8_markNeeded_B79 (v1 : Int32) (v2 : Int32) (v3 : Int32) (t : St) : MR (x8_markNeeded_B79 v1 v2 v3 t) t (Sum.elim (fun (x : Int32 × St) => x.2) (fun (y : St) => y)) := by
  unfold x8_markNeeded_B79
  exact MR_ite (MR_some mle.rfl) (MR_bindn (fun q9 => MR_gd (MR_ite (MR_gd (MR_nmS mle_sA (fun t14 ht14 => MR_wk ht14 (mm_x8_markNeeded_J113 t14 v1 v2 v3 q9)))) (MR_wk mle.rfl (mm_x8_markNeeded_J113 t v1 v2 v3 q9)))))
theorem mm_x8_markNeeded_L79 (v1 : Int32) (v2 : Int32) (v3 : Int32) (t : St) : MR (lp (fun x => x8_markNeeded_B79 v1 v2 x.1 x.2) (v3, t)) t (fun (y : St) => y) := MR_lp (p := (fun (x : Int32 × St) => x.2)) (q := (fun (y : St) => y)) (fun x => mm_x8_markNeeded_B79 v1 v2 x.1 x.2) (v3, t)
noncomputable def x8_markNeeded_J76 (t : St) (v1 : Int32) (w0 : Int32) : Option ((Int32 × St) ⊕ (St)) :=
  (lp (fun x => x8_markNeeded_B79 v1 w0 x.1 x.2) ((0 : Int32), t)).bind (fun y15 => nm (v1 + (-1 : Int32)) (fun x18 : Int32 => some (.inl (x18, y15))))
theorem mm_x8_markNeeded_J76 (t : St) (v1 : Int32) (w0 : Int32) : MR (x8_markNeeded_J76 t v1 w0) t (Sum.elim (fun (x : Int32 × St) => x.2) (fun (y : St) => y)) := by
  unfold x8_markNeeded_J76
  exact MR_bind (mm_x8_markNeeded_L79 v1 w0 (0 : Int32) t) (fun y15 hm16 => MR_nm (fun x18 _ => MR_some hm16))
noncomputable def x8_markNeeded_J75 (t : St) (v1 : Int32) : Option ((Int32 × St) ⊕ (St)) :=
  x8_markNeeded_J76 t v1 (0 : Int32)
theorem mm_x8_markNeeded_J75 (t : St) (v1 : Int32) : MR (x8_markNeeded_J75 t v1) t (Sum.elim (fun (x : Int32 × St) => x.2) (fun (y : St) => y)) := by
  unfold x8_markNeeded_J75
  exact MR_wk mle.rfl (mm_x8_markNeeded_J76 t v1 (0 : Int32))
noncomputable def x8_markNeeded_B38 (v1 : Int32) (t : St) : Option ((Int32 × St) ⊕ (St)) :=
  if v1 < 0 then (some (.inr t)) else (gd v1 (gN t 810) (if (gA t 810 (v1).toNatClampNeg) = 0 then (x8_markNeeded_J75 t v1) else (gd v1 (gN t 603) (if (gA t 603 (v1).toNatClampNeg) = 0 then (x8_markNeeded_J75 t v1) else (gd v1 (gN t 604) (x8_markNeeded_J76 t v1 (gA t 604 (v1).toNatClampNeg)))))))
theorem mm_x8_markNeeded_B38 (v1 : Int32) (t : St) : MR (x8_markNeeded_B38 v1 t) t (Sum.elim (fun (x : Int32 × St) => x.2) (fun (y : St) => y)) := by
  unfold x8_markNeeded_B38
  exact MR_ite (MR_some mle.rfl) (MR_gd (MR_ite (MR_wk mle.rfl (mm_x8_markNeeded_J75 t v1)) (MR_gd (MR_ite (MR_wk mle.rfl (mm_x8_markNeeded_J75 t v1)) (MR_gd (MR_wk mle.rfl (mm_x8_markNeeded_J76 t v1 (gA t 604 (v1).toNatClampNeg))))))))
theorem mm_x8_markNeeded_L38 (v1 : Int32) (t : St) : MR (lp (fun x => x8_markNeeded_B38 x.1 x.2) (v1, t)) t (fun (y : St) => y) := MR_lp (p := (fun (x : Int32 × St) => x.2)) (q := (fun (y : St) => y)) (fun x => mm_x8_markNeeded_B38 x.1 x.2) (v1, t)
noncomputable def x8_markNeeded (t : St) : Option (St) :=
  (lp (fun x => x8_markNeeded_B2 x.1 x.2) ((0 : Int32), t)).bind (fun y25 => gd (gI y25 805) (gN y25 810) (nm (sA y25 810 (gI y25 805) (vp_nar .boolean (1 : Int32))) (fun t29 : St => nm (gI t29 805) (fun x30 : Int32 => (lp (fun x => x8_markNeeded_B38 x.1 x.2) (x30, t29)).bind (fun y31 => some y31)))))
theorem mm_x8_markNeeded (t : St) : MR (x8_markNeeded t) t (fun (a : St) => a) := by
  unfold x8_markNeeded
  exact MR_bind (mm_x8_markNeeded_L2 (0 : Int32) t) (fun y25 hm26 => MR_gd (MR_nmS mle_sA (fun t29 ht29 => MR_nm (fun x30 _ => MR_bind (mm_x8_markNeeded_L38 x30 t29) (fun y31 hm32 => MR_some (mle.trans (mle.trans hm26 ht29) hm32))))))
set_option maxHeartbeats 4000000 in
set_option maxRecDepth 100000 in
theorem x8_markNeeded_L2 {p : Program} {l : Launch} {e : Env} {s : State} {m : MethodId} {args : Array Value} {below : List Frame} {meth : Method} {c : Code} {Q : State → Prop} {D : va_G} {cI cJ cZ cR : ClassId} {am gm : Nat → Nat} {st : Nat} {A : Nat → Prop} (C0 : cxX p s m args meth c cX8_markNeeded RX8 5 none D (tyX cI cJ cZ cR) st A) {y : St} (hK0 : ∀ (H : Heap) (locs : List Loc) (ls : Array Slot), wl D A s (wX cI cJ cZ cR am gm y) H locs → lv_has ls 5 [(0, .ref (am 2008))] → W p l e (rmN 1 22) s m args below meth c H locs 0 0 Q (F0 m 23 ls [])) :
    ∀ (n : Nat) (v1 : Int32) (t : St), lpn (fun x => x8_markNeeded_B2 x.1 x.2) n (v1, t) = some y → ∀ (H : Heap) (locs : List Loc) (ls : Array Slot), wl D A s (wX cI cJ cZ cR am gm t) H locs → lv_has ls 5 [(0, .ref (am 2008)), (1, .int v1)] → W p l e (rmN 1 22) s m args below meth c H locs 0 0 Q (F0 m 2 ls []) := by
  have hx := C0.1.1
  have hb := C0.1.2.1
  have hta := C0.1.2.2.2.2.2.1
  have hown := C0.1.2.2.2.2.1
  intro n
  induction n with
  | zero => intro _ _ h; cases h
  | succ n ih =>
    intro v1 t hrun H locs ls hW hl
    obtain ⟨o, ho, hrun⟩ := bd_some hrun
    unfold x8_markNeeded_B2 at ho
    refine lv_iload_n hx hb dX8_markNeeded_2 rfl (lv_at hl 1 rfl) ?_
    refine lv_aload_n hx hb dX8_markNeeded_3 rfl (lv_at hl 0 rfl) ?_
    refine xGET_805 C0 kw_280 hW dX8_markNeeded_4 ?_
    refine lv_icmp_ge (tgt := 23) hx hb dX8_markNeeded_7 (by decide) (fun c1 => ?_) (fun c1 => ?_)
    · replace ho := ite_t c1 ho
      cases ho
      cases hrun
      exact hK0 _ _ _ hW (lv_sub hl [0] rfl)
    · replace ho := ite_f c1 ho
      refine lv_aload_n hx hb dX8_markNeeded_10 rfl (lv_at hl 0 rfl) ?_
      refine xGET_810 C0 kw_287 hW dX8_markNeeded_11 ?_
      refine lv_iload_n hx hb dX8_markNeeded_14 rfl (lv_at hl 1 rfl) ?_
      refine lv_iconst (v := (0 : Int32)) hx hb dX8_markNeeded_15 (by decide) ?_
      obtain ⟨g2, ho⟩ := gd_some ho
      refine xST_810 C0 hW g2 dX8_markNeeded_16 (fun H locs hW => ?_)
      obtain ⟨t3, ho, hW⟩ := nm_w (P := fun t => wl D A s (wX cI cJ cZ cR am gm t) H locs) ho hW
      obtain ⟨x4, ex4, ho⟩ := nm_x ho
      refine lv_iinc (v := x4) (lv' := [(1, .int x4), (0, .ref (am 2008))]) hx hb dX8_markNeeded_17 hl (k := 1) rfl (by rw [ex4]; rfl) (by decide) rfl (fun ls hl => ?_)
      clear ex4
      refine lv_goto (tgt := 2) hx hb dX8_markNeeded_20 (by decide) ?_
      cases ho
      exact ih _ _ hrun _ _ _ hW (lv_sub hl [1, 0] rfl)
set_option maxHeartbeats 4000000 in
set_option maxRecDepth 100000 in
theorem x8_markNeeded_L79 {p : Program} {l : Launch} {e : Env} {s : State} {m : MethodId} {args : Array Value} {below : List Frame} {meth : Method} {c : Code} {Q : State → Prop} {D : va_G} {cI cJ cZ cR : ClassId} {am gm : Nat → Nat} {st : Nat} {A : Nat → Prop} (C0 : cxX p s m args meth c cX8_markNeeded RX8 5 none D (tyX cI cJ cZ cR) st A) {v1 : Int32} {v2 : Int32} {y : St} (hK0 : ∀ (H : Heap) (locs : List Loc) (ls : Array Slot), wl D A s (wX cI cJ cZ cR am gm y) H locs → lv_has ls 5 [(0, .ref (am 2008)), (1, .int v1)] → W p l e (rmN 1 22) s m args below meth c H locs 0 0 Q (F0 m 127 ls [])) :
    ∀ (n : Nat) (v3 : Int32) (t : St), lpn (fun x => x8_markNeeded_B79 v1 v2 x.1 x.2) n (v3, t) = some y → ∀ (H : Heap) (locs : List Loc) (ls : Array Slot), wl D A s (wX cI cJ cZ cR am gm t) H locs → lv_has ls 5 [(0, .ref (am 2008)), (1, .int v1), (2, .int v2), (3, .int v3)] → W p l e (rmN 1 22) s m args below meth c H locs 0 0 Q (F0 m 79 ls []) := by
  have hx := C0.1.1
  have hb := C0.1.2.1
  have hta := C0.1.2.2.2.2.2.1
  have hown := C0.1.2.2.2.2.1
  intro n
  induction n with
  | zero => intro _ _ h; cases h
  | succ n ih =>
    intro v3 t hrun H locs ls hW hl
    obtain ⟨o, ho, hrun⟩ := bd_some hrun
    have J113 : ∀ (t : St) (v3 : Int32) (v4 : Int32) (_ : x8_markNeeded_J113 t v1 v2 v3 v4 = some o) (H : Heap) (locs : List Loc) (ls : Array Slot), wl D A s (wX cI cJ cZ cR am gm t) H locs → lv_has ls 5 [(0, .ref (am 2008)), (1, .int v1), (2, .int v2), (3, .int v3), (4, .int v4)] → W p l e (rmN 1 22) s m args below meth c H locs 0 0 Q (F0 m 113 ls []) := by
      intro t v3 v4 ho H locs ls hW hl
      unfold x8_markNeeded_J113 at ho
      refine lv_aload_n hx hb dX8_markNeeded_113 rfl (lv_at hl 0 rfl) ?_
      refine xGET_810 C0 kw_287 hW dX8_markNeeded_114 ?_
      refine lv_iload hx hb dX8_markNeeded_117 (lv_at hl 4 rfl) ?_
      refine lv_iconst (v := (1 : Int32)) hx hb dX8_markNeeded_119 (by decide) ?_
      obtain ⟨g5, ho⟩ := gd_some ho
      refine xST_810 C0 hW g5 dX8_markNeeded_120 (fun H locs hW => ?_)
      obtain ⟨t6, ho, hW⟩ := nm_w (P := fun t => wl D A s (wX cI cJ cZ cR am gm t) H locs) ho hW
      obtain ⟨x7, ex7, ho⟩ := nm_x ho
      refine lv_iinc (v := x7) (lv' := [(3, .int x7), (0, .ref (am 2008)), (1, .int v1), (2, .int v2), (4, .int v4)]) hx hb dX8_markNeeded_121 hl (k := 3) rfl (by rw [ex7]; rfl) (by decide) rfl (fun ls hl => ?_)
      clear ex7
      refine lv_goto (tgt := 79) hx hb dX8_markNeeded_124 (by decide) ?_
      cases ho
      exact ih _ _ hrun _ _ _ hW (lv_sub hl [1, 2, 3, 0] rfl)
    unfold x8_markNeeded_B79 at ho
    refine lv_iload_n hx hb dX8_markNeeded_79 rfl (lv_at hl 3 rfl) ?_
    refine lv_iload_n hx hb dX8_markNeeded_80 rfl (lv_at hl 2 rfl) ?_
    refine lv_icmp_ge (tgt := 127) hx hb dX8_markNeeded_81 (by decide) (fun c8 => ?_) (fun c8 => ?_)
    · replace ho := ite_t c8 ho
      cases ho
      cases hrun
      exact hK0 _ _ _ hW (lv_sub hl [0, 1] rfl)
    · replace ho := ite_f c8 ho
      refine lv_aload_n hx hb dX8_markNeeded_84 rfl (lv_at hl 0 rfl) ?_
      refine xGET_800 C0 kw_269 hW dX8_markNeeded_85 ?_
      refine lv_iload_n hx hb dX8_markNeeded_88 rfl (lv_at hl 1 rfl) ?_
      refine lv_iload_n hx hb dX8_markNeeded_89 rfl (lv_at hl 3 rfl) ?_
      obtain ⟨q9, hc10, ho⟩ := bd_some ho
      refine bkI C0.1 hW (runVX (As := [.int v1, .int v3]) (rest := []) C0 hW (c_x6_partOf l _ t v1 v3 (r := q9) hc10) cb_X8_X6_partOf_107 6 6 rfl rfl rfl rfl rfl ⟨rfl, rfl⟩ ⟨Nat.le_of_ble_eq_true rfl, Nat.le_of_ble_eq_true rfl⟩ (Nat.le_of_ble_eq_true rfl) hl.1 dX8_markNeeded_90 ⟨Nat.le_of_ble_eq_true rfl, Nat.le_of_ble_eq_true rfl⟩) (fun H locs hW => ?_)
      refine lv_istore (lv' := [(4, .int q9), (0, .ref (am 2008)), (1, .int v1), (2, .int v2), (3, .int v3)]) hx hb dX8_markNeeded_93 hl (by decide) rfl (fun ls hl => ?_)
      refine lv_aload_n hx hb dX8_markNeeded_95 rfl (lv_at hl 1 rfl) ?_
      refine xGET_810 C0 kw_287 hW dX8_markNeeded_96 ?_
      refine lv_iload hx hb dX8_markNeeded_99 (lv_at hl 0 rfl) ?_
      obtain ⟨g11, ho⟩ := gd_some ho
      refine xLD_810 C0 hW g11 dX8_markNeeded_101 ?_
      refine lv_if_ne (tgt := 113) hx hb dX8_markNeeded_102 (by decide) (fun c12 => ?_) (fun c12 => ?_)
      · replace ho := ite_f c12 ho
        exact J113 _ _ _ ho _ _ _ hW (lv_sub hl [1, 2, 3, 4, 0] rfl)
      · replace ho := ite_t c12 ho
        refine lv_aload_n hx hb dX8_markNeeded_105 rfl (lv_at hl 1 rfl) ?_
        refine xGET_811 C0 kw_288 hW dX8_markNeeded_106 ?_
        refine lv_iload hx hb dX8_markNeeded_109 (lv_at hl 0 rfl) ?_
        refine lv_iload_n hx hb dX8_markNeeded_111 rfl (lv_at hl 2 rfl) ?_
        obtain ⟨g13, ho⟩ := gd_some ho
        refine xST_811 C0 hW g13 dX8_markNeeded_112 (fun H locs hW => ?_)
        obtain ⟨t14, ho, hW⟩ := nm_w (P := fun t => wl D A s (wX cI cJ cZ cR am gm t) H locs) ho hW
        exact J113 _ _ _ ho _ _ _ hW (lv_sub hl [1, 2, 3, 4, 0] rfl)
set_option maxHeartbeats 4000000 in
set_option maxRecDepth 100000 in
theorem x8_markNeeded_L38 {p : Program} {l : Launch} {e : Env} {s : State} {m : MethodId} {args : Array Value} {below : List Frame} {meth : Method} {c : Code} {Q : State → Prop} {D : va_G} {cI cJ cZ cR : ClassId} {am gm : Nat → Nat} {st : Nat} {A : Nat → Prop} (C0 : cxX p s m args meth c cX8_markNeeded RX8 5 none D (tyX cI cJ cZ cR) st A) {y : St} (hK0 : ∀ (H : Heap) (locs : List Loc) (ls : Array Slot), wl D A s (wX cI cJ cZ cR am gm y) H locs → lv_has ls 5 [(0, .ref (am 2008))] → W p l e (rmN 1 22) s m args below meth c H locs 0 0 Q (F0 m 133 ls [])) :
    ∀ (n : Nat) (v1 : Int32) (t : St), lpn (fun x => x8_markNeeded_B38 x.1 x.2) n (v1, t) = some y → ∀ (H : Heap) (locs : List Loc) (ls : Array Slot), wl D A s (wX cI cJ cZ cR am gm t) H locs → lv_has ls 5 [(0, .ref (am 2008)), (1, .int v1)] → W p l e (rmN 1 22) s m args below meth c H locs 0 0 Q (F0 m 38 ls []) := by
  have hx := C0.1.1
  have hb := C0.1.2.1
  have hta := C0.1.2.2.2.2.2.1
  have hown := C0.1.2.2.2.2.1
  intro n
  induction n with
  | zero => intro _ _ h; cases h
  | succ n ih =>
    intro v1 t hrun H locs ls hW hl
    obtain ⟨o, ho, hrun⟩ := bd_some hrun
    have J76 : ∀ (t : St) (v1 : Int32) (w0 : Int32) (_ : x8_markNeeded_J76 t v1 w0 = some o) (H : Heap) (locs : List Loc) (ls : Array Slot), wl D A s (wX cI cJ cZ cR am gm t) H locs → lv_has ls 5 [(0, .ref (am 2008)), (1, .int v1)] → W p l e (rmN 1 22) s m args below meth c H locs 0 0 Q (F0 m 76 ls [.int w0]) := by
      intro t v1 w0 ho H locs ls hW hl
      unfold x8_markNeeded_J76 at ho
      refine lv_istore_n (lv' := [(2, .int w0), (0, .ref (am 2008)), (1, .int v1)]) hx hb dX8_markNeeded_76 rfl hl (by decide) rfl (fun ls hl => ?_)
      refine lv_iconst (v := (0 : Int32)) hx hb dX8_markNeeded_77 (by decide) ?_
      refine lv_istore_n (lv' := [(3, .int (0 : Int32)), (2, .int w0), (0, .ref (am 2008)), (1, .int v1)]) hx hb dX8_markNeeded_78 rfl hl (by decide) rfl (fun ls hl => ?_)
      obtain ⟨y15, hc17, ho⟩ := bd_some ho
      obtain ⟨ny15, hc17⟩ := lp_to hc17
      refine x8_markNeeded_L79 C0 ?_ ny15 _ _ hc17 _ _ _ hW (lv_sub hl [2, 3, 1, 0] rfl)
      intro H locs ls hW hl
      obtain ⟨x18, ex18, ho⟩ := nm_x ho
      refine lv_iinc (v := x18) (lv' := [(1, .int x18), (0, .ref (am 2008))]) hx hb dX8_markNeeded_127 hl (k := 1) rfl (by rw [ex18]; rfl) (by decide) rfl (fun ls hl => ?_)
      clear ex18
      refine lv_goto (tgt := 38) hx hb dX8_markNeeded_130 (by decide) ?_
      cases ho
      exact ih _ _ hrun _ _ _ hW (lv_sub hl [1, 0] rfl)
    have J75 : ∀ (t : St) (v1 : Int32) (_ : x8_markNeeded_J75 t v1 = some o) (H : Heap) (locs : List Loc) (ls : Array Slot), wl D A s (wX cI cJ cZ cR am gm t) H locs → lv_has ls 5 [(0, .ref (am 2008)), (1, .int v1)] → W p l e (rmN 1 22) s m args below meth c H locs 0 0 Q (F0 m 75 ls []) := by
      intro t v1 ho H locs ls hW hl
      unfold x8_markNeeded_J75 at ho
      refine lv_iconst (v := (0 : Int32)) hx hb dX8_markNeeded_75 (by decide) ?_
      exact J76 _ _ _ ho _ _ _ hW (lv_sub hl [0, 1] rfl)
    unfold x8_markNeeded_B38 at ho
    refine lv_iload_n hx hb dX8_markNeeded_38 rfl (lv_at hl 1 rfl) ?_
    refine lv_if_lt (tgt := 133) hx hb dX8_markNeeded_39 (by decide) (fun c19 => ?_) (fun c19 => ?_)
    · replace ho := ite_t c19 ho
      cases ho
      cases hrun
      exact hK0 _ _ _ hW (lv_sub hl [0] rfl)
    · replace ho := ite_f c19 ho
      refine lv_aload_n hx hb dX8_markNeeded_42 rfl (lv_at hl 0 rfl) ?_
      refine xGET_810 C0 kw_287 hW dX8_markNeeded_43 ?_
      refine lv_iload_n hx hb dX8_markNeeded_46 rfl (lv_at hl 1 rfl) ?_
      obtain ⟨g20, ho⟩ := gd_some ho
      refine xLD_810 C0 hW g20 dX8_markNeeded_47 ?_
      refine lv_if_eq (tgt := 75) hx hb dX8_markNeeded_48 (by decide) (fun c21 => ?_) (fun c21 => ?_)
      · replace ho := ite_t c21 ho
        exact J75 _ _ ho _ _ _ hW (lv_sub hl [0, 1] rfl)
      · replace ho := ite_f c21 ho
        refine lv_aload_n hx hb dX8_markNeeded_51 rfl (lv_at hl 0 rfl) ?_
        refine xGET_800 C0 kw_269 hW dX8_markNeeded_52 ?_
        refine xGET_603 C0 kw_187 hW dX8_markNeeded_55 ?_
        refine lv_iload_n hx hb dX8_markNeeded_58 rfl (lv_at hl 1 rfl) ?_
        obtain ⟨g22, ho⟩ := gd_some ho
        refine xLD_603 C0 hW g22 dX8_markNeeded_59 ?_
        refine lv_if_eq (tgt := 75) hx hb dX8_markNeeded_60 (by decide) (fun c23 => ?_) (fun c23 => ?_)
        · replace ho := ite_t c23 ho
          exact J75 _ _ ho _ _ _ hW (lv_sub hl [0, 1] rfl)
        · replace ho := ite_f c23 ho
          refine lv_aload_n hx hb dX8_markNeeded_63 rfl (lv_at hl 0 rfl) ?_
          refine xGET_800 C0 kw_269 hW dX8_markNeeded_64 ?_
          refine xGET_604 C0 kw_191 hW dX8_markNeeded_67 ?_
          refine lv_iload_n hx hb dX8_markNeeded_70 rfl (lv_at hl 1 rfl) ?_
          obtain ⟨g24, ho⟩ := gd_some ho
          refine xLD_604 C0 hW g24 dX8_markNeeded_71 ?_
          refine lv_goto (tgt := 76) hx hb dX8_markNeeded_72 (by decide) ?_
          exact J76 _ _ _ ho _ _ _ hW (lv_sub hl [0, 1] rfl)
set_option maxHeartbeats 4000000 in
set_option maxRecDepth 100000 in
theorem c_x8_markNeeded (l : Launch) {D : va_G} {cI cJ cZ cR : ClassId} {am gm : Nat → Nat} {st : Nat} (sz : Nat) (t : St) {t' : St} (ho : x8_markNeeded t = some t') : Met l yX8_markNeeded (.code yX8_markNeeded cX8_markNeeded 5 none :: wsAll) (rmN 1 22) (va_Pc [.ref (am 2008)] (prX D (tyX cI cJ cZ cR) (wX cI cJ cZ cR am gm t) sz st)) (qV D (tyX cI cJ cZ cR) (wX cI cJ cZ cR am gm t') (va_A (wX cI cJ cZ cR am gm t) sz)) 0 0 (va_A (wX cI cJ cZ cR am gm t) sz) := by
  refine Met.ofW (cc := cX8_markNeeded) (maxL := 5) (ret := none) (by decide) rfl ?_
  intro p e s m args below meth c s₁ B hml hv
  obtain ⟨rfl, ⟨hsz, hP, hK, hD0⟩, hsx⟩ := hv
  have hx := B.exec
  have hb := B.bytes
  have hts := atoms_spec (ws := (.code yX8_markNeeded cX8_markNeeded 5 none :: wsAll)) B.pre
  have hta := fun w h => hts w (List.mem_cons_of_mem _ h)
  have hown : s.vm.findClass RX8 = some m.cls := findClass_of_methodNamed B.named
  have hlocks := B.notSynchronized
  subst hsz
  have hD := hD0.self (sz := s.heap.size)
  generalize hAe : va_A (wX cI cJ cZ cR am gm t) s.heap.size = A at hD ⊢
  have hA : ∀ q : Nat, s.heap.size ≤ q → A q := fun q h => by rw [← hAe]; exact Or.inr h
  have C0 : cxX p s m ([.ref (am 2008)].toArray) meth c cX8_markNeeded RX8 5 none D (tyX cI cJ cZ cR) st A := ⟨⟨hx, hb, B.returns, hml, hown, hta, hlocks, hK, hA⟩, by rw [← hAe]; exact hsx⟩
  have hW : wl D A s (wX cI cJ cZ cR am gm t) s.heap [] := ⟨hP, hD, va_S.rf⟩
  have hl := lv_entry [.ref (am 2008)] (n := 5) (Nat.le_of_ble_eq_true rfl)
  rw [lg_entry_eq]
  generalize (lg_sl [.ref (am 2008)] ++ List.replicate (5 - (lg_sl [.ref (am 2008)]).length) Slot.unset).toArray = ls at hl ⊢
  have hl : lv_has ls 5 [(0, .ref (am 2008))] := hl
  unfold x8_markNeeded at ho
  refine lv_iconst (v := (0 : Int32)) hx hb dX8_markNeeded_0 (by decide) ?_
  refine lv_istore_n (lv' := [(1, .int (0 : Int32)), (0, .ref (am 2008))]) hx hb dX8_markNeeded_1 rfl hl (by decide) rfl (fun ls hl => ?_)
  obtain ⟨y25, hc27, ho⟩ := bd_some ho
  obtain ⟨ny25, hc27⟩ := lp_to hc27
  refine x8_markNeeded_L2 C0 ?_ ny25 _ _ hc27 _ _ _ hW (lv_sub hl [1, 0] rfl)
  intro H locs ls hW hl
  refine lv_aload_n hx hb dX8_markNeeded_23 rfl (lv_at hl 0 rfl) ?_
  refine xGET_810 C0 kw_287 hW dX8_markNeeded_24 ?_
  refine lv_aload_n hx hb dX8_markNeeded_27 rfl (lv_at hl 0 rfl) ?_
  refine xGET_805 C0 kw_280 hW dX8_markNeeded_28 ?_
  refine lv_iconst (v := (1 : Int32)) hx hb dX8_markNeeded_31 (by decide) ?_
  obtain ⟨g28, ho⟩ := gd_some ho
  refine xST_810 C0 hW g28 dX8_markNeeded_32 (fun H locs hW => ?_)
  obtain ⟨t29, ho, hW⟩ := nm_w (P := fun t => wl D A s (wX cI cJ cZ cR am gm t) H locs) ho hW
  refine lv_aload_n hx hb dX8_markNeeded_33 rfl (lv_at hl 0 rfl) ?_
  refine xGET_805 C0 kw_280 hW dX8_markNeeded_34 ?_
  refine lv_nmi ho (fun x30 ho => ?_)
  refine lv_istore_n (lv' := [(1, .int x30), (0, .ref (am 2008))]) hx hb dX8_markNeeded_37 rfl hl (by decide) rfl (fun ls hl => ?_)
  obtain ⟨y31, hc33, ho⟩ := bd_some ho
  obtain ⟨ny31, hc33⟩ := lp_to hc33
  refine x8_markNeeded_L38 C0 ?_ ny31 _ _ hc33 _ _ _ hW (lv_sub hl [1, 0] rfl)
  intro H locs ls hW hl
  cases ho
  exact rtV C0.1 hW dX8_markNeeded_133
