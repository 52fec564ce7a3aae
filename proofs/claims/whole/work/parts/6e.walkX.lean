noncomputable def x0_work_B56 (v1 : Int32) (t : St) : Option ((Int32 × St) ⊕ (St)) :=
  if (gI t 3) ≤ v1 then (some (.inr t)) else (gd v1 (gN t 11) (gd v1 (gN t 10) (gd v1 (gN t 9) (gd (gA t 9 (v1).toNatClampNeg) (gN t 14) ((x2_blend_12 t (v1 * (gI t 6)) ((gA t 11 (v1).toNatClampNeg) * (gI t 6)) ((gA t 10 (v1).toNatClampNeg) * (gI t 6)) (gA t 14 ((gA t 9 (v1).toNatClampNeg)).toNatClampNeg) (gI t 6)).bind (fun q6 => nm (v1 + (1 : Int32)) (fun x8 : Int32 => some (.inl (x8, q6)))))))))
theorem mm_x0_work_B56 (v1 : Int32) (t : St) : MR (x0_work_B56 v1 t) t (Sum.elim (fun (x : Int32 × St) => x.2) (fun (y : St) => y)) := by
  unfold x0_work_B56
  exact MR_ite (MR_some mle.rfl) (MR_gd (MR_gd (MR_gd (MR_gd (MR_bind (mm_x2_blend_12 t (v1 * (gI t 6)) ((gA t 11 (v1).toNatClampNeg) * (gI t 6)) ((gA t 10 (v1).toNatClampNeg) * (gI t 6)) (gA t 14 ((gA t 9 (v1).toNatClampNeg)).toNatClampNeg) (gI t 6)) (fun q6 hq6 => MR_nm (fun x8 _ => MR_some hq6)))))))
theorem mm_x0_work_L56 (v1 : Int32) (t : St) : MR (lp (fun x => x0_work_B56 x.1 x.2) (v1, t)) t (fun (y : St) => y) := MR_lp (p := (fun (x : Int32 × St) => x.2)) (q := (fun (y : St) => y)) (fun x => mm_x0_work_B56 x.1 x.2) (v1, t)
noncomputable def x0_work_J20 (t : St) : Option (Int32 × St) :=
  (x2_wipe_12 t (0 : Int32) (gI t 6)).bind (fun q9 => (x2_putPower_12 q9 (gI q9 6) (gI q9 6) (gI q9 803)).bind (fun q11 => (lp (fun x => x0_work_B56 x.1 x.2) ((2 : Int32), q11)).bind (fun y13 => some (((gI y13 4) * (gI y13 6)), y13))))
theorem mm_x0_work_J20 (t : St) : MR (x0_work_J20 t) t (fun (a : Int32 × St) => a.2) := by
  unfold x0_work_J20
  exact MR_bind (mm_x2_wipe_12 t (0 : Int32) (gI t 6)) (fun q9 hq9 => MR_bind (mm_x2_putPower_12 q9 (gI q9 6) (gI q9 6) (gI q9 803)) (fun q11 hq11 => MR_bind (mm_x0_work_L56 (2 : Int32) q11) (fun y13 hm14 => MR_some (mle.trans (mle.trans hq9 hq11) hm14))))
noncomputable def x0_work (t0 : St) : Option (Int32 × St) :=
  grw t0 12 ((gI t0 3) * (gI t0 6)) (fun t16 : St => x0_work_J20 t16)
theorem mm_x0_work (t0 : St) : MR (x0_work t0) t0 (fun (a : Int32 × St) => a.2) := by
  unfold x0_work
  exact MR_grw (fun t16 ht16 => MR_wk ht16 (mm_x0_work_J20 t16))
set_option maxHeartbeats 4000000 in
set_option maxRecDepth 100000 in
theorem x0_work_L56 {p : Program} {l : Launch} {e : Env} {s : State} {m : MethodId} {args : Array Value} {below : List Frame} {meth : Method} {c : Code} {Q : State → Prop} {D : va_G} {cI cJ cZ cR : ClassId} {am gm : Nat → Nat} {st : Nat} {A : Nat → Prop} (C0 : cxX p s m args meth c cX0_work RX0 2 (some .int) D (tyX cI cJ cZ cR) st A) {t0 t' : St} {cells slots : Nat} (hR : cells ≤ mC t0 t' ∧ slots ≤ mS t0 t') {y : St} (hK0 : ∀ (H : Heap) (locs : List Loc) (ls : Array Slot), wl D A s (wX cI cJ cZ cR am gm y) H locs → lv_has ls 2 [(0, .ref (am 1000))] → W p l e (rmA 2 50 t0 t') s m args below meth c H locs cells slots Q (F0 m 120 ls [])) :
    ∀ (n : Nat) (v1 : Int32) (t : St), lpn (fun x => x0_work_B56 x.1 x.2) n (v1, t) = some y → ∀ (H : Heap) (locs : List Loc) (ls : Array Slot), wl D A s (wX cI cJ cZ cR am gm t) H locs → lv_has ls 2 [(0, .ref (am 1000)), (1, .int v1)] → W p l e (rmA 2 50 t0 t') s m args below meth c H locs cells slots Q (F0 m 56 ls []) := by
  have hx := C0.1.1
  have hb := C0.1.2.1
  have hta := C0.1.2.2.2.2.2.1
  have hown := C0.1.2.2.2.2.1
  intro n
  induction n with
  | zero => intro _ _ h; cases h
  | succ n ih =>
    intro v1 t hrun H locs ls hW hl
    obtain ⟨o, ho, hrun⟩ := bd_some hrun
    unfold x0_work_B56 at ho
    refine lv_iload_n hx hb dX0_work_56 rfl (lv_at hl 1 rfl) ?_
    refine lv_aload_n hx hb dX0_work_57 rfl (lv_at hl 0 rfl) ?_
    refine xGET_3 C0 kw_385 hW dX0_work_58 ?_
    refine lv_icmp_ge (tgt := 120) hx hb dX0_work_61 (by decide) (fun c1 => ?_) (fun c1 => ?_)
    · replace ho := ite_t c1 ho
      cases ho
      cases hrun
      exact hK0 _ _ _ hW (lv_sub hl [0] rfl)
    · replace ho := ite_f c1 ho
      refine lv_aload_n hx hb dX0_work_64 rfl (lv_at hl 0 rfl) ?_
      refine xGET_12 C0 kw_396 hW dX0_work_65 ?_
      refine lv_iload_n hx hb dX0_work_68 rfl (lv_at hl 1 rfl) ?_
      refine lv_aload_n hx hb dX0_work_69 rfl (lv_at hl 0 rfl) ?_
      refine xGET_6 C0 kw_388 hW dX0_work_70 ?_
      refine lv_imul hx hb dX0_work_73 ?_
      refine lv_aload_n hx hb dX0_work_74 rfl (lv_at hl 0 rfl) ?_
      refine xGET_11 C0 kw_395 hW dX0_work_75 ?_
      refine lv_iload_n hx hb dX0_work_78 rfl (lv_at hl 1 rfl) ?_
      obtain ⟨g2, ho⟩ := gd_some ho
      refine xLD_11 C0 hW g2 dX0_work_79 ?_
      refine lv_aload_n hx hb dX0_work_80 rfl (lv_at hl 0 rfl) ?_
      refine xGET_6 C0 kw_388 hW dX0_work_81 ?_
      refine lv_imul hx hb dX0_work_84 ?_
      refine lv_aload_n hx hb dX0_work_85 rfl (lv_at hl 0 rfl) ?_
      refine xGET_10 C0 kw_394 hW dX0_work_86 ?_
      refine lv_iload_n hx hb dX0_work_89 rfl (lv_at hl 1 rfl) ?_
      obtain ⟨g3, ho⟩ := gd_some ho
      refine xLD_10 C0 hW g3 dX0_work_90 ?_
      refine lv_aload_n hx hb dX0_work_91 rfl (lv_at hl 0 rfl) ?_
      refine xGET_6 C0 kw_388 hW dX0_work_92 ?_
      refine lv_imul hx hb dX0_work_95 ?_
      refine lv_aload_n hx hb dX0_work_96 rfl (lv_at hl 0 rfl) ?_
      refine xGET_14 C0 kw_401 hW dX0_work_97 ?_
      refine lv_aload_n hx hb dX0_work_100 rfl (lv_at hl 0 rfl) ?_
      refine xGET_9 C0 kw_393 hW dX0_work_101 ?_
      refine lv_iload_n hx hb dX0_work_104 rfl (lv_at hl 1 rfl) ?_
      obtain ⟨g4, ho⟩ := gd_some ho
      refine xLD_9 C0 hW g4 dX0_work_105 ?_
      obtain ⟨g5, ho⟩ := gd_some ho
      refine xLD_14 C0 hW g5 dX0_work_106 ?_
      refine lv_aload_n hx hb dX0_work_107 rfl (lv_at hl 0 rfl) ?_
      refine xGET_6 C0 kw_388 hW dX0_work_108 ?_
      obtain ⟨q6, hc7, ho⟩ := bd_some ho
      have hq6 := mm_x2_blend_12 t (v1 * (gI t 6)) ((gA t 11 (v1).toNatClampNeg) * (gI t 6)) ((gA t 10 (v1).toNatClampNeg) * (gI t 6)) (gA t 14 ((gA t 9 (v1).toNatClampNeg)).toNatClampNeg) (gI t 6) _ hc7
      refine bkV C0.1 hW (runSX (As := [.ref (gm 12), .int (v1 * (gI t 6)), .int ((gA t 11 (v1).toNatClampNeg) * (gI t 6)), .int ((gA t 10 (v1).toNatClampNeg) * (gI t 6)), .int (gA t 14 ((gA t 9 (v1).toNatClampNeg)).toNatClampNeg), .int (gI t 6)]) (rest := []) C0 hW (c_x2_blend_12 l _ t (v1 * (gI t 6)) ((gA t 11 (v1).toNatClampNeg) * (gI t 6)) ((gA t 10 (v1).toNatClampNeg) * (gI t 6)) (gA t 14 ((gA t 9 (v1).toNatClampNeg)).toNatClampNeg) (gI t 6) (t' := q6) hc7) cb_X0_X2_blend_116 rfl rfl ⟨rfl, rfl⟩ ⟨Nat.le_of_ble_eq_true rfl, Nat.le_of_ble_eq_true rfl⟩ (Nat.le_of_ble_eq_true rfl) hl.1 dX0_work_111 ⟨hR.1, hR.2⟩) (fun H locs hW => ?_)
      obtain ⟨x8, ex8, ho⟩ := nm_x ho
      refine lv_iinc (v := x8) (lv' := [(1, .int x8), (0, .ref (am 1000))]) hx hb dX0_work_114 hl (k := 1) rfl (by rw [ex8]; rfl) (by decide) rfl (fun ls hl => ?_)
      clear ex8
      refine lv_goto (tgt := 56) hx hb dX0_work_117 (by decide) ?_
      cases ho
      exact ih _ _ hrun _ _ _ hW (lv_sub hl [1, 0] rfl)
set_option maxHeartbeats 4000000 in
set_option maxRecDepth 100000 in
theorem c_x0_work (l : Launch) {D : va_G} {cI cJ cZ cR : ClassId} {am gm : Nat → Nat} {st : Nat} (sz : Nat) (t0 : St) {r : Int32} {t' : St} (ho : x0_work t0 = some (r, t')) : Met l yX0_work (.code yX0_work cX0_work 2 (some .int) :: wsAll) (rmA 2 50 t0 t') (va_Pc [.ref (am 1000)] (prX D (tyX cI cJ cZ cR) (wX cI cJ cZ cR am gm t0) sz st)) (qIa r D (tyX cI cJ cZ cR) (fun gm => wX cI cJ cZ cR am gm t') (va_A (wX cI cJ cZ cR am gm t0) sz)) (mC t0 t') (mS t0 t') (va_A (wX cI cJ cZ cR am gm t0) sz) := by
  refine Met.ofW (cc := cX0_work) (maxL := 2) (ret := (some .int)) (by decide) rfl ?_
  intro p e s m args below meth c s₁ B hml hv
  obtain ⟨rfl, ⟨hsz, hP, hK, hD0⟩, hsx⟩ := hv
  have hx := B.exec
  have hb := B.bytes
  have hts := atoms_spec (ws := (.code yX0_work cX0_work 2 (some .int) :: wsAll)) B.pre
  have hta := fun w h => hts w (List.mem_cons_of_mem _ h)
  have hown : s.vm.findClass RX0 = some m.cls := findClass_of_methodNamed B.named
  have hlocks := B.notSynchronized
  subst hsz
  have hD := hD0.self (sz := s.heap.size)
  generalize hAe : va_A (wX cI cJ cZ cR am gm t0) s.heap.size = A at hD ⊢
  have hA : ∀ q : Nat, s.heap.size ≤ q → A q := fun q h => by rw [← hAe]; exact Or.inr h
  have C0 : cxX p s m ([.ref (am 1000)].toArray) meth c cX0_work RX0 2 (some .int) D (tyX cI cJ cZ cR) st A := ⟨⟨hx, hb, B.returns, hml, hown, hta, hlocks, hK, hA⟩, by rw [← hAe]; exact hsx⟩
  have hW : wl D A s (wX cI cJ cZ cR am gm t0) s.heap [] := ⟨hP, hD, va_S.rf⟩
  have hl := lv_entry [.ref (am 1000)] (n := 2) (Nat.le_of_ble_eq_true rfl)
  rw [lg_entry_eq]
  generalize (lg_sl [.ref (am 1000)] ++ List.replicate (2 - (lg_sl [.ref (am 1000)]).length) Slot.unset).toArray = ls at hl ⊢
  have hl : lv_has ls 2 [(0, .ref (am 1000))] := hl
  clear hAe hD hP hD0 hts
  have J20 : ∀ (gm : Nat → Nat) (t : St) (_ : x0_work_J20 t = some (r, t')) (_ : mle t0 t) (H : Heap) (locs : List Loc) (ls : Array Slot), wl D A s (wX cI cJ cZ cR am gm t) H locs → lv_has ls 2 [(0, .ref (am 1000))] → W p l e (rmA 2 50 t0 t') s m ([.ref (am 1000)].toArray) below meth c H locs (mC t0 t) (mS t0 t) (MQ below (qIa r D (tyX cI cJ cZ cR) (fun gm => wX cI cJ cZ cR am gm t') A) ([.ref (am 1000)].toArray) s (mC t0 t') (mS t0 t') A) (F0 m 20 ls []) := by
    intro gm t ho h0 H locs ls hW hl
    have hE : mle t t' := (mm_x0_work_J20 _ _ ho)
    have hR := hR_of (t0 := t0) hE
    unfold x0_work_J20 at ho
    refine lv_aload_n hx hb dX0_work_20 rfl (lv_at hl 0 rfl) ?_
    refine xGET_12 C0 kw_396 hW dX0_work_21 ?_
    refine lv_iconst (v := (0 : Int32)) hx hb dX0_work_24 (by decide) ?_
    refine lv_aload_n hx hb dX0_work_25 rfl (lv_at hl 0 rfl) ?_
    refine xGET_6 C0 kw_388 hW dX0_work_26 ?_
    obtain ⟨q9, hc10, ho⟩ := bd_some ho
    have hq9 := mm_x2_wipe_12 t (0 : Int32) (gI t 6) _ hc10
    refine bkV C0.1 hW (runSX (As := [.ref (gm 12), .int (0 : Int32), .int (gI t 6)]) (rest := []) C0 hW (c_x2_wipe_12 l _ t (0 : Int32) (gI t 6) (t' := q9) hc10) cb_X0_X2_wipe_92 rfl rfl ⟨rfl, rfl⟩ ⟨Nat.le_of_ble_eq_true rfl, Nat.le_of_ble_eq_true rfl⟩ (Nat.le_of_ble_eq_true rfl) hl.1 dX0_work_29 ⟨hR.1, hR.2⟩) (fun H locs hW => ?_)
    refine lv_aload_n hx hb dX0_work_32 rfl (lv_at hl 0 rfl) ?_
    refine xGET_12 C0 kw_396 hW dX0_work_33 ?_
    refine lv_aload_n hx hb dX0_work_36 rfl (lv_at hl 0 rfl) ?_
    refine xGET_6 C0 kw_388 hW dX0_work_37 ?_
    refine lv_aload_n hx hb dX0_work_40 rfl (lv_at hl 0 rfl) ?_
    refine xGET_6 C0 kw_388 hW dX0_work_41 ?_
    refine lv_aload_n hx hb dX0_work_44 rfl (lv_at hl 0 rfl) ?_
    refine xGET_1 C0 kw_383 hW dX0_work_45 ?_
    refine xGET_803 C0 kw_275 hW dX0_work_48 ?_
    obtain ⟨q11, hc12, ho⟩ := bd_some ho
    have hq11 := mm_x2_putPower_12 q9 (gI q9 6) (gI q9 6) (gI q9 803) _ hc12
    refine bkV C0.1 hW (runSX (As := [.ref (gm 12), .int (gI q9 6), .int (gI q9 6), .int (gI q9 803)]) (rest := []) C0 hW (c_x2_putPower_12 l _ q9 (gI q9 6) (gI q9 6) (gI q9 803) (t' := q11) hc12) cb_X0_X2_putPower_112 rfl rfl ⟨rfl, rfl⟩ ⟨Nat.le_of_ble_eq_true rfl, Nat.le_of_ble_eq_true rfl⟩ (Nat.le_of_ble_eq_true rfl) hl.1 dX0_work_51 ⟨hR.1, hR.2⟩) (fun H locs hW => ?_)
    refine lv_iconst (v := (2 : Int32)) hx hb dX0_work_54 (by decide) ?_
    refine lv_istore_n (lv' := [(1, .int (2 : Int32)), (0, .ref (am 1000))]) hx hb dX0_work_55 rfl hl (by decide) rfl (fun ls hl => ?_)
    obtain ⟨y13, hc15, ho⟩ := bd_some ho
    have hm14 := mm_x0_work_L56 (2 : Int32) q11 _ hc15
    obtain ⟨ny13, hc15⟩ := lp_to hc15
    refine x0_work_L56 C0 hR ?_ ny13 _ _ hc15 _ _ _ hW (lv_sub hl [1, 0] rfl)
    intro H locs ls hW hl
    refine lv_aload_n hx hb dX0_work_120 rfl (lv_at hl 0 rfl) ?_
    refine xGET_4 C0 kw_386 hW dX0_work_121 ?_
    refine lv_aload_n hx hb dX0_work_124 rfl (lv_at hl 0 rfl) ?_
    refine xGET_6 C0 kw_388 hW dX0_work_125 ?_
    refine lv_imul hx hb dX0_work_128 ?_
    refine W_up h0 (mle.trans (mle.trans hq9 hq11) hm14) ?_
    cases ho
    exact rtIa gm C0.1 hW dX0_work_129
  have hE : mle t0 t' := mm_x0_work _ _ ho
  have hR := hR_of (t0 := t0) hE
  have h0 : mle t0 t0 := mle.rfl
  refine W_0 (t0 := t0) ?_
  unfold x0_work at ho
  refine lv_aload_n hx hb dX0_work_0 rfl (lv_at hl 0 rfl) ?_
  refine lv_aload_n hx hb dX0_work_1 rfl (lv_at hl 0 rfl) ?_
  refine xGET_12 C0 kw_396 hW dX0_work_2 ?_
  refine lv_aload_n hx hb dX0_work_5 rfl (lv_at hl 0 rfl) ?_
  refine xGET_3 C0 kw_385 hW dX0_work_6 ?_
  refine lv_aload_n hx hb dX0_work_9 rfl (lv_at hl 0 rfl) ?_
  refine xGET_6 C0 kw_388 hW dX0_work_10 ?_
  refine lv_imul hx hb dX0_work_13 ?_
  obtain ⟨t16, g17, ho⟩ := grw_some ho
  have ht16 := g17.mle
  have hEt16 := (mm_x0_work_J20 _ _ ho)
  refine xGROW_12 (rest := []) C0 cb_X0_X2_grown_88 kw_396 hl.1 hW g17 h0 hEt16 (Nat.le_of_ble_eq_true rfl) (Nat.le_of_ble_eq_true rfl) (Nat.le_of_ble_eq_true rfl) dX0_work_14 dX0_work_17 (fun gm H locs hW => ?_)
  have h0 := mle.trans h0 ht16
  exact J20 gm _ ho h0 _ _ _ hW (lv_sub hl [0] rfl)
noncomputable def j7_fill_53178_200_B5 (v1 : Int32) (v3 : Int32) (v2 : Int32) (t : St) : Option ((Int32 × St) ⊕ (St)) :=
  if v3 ≤ v2 then (some (.inr t)) else (gd v2 (gN t 200) (nm (sA t 200 v2 v1) (fun t3 : St => nm (v2 + (1 : Int32)) (fun x4 : Int32 => some (.inl (x4, t3))))))
theorem mm_j7_fill_53178_200_B5 (v1 : Int32) (v3 : Int32) (v2 : Int32) (t : St) : MR (j7_fill_53178_200_B5 v1 v3 v2 t) t (Sum.elim (fun (x : Int32 × St) => x.2) (fun (y : St) => y)) := by
  unfold j7_fill_53178_200_B5
  exact MR_ite (MR_some mle.rfl) (MR_gd (MR_nmS mle_sA (fun t3 ht3 => MR_nm (fun x4 _ => MR_some ht3))))
theorem mm_j7_fill_53178_200_L5 (v1 : Int32) (v3 : Int32) (v2 : Int32) (t : St) : MR (lp (fun x => j7_fill_53178_200_B5 v1 v3 x.1 x.2) (v2, t)) t (fun (y : St) => y) := MR_lp (p := (fun (x : Int32 × St) => x.2)) (q := (fun (y : St) => y)) (fun x => mm_j7_fill_53178_200_B5 v1 v3 x.1 x.2) (v2, t)
noncomputable def j7_fill_53178_200 (t : St) (a1 : Int32) : Option (St) :=
  nm (Int32.ofNat (gN t 200)) (fun x5 : Int32 => (lp (fun x => j7_fill_53178_200_B5 a1 x5 x.1 x.2) ((0 : Int32), t)).bind (fun y6 => some y6))
theorem mm_j7_fill_53178_200 (t : St) (a1 : Int32) : MR (j7_fill_53178_200 t a1) t (fun (a : St) => a) := by
  unfold j7_fill_53178_200
  exact MR_nm (fun x5 _ => MR_bind (mm_j7_fill_53178_200_L5 a1 x5 (0 : Int32) t) (fun y6 hm7 => MR_some hm7))
set_option maxHeartbeats 4000000 in
set_option maxRecDepth 100000 in
theorem j7_fill_53178_200_L5 {p : Program} {l : Launch} {e : Env} {s : State} {m : MethodId} {args : Array Value} {below : List Frame} {meth : Method} {c : Code} {Q : State → Prop} {D : va_G} {cI cJ cZ cR : ClassId} {am gm : Nat → Nat} {st : Nat} {A : Nat → Prop} (C0 : cxX p s m args meth c cJ7_fill_53178 RJ7 4 none D (tyX cI cJ cZ cR) st A) {v1 : Int32} {v3 : Int32} {y : St} (hK0 : ∀ (H : Heap) (locs : List Loc) (ls : Array Slot), wl D A s (wX cI cJ cZ cR am gm y) H locs → lv_has ls 4 [] → W p l e (rmN 0 0) s m args below meth c H locs 0 0 Q (F0 m 20 ls [])) :
    ∀ (n : Nat) (v2 : Int32) (t : St), lpn (fun x => j7_fill_53178_200_B5 v1 v3 x.1 x.2) n (v2, t) = some y → ∀ (H : Heap) (locs : List Loc) (ls : Array Slot), wl D A s (wX cI cJ cZ cR am gm t) H locs → lv_has ls 4 [(0, .ref (am 200)), (1, .int v1), (2, .int v2), (3, .int v3)] → W p l e (rmN 0 0) s m args below meth c H locs 0 0 Q (F0 m 5 ls []) := by
  have hx := C0.1.1
  have hb := C0.1.2.1
  have hta := C0.1.2.2.2.2.2.1
  have hown := C0.1.2.2.2.2.1
  intro n
  induction n with
  | zero => intro _ _ h; cases h
  | succ n ih =>
    intro v2 t hrun H locs ls hW hl
    obtain ⟨o, ho, hrun⟩ := bd_some hrun
    unfold j7_fill_53178_200_B5 at ho
    refine lv_iload_n hx hb dJ7_fill_53178_5 rfl (lv_at hl 2 rfl) ?_
    refine lv_iload_n hx hb dJ7_fill_53178_6 rfl (lv_at hl 3 rfl) ?_
    refine lv_icmp_ge (tgt := 20) hx hb dJ7_fill_53178_7 (by decide) (fun c1 => ?_) (fun c1 => ?_)
    · replace ho := ite_t c1 ho
      cases ho
      cases hrun
      exact hK0 _ _ _ hW (lv_sub hl [] rfl)
    · replace ho := ite_f c1 ho
      refine lv_aload_n hx hb dJ7_fill_53178_10 rfl (lv_at hl 0 rfl) ?_
      refine lv_iload_n hx hb dJ7_fill_53178_11 rfl (lv_at hl 2 rfl) ?_
      refine lv_iload_n hx hb dJ7_fill_53178_12 rfl (lv_at hl 1 rfl) ?_
      obtain ⟨g2, ho⟩ := gd_some ho
      refine xST_200 C0 hW g2 dJ7_fill_53178_13 (fun H locs hW => ?_)
      obtain ⟨t3, ho, hW⟩ := nm_w (P := fun t => wl D A s (wX cI cJ cZ cR am gm t) H locs) ho hW
      obtain ⟨x4, ex4, ho⟩ := nm_x ho
      refine lv_iinc (v := x4) (lv' := [(2, .int x4), (0, .ref (am 200)), (1, .int v1), (3, .int v3)]) hx hb dJ7_fill_53178_14 hl (k := 2) rfl (by rw [ex4]; rfl) (by decide) rfl (fun ls hl => ?_)
      clear ex4
      refine lv_goto (tgt := 5) hx hb dJ7_fill_53178_17 (by decide) ?_
      cases ho
      exact ih _ _ hrun _ _ _ hW (lv_sub hl [1, 2, 0, 3] rfl)
set_option maxHeartbeats 4000000 in
set_option maxRecDepth 100000 in
theorem c_j7_fill_53178_200 (l : Launch) {D : va_G} {cI cJ cZ cR : ClassId} {am gm : Nat → Nat} {st : Nat} (sz : Nat) (t : St) (a1 : Int32) {t' : St} (ho : j7_fill_53178_200 t a1 = some t') : Met l yJ7_fill_53178 (.code yJ7_fill_53178 cJ7_fill_53178 4 none :: wsAll) (rmN 0 0) (va_Pc [.ref (am 200), .int a1] (prX D (tyX cI cJ cZ cR) (wX cI cJ cZ cR am gm t) sz st)) (qV D (tyX cI cJ cZ cR) (wX cI cJ cZ cR am gm t') (va_A (wX cI cJ cZ cR am gm t) sz)) 0 0 (va_A (wX cI cJ cZ cR am gm t) sz) := by
  refine Met.ofW (cc := cJ7_fill_53178) (maxL := 4) (ret := none) (by decide) rfl ?_
  intro p e s m args below meth c s₁ B hml hv
  obtain ⟨rfl, ⟨hsz, hP, hK, hD0⟩, hsx⟩ := hv
  have hx := B.exec
  have hb := B.bytes
  have hts := atoms_spec (ws := (.code yJ7_fill_53178 cJ7_fill_53178 4 none :: wsAll)) B.pre
  have hta := fun w h => hts w (List.mem_cons_of_mem _ h)
  have hown : s.vm.findClass RJ7 = some m.cls := findClass_of_methodNamed B.named
  have hlocks := B.notSynchronized
  subst hsz
  have hD := hD0.self (sz := s.heap.size)
  generalize hAe : va_A (wX cI cJ cZ cR am gm t) s.heap.size = A at hD ⊢
  have hA : ∀ q : Nat, s.heap.size ≤ q → A q := fun q h => by rw [← hAe]; exact Or.inr h
  have C0 : cxX p s m ([.ref (am 200), .int a1].toArray) meth c cJ7_fill_53178 RJ7 4 none D (tyX cI cJ cZ cR) st A := ⟨⟨hx, hb, B.returns, hml, hown, hta, hlocks, hK, hA⟩, by rw [← hAe]; exact hsx⟩
  have hW : wl D A s (wX cI cJ cZ cR am gm t) s.heap [] := ⟨hP, hD, va_S.rf⟩
  have hl := lv_entry [.ref (am 200), .int a1] (n := 4) (Nat.le_of_ble_eq_true rfl)
  rw [lg_entry_eq]
  generalize (lg_sl [.ref (am 200), .int a1] ++ List.replicate (4 - (lg_sl [.ref (am 200), .int a1]).length) Slot.unset).toArray = ls at hl ⊢
  have hl : lv_has ls 4 [(0, .ref (am 200)), (1, .int a1)] := hl
  unfold j7_fill_53178_200 at ho
  refine lv_iconst (v := (0 : Int32)) hx hb dJ7_fill_53178_0 (by decide) ?_
  refine lv_istore_n (lv' := [(2, .int (0 : Int32)), (0, .ref (am 200)), (1, .int a1)]) hx hb dJ7_fill_53178_1 rfl hl (by decide) rfl (fun ls hl => ?_)
  refine lv_aload_n hx hb dJ7_fill_53178_2 rfl (lv_at hl 1 rfl) ?_
  refine xLEN_200 C0 hW dJ7_fill_53178_3 ?_
  refine lv_nmi ho (fun x5 ho => ?_)
  refine lv_istore_n (lv' := [(3, .int x5), (2, .int (0 : Int32)), (0, .ref (am 200)), (1, .int a1)]) hx hb dJ7_fill_53178_4 rfl hl (by decide) rfl (fun ls hl => ?_)
  obtain ⟨y6, hc8, ho⟩ := bd_some ho
  obtain ⟨ny6, hc8⟩ := lp_to hc8
  refine j7_fill_53178_200_L5 C0 ?_ ny6 _ _ hc8 _ _ _ hW (lv_sub hl [2, 3, 1, 0] rfl)
  intro H locs ls hW hl
  cases ho
  exact rtV C0.1 hW dJ7_fill_53178_20
noncomputable def x2_isZeroRow_200_B2 (t : St) (v1 : Int32) : Option ((Int32) ⊕ ((Unit) ⊕ (Unit))) :=
  if (6 : Int32) ≤ v1 then (some (.inr (.inr ()))) else (gd v1 (gN t 200) (if (gA t 200 (v1).toNatClampNeg) = 0 then (nm (v1 + (1 : Int32)) (fun x4 : Int32 => some (.inl x4))) else (some (.inr (.inl ())))))
noncomputable def x2_isZeroRow_200 (t : St) : Option (Int32) :=
  (lp (fun x => x2_isZeroRow_200_B2 t x) (0 : Int32)).bind (fun y5 => (Sum.elim (fun u8 => some (0 : Int32)) (fun u8 => some (1 : Int32))) y5)
set_option maxHeartbeats 4000000 in
set_option maxRecDepth 100000 in
theorem x2_isZeroRow_200_L2 {p : Program} {l : Launch} {e : Env} {s : State} {m : MethodId} {args : Array Value} {below : List Frame} {meth : Method} {c : Code} {Q : State → Prop} {D : va_G} {cI cJ cZ cR : ClassId} {am gm : Nat → Nat} {st : Nat} {A : Nat → Prop} (C0 : cxX p s m args meth c cX2_isZeroRow RX2 2 (some .boolean) D (tyX cI cJ cZ cR) st A) {t : St} {y : (Unit) ⊕ (Unit)} (hK0 : ∀ u, y = (.inl u) → ∀ (H : Heap) (locs : List Loc) (ls : Array Slot), wl D A s (wX cI cJ cZ cR am gm t) H locs → lv_has ls 2 [] → W p l e (rmN 0 0) s m args below meth c H locs 0 0 Q (F0 m 14 ls [])) (hK1 : ∀ u, y = (.inr u) → ∀ (H : Heap) (locs : List Loc) (ls : Array Slot), wl D A s (wX cI cJ cZ cR am gm t) H locs → lv_has ls 2 [] → W p l e (rmN 0 0) s m args below meth c H locs 0 0 Q (F0 m 22 ls [])) :
    ∀ (n : Nat) (v1 : Int32), lpn (fun x => x2_isZeroRow_200_B2 t x) n v1 = some y → ∀ (H : Heap) (locs : List Loc) (ls : Array Slot), wl D A s (wX cI cJ cZ cR am gm t) H locs → lv_has ls 2 [(0, .ref (am 200)), (1, .int v1)] → W p l e (rmN 0 0) s m args below meth c H locs 0 0 Q (F0 m 2 ls []) := by
  have hx := C0.1.1
  have hb := C0.1.2.1
  have hta := C0.1.2.2.2.2.2.1
  have hown := C0.1.2.2.2.2.1
  intro n
  induction n with
  | zero => intro _ h; cases h
  | succ n ih =>
    intro v1 hrun H locs ls hW hl
    obtain ⟨o, ho, hrun⟩ := bd_some hrun
    unfold x2_isZeroRow_200_B2 at ho
    refine lv_iload_n hx hb dX2_isZeroRow_2 rfl (lv_at hl 1 rfl) ?_
    refine lv_bipush (v := (6 : Int32)) hx hb dX2_isZeroRow_3 (by decide) ?_
    refine lv_icmp_ge (tgt := 22) hx hb dX2_isZeroRow_5 (by decide) (fun c1 => ?_) (fun c1 => ?_)
    · replace ho := ite_t c1 ho
      cases ho
      cases hrun
      exact hK1 _ rfl _ _ _ hW (lv_sub hl [] rfl)
    · replace ho := ite_f c1 ho
      refine lv_aload_n hx hb dX2_isZeroRow_8 rfl (lv_at hl 0 rfl) ?_
      refine lv_iload_n hx hb dX2_isZeroRow_9 rfl (lv_at hl 1 rfl) ?_
      obtain ⟨g2, ho⟩ := gd_some ho
      refine xLD_200 C0 hW g2 dX2_isZeroRow_10 ?_
      refine lv_if_eq (tgt := 16) hx hb dX2_isZeroRow_11 (by decide) (fun c3 => ?_) (fun c3 => ?_)
      · replace ho := ite_t c3 ho
        obtain ⟨x4, ex4, ho⟩ := nm_x ho
        refine lv_iinc (v := x4) (lv' := [(1, .int x4), (0, .ref (am 200))]) hx hb dX2_isZeroRow_16 hl (k := 1) rfl (by rw [ex4]; rfl) (by decide) rfl (fun ls hl => ?_)
        clear ex4
        refine lv_goto (tgt := 2) hx hb dX2_isZeroRow_19 (by decide) ?_
        cases ho
        exact ih _ hrun _ _ _ hW (lv_sub hl [1, 0] rfl)
      · replace ho := ite_f c3 ho
        cases ho
        cases hrun
        exact hK0 _ rfl _ _ _ hW (lv_sub hl [] rfl)
set_option maxHeartbeats 4000000 in
set_option maxRecDepth 100000 in
theorem c_x2_isZeroRow_200 (l : Launch) {D : va_G} {cI cJ cZ cR : ClassId} {am gm : Nat → Nat} {st : Nat} (sz : Nat) (t : St) {r : Int32} (ho : x2_isZeroRow_200 t = some r) : Met l yX2_isZeroRow (.code yX2_isZeroRow cX2_isZeroRow 2 (some .boolean) :: wsAll) (rmN 0 0) (va_Pc [.ref (am 200)] (prX D (tyX cI cJ cZ cR) (wX cI cJ cZ cR am gm t) sz st)) (qZ r D (tyX cI cJ cZ cR) (wX cI cJ cZ cR am gm t) (va_A (wX cI cJ cZ cR am gm t) sz)) 0 0 (va_A (wX cI cJ cZ cR am gm t) sz) := by
  refine Met.ofW (cc := cX2_isZeroRow) (maxL := 2) (ret := (some .boolean)) (by decide) rfl ?_
  intro p e s m args below meth c s₁ B hml hv
  obtain ⟨rfl, ⟨hsz, hP, hK, hD0⟩, hsx⟩ := hv
  have hx := B.exec
  have hb := B.bytes
  have hts := atoms_spec (ws := (.code yX2_isZeroRow cX2_isZeroRow 2 (some .boolean) :: wsAll)) B.pre
  have hta := fun w h => hts w (List.mem_cons_of_mem _ h)
  have hown : s.vm.findClass RX2 = some m.cls := findClass_of_methodNamed B.named
  have hlocks := B.notSynchronized
  subst hsz
  have hD := hD0.self (sz := s.heap.size)
  generalize hAe : va_A (wX cI cJ cZ cR am gm t) s.heap.size = A at hD ⊢
  have hA : ∀ q : Nat, s.heap.size ≤ q → A q := fun q h => by rw [← hAe]; exact Or.inr h
  have C0 : cxX p s m ([.ref (am 200)].toArray) meth c cX2_isZeroRow RX2 2 (some .boolean) D (tyX cI cJ cZ cR) st A := ⟨⟨hx, hb, B.returns, hml, hown, hta, hlocks, hK, hA⟩, by rw [← hAe]; exact hsx⟩
  have hW : wl D A s (wX cI cJ cZ cR am gm t) s.heap [] := ⟨hP, hD, va_S.rf⟩
  have hl := lv_entry [.ref (am 200)] (n := 2) (Nat.le_of_ble_eq_true rfl)
  rw [lg_entry_eq]
  generalize (lg_sl [.ref (am 200)] ++ List.replicate (2 - (lg_sl [.ref (am 200)]).length) Slot.unset).toArray = ls at hl ⊢
  have hl : lv_has ls 2 [(0, .ref (am 200))] := hl
  unfold x2_isZeroRow_200 at ho
  refine lv_iconst (v := (0 : Int32)) hx hb dX2_isZeroRow_0 (by decide) ?_
  refine lv_istore_n (lv' := [(1, .int (0 : Int32)), (0, .ref (am 200))]) hx hb dX2_isZeroRow_1 rfl hl (by decide) rfl (fun ls hl => ?_)
  obtain ⟨y5, hc7, ho⟩ := bd_some ho
  obtain ⟨ny5, hc7⟩ := lp_to hc7
  refine x2_isZeroRow_200_L2 C0 ?_ ?_ ny5 _ hc7 _ _ _ hW (lv_sub hl [1, 0] rfl)
  · intro u8 hy H locs ls hW hl
    subst hy
    replace ho := sum_l ho
    refine lv_iconst (v := (0 : Int32)) hx hb dX2_isZeroRow_14 (by decide) ?_
    cases ho
    exact rtZ C0.1 hW (Or.inl (rfl : (0 : Int32) = 0)) dX2_isZeroRow_15
  · intro u8 hy H locs ls hW hl
    subst hy
    replace ho := sum_r ho
    refine lv_iconst (v := (1 : Int32)) hx hb dX2_isZeroRow_22 (by decide) ?_
    cases ho
    exact rtZ C0.1 hW (Or.inr (rfl : (1 : Int32) = 1)) dX2_isZeroRow_23
noncomputable def x2_isZero (t : St) : Option (Int32) :=
  (x2_isZeroRow_200 t).bind (fun q1 => some q1)
set_option maxHeartbeats 4000000 in
set_option maxRecDepth 100000 in
theorem c_x2_isZero (l : Launch) {D : va_G} {cI cJ cZ cR : ClassId} {am gm : Nat → Nat} {st : Nat} (sz : Nat) (t : St) {r : Int32} (ho : x2_isZero t = some r) : Met l yX2_isZero (.code yX2_isZero cX2_isZero 1 (some .boolean) :: wsAll) (rmN 1 21) (va_Pc [.ref (am 1002)] (prX D (tyX cI cJ cZ cR) (wX cI cJ cZ cR am gm t) sz st)) (qZ r D (tyX cI cJ cZ cR) (wX cI cJ cZ cR am gm t) (va_A (wX cI cJ cZ cR am gm t) sz)) 0 0 (va_A (wX cI cJ cZ cR am gm t) sz) := by
  refine Met.ofW (cc := cX2_isZero) (maxL := 1) (ret := (some .boolean)) (by decide) rfl ?_
  intro p e s m args below meth c s₁ B hml hv
  obtain ⟨rfl, ⟨hsz, hP, hK, hD0⟩, hsx⟩ := hv
  have hx := B.exec
  have hb := B.bytes
  have hts := atoms_spec (ws := (.code yX2_isZero cX2_isZero 1 (some .boolean) :: wsAll)) B.pre
  have hta := fun w h => hts w (List.mem_cons_of_mem _ h)
  have hown : s.vm.findClass RX2 = some m.cls := findClass_of_methodNamed B.named
  have hlocks := B.notSynchronized
  subst hsz
  have hD := hD0.self (sz := s.heap.size)
  generalize hAe : va_A (wX cI cJ cZ cR am gm t) s.heap.size = A at hD ⊢
  have hA : ∀ q : Nat, s.heap.size ≤ q → A q := fun q h => by rw [← hAe]; exact Or.inr h
  have C0 : cxX p s m ([.ref (am 1002)].toArray) meth c cX2_isZero RX2 1 (some .boolean) D (tyX cI cJ cZ cR) st A := ⟨⟨hx, hb, B.returns, hml, hown, hta, hlocks, hK, hA⟩, by rw [← hAe]; exact hsx⟩
  have hW : wl D A s (wX cI cJ cZ cR am gm t) s.heap [] := ⟨hP, hD, va_S.rf⟩
  have hl := lv_entry [.ref (am 1002)] (n := 1) (Nat.le_of_ble_eq_true rfl)
  rw [lg_entry_eq]
  generalize (lg_sl [.ref (am 1002)] ++ List.replicate (1 - (lg_sl [.ref (am 1002)]).length) Slot.unset).toArray = ls at hl ⊢
  have hl : lv_has ls 1 [(0, .ref (am 1002))] := hl
  unfold x2_isZero at ho
  refine lv_aload_n hx hb dX2_isZero_0 rfl (lv_at hl 0 rfl) ?_
  refine xGET_200 C0 kw_369 hW dX2_isZero_1 ?_
  obtain ⟨q1, hc2, ho⟩ := bd_some ho
  refine bkZ C0.1 hW (runSX (As := [.ref (am 200)]) (rest := []) C0 hW (c_x2_isZeroRow_200 l _ t (r := q1) hc2) cb_X2_X2_isZeroRow_18 rfl rfl ⟨rfl, rfl⟩ ⟨Nat.le_of_ble_eq_true rfl, Nat.le_of_ble_eq_true rfl⟩ (Nat.le_of_ble_eq_true rfl) hl.1 dX2_isZero_4 ⟨Nat.le_of_ble_eq_true rfl, Nat.le_of_ble_eq_true rfl⟩) (fun z3 H locs hW => ?_)
  cases ho
  exact rtZ C0.1 hW z3 dX2_isZero_7
noncomputable def j7_fill_53178_201_B5 (v1 : Int32) (v3 : Int32) (v2 : Int32) (t : St) : Option ((Int32 × St) ⊕ (St)) :=
  if v3 ≤ v2 then (some (.inr t)) else (gd v2 (gN t 201) (nm (sA t 201 v2 v1) (fun t3 : St => nm (v2 + (1 : Int32)) (fun x4 : Int32 => some (.inl (x4, t3))))))
theorem mm_j7_fill_53178_201_B5 (v1 : Int32) (v3 : Int32) (v2 : Int32) (t : St) : MR (j7_fill_53178_201_B5 v1 v3 v2 t) t (Sum.elim (fun (x : Int32 × St) => x.2) (fun (y : St) => y)) := by
  unfold j7_fill_53178_201_B5
  exact MR_ite (MR_some mle.rfl) (MR_gd (MR_nmS mle_sA (fun t3 ht3 => MR_nm (fun x4 _ => MR_some ht3))))
theorem mm_j7_fill_53178_201_L5 (v1 : Int32) (v3 : Int32) (v2 : Int32) (t : St) : MR (lp (fun x => j7_fill_53178_201_B5 v1 v3 x.1 x.2) (v2, t)) t (fun (y : St) => y) := MR_lp (p := (fun (x : Int32 × St) => x.2)) (q := (fun (y : St) => y)) (fun x => mm_j7_fill_53178_201_B5 v1 v3 x.1 x.2) (v2, t)
noncomputable def j7_fill_53178_201 (t : St) (a1 : Int32) : Option (St) :=
  nm (Int32.ofNat (gN t 201)) (fun x5 : Int32 => (lp (fun x => j7_fill_53178_201_B5 a1 x5 x.1 x.2) ((0 : Int32), t)).bind (fun y6 => some y6))
theorem mm_j7_fill_53178_201 (t : St) (a1 : Int32) : MR (j7_fill_53178_201 t a1) t (fun (a : St) => a) := by
  unfold j7_fill_53178_201
  exact MR_nm (fun x5 _ => MR_bind (mm_j7_fill_53178_201_L5 a1 x5 (0 : Int32) t) (fun y6 hm7 => MR_some hm7))
set_option maxHeartbeats 4000000 in
set_option maxRecDepth 100000 in
theorem j7_fill_53178_201_L5 {p : Program} {l : Launch} {e : Env} {s : State} {m : MethodId} {args : Array Value} {below : List Frame} {meth : Method} {c : Code} {Q : State → Prop} {D : va_G} {cI cJ cZ cR : ClassId} {am gm : Nat → Nat} {st : Nat} {A : Nat → Prop} (C0 : cxX p s m args meth c cJ7_fill_53178 RJ7 4 none D (tyX cI cJ cZ cR) st A) {v1 : Int32} {v3 : Int32} {y : St} (hK0 : ∀ (H : Heap) (locs : List Loc) (ls : Array Slot), wl D A s (wX cI cJ cZ cR am gm y) H locs → lv_has ls 4 [] → W p l e (rmN 0 0) s m args below meth c H locs 0 0 Q (F0 m 20 ls [])) :
    ∀ (n : Nat) (v2 : Int32) (t : St), lpn (fun x => j7_fill_53178_201_B5 v1 v3 x.1 x.2) n (v2, t) = some y → ∀ (H : Heap) (locs : List Loc) (ls : Array Slot), wl D A s (wX cI cJ cZ cR am gm t) H locs → lv_has ls 4 [(0, .ref (am 201)), (1, .int v1), (2, .int v2), (3, .int v3)] → W p l e (rmN 0 0) s m args below meth c H locs 0 0 Q (F0 m 5 ls []) := by
  have hx := C0.1.1
  have hb := C0.1.2.1
  have hta := C0.1.2.2.2.2.2.1
  have hown := C0.1.2.2.2.2.1
  intro n
  induction n with
  | zero => intro _ _ h; cases h
  | succ n ih =>
    intro v2 t hrun H locs ls hW hl
    obtain ⟨o, ho, hrun⟩ := bd_some hrun
    unfold j7_fill_53178_201_B5 at ho
    refine lv_iload_n hx hb dJ7_fill_53178_5 rfl (lv_at hl 2 rfl) ?_
    refine lv_iload_n hx hb dJ7_fill_53178_6 rfl (lv_at hl 3 rfl) ?_
    refine lv_icmp_ge (tgt := 20) hx hb dJ7_fill_53178_7 (by decide) (fun c1 => ?_) (fun c1 => ?_)
    · replace ho := ite_t c1 ho
      cases ho
      cases hrun
      exact hK0 _ _ _ hW (lv_sub hl [] rfl)
    · replace ho := ite_f c1 ho
      refine lv_aload_n hx hb dJ7_fill_53178_10 rfl (lv_at hl 0 rfl) ?_
      refine lv_iload_n hx hb dJ7_fill_53178_11 rfl (lv_at hl 2 rfl) ?_
      refine lv_iload_n hx hb dJ7_fill_53178_12 rfl (lv_at hl 1 rfl) ?_
      obtain ⟨g2, ho⟩ := gd_some ho
      refine xST_201 C0 hW g2 dJ7_fill_53178_13 (fun H locs hW => ?_)
      obtain ⟨t3, ho, hW⟩ := nm_w (P := fun t => wl D A s (wX cI cJ cZ cR am gm t) H locs) ho hW
      obtain ⟨x4, ex4, ho⟩ := nm_x ho
      refine lv_iinc (v := x4) (lv' := [(2, .int x4), (0, .ref (am 201)), (1, .int v1), (3, .int v3)]) hx hb dJ7_fill_53178_14 hl (k := 2) rfl (by rw [ex4]; rfl) (by decide) rfl (fun ls hl => ?_)
      clear ex4
      refine lv_goto (tgt := 5) hx hb dJ7_fill_53178_17 (by decide) ?_
      cases ho
      exact ih _ _ hrun _ _ _ hW (lv_sub hl [1, 2, 0, 3] rfl)
set_option maxHeartbeats 4000000 in
set_option maxRecDepth 100000 in
theorem c_j7_fill_53178_201 (l : Launch) {D : va_G} {cI cJ cZ cR : ClassId} {am gm : Nat → Nat} {st : Nat} (sz : Nat) (t : St) (a1 : Int32) {t' : St} (ho : j7_fill_53178_201 t a1 = some t') : Met l yJ7_fill_53178 (.code yJ7_fill_53178 cJ7_fill_53178 4 none :: wsAll) (rmN 0 0) (va_Pc [.ref (am 201), .int a1] (prX D (tyX cI cJ cZ cR) (wX cI cJ cZ cR am gm t) sz st)) (qV D (tyX cI cJ cZ cR) (wX cI cJ cZ cR am gm t') (va_A (wX cI cJ cZ cR am gm t) sz)) 0 0 (va_A (wX cI cJ cZ cR am gm t) sz) := by
  refine Met.ofW (cc := cJ7_fill_53178) (maxL := 4) (ret := none) (by decide) rfl ?_
  intro p e s m args below meth c s₁ B hml hv
  obtain ⟨rfl, ⟨hsz, hP, hK, hD0⟩, hsx⟩ := hv
  have hx := B.exec
  have hb := B.bytes
  have hts := atoms_spec (ws := (.code yJ7_fill_53178 cJ7_fill_53178 4 none :: wsAll)) B.pre
  have hta := fun w h => hts w (List.mem_cons_of_mem _ h)
  have hown : s.vm.findClass RJ7 = some m.cls := findClass_of_methodNamed B.named
  have hlocks := B.notSynchronized
  subst hsz
  have hD := hD0.self (sz := s.heap.size)
  generalize hAe : va_A (wX cI cJ cZ cR am gm t) s.heap.size = A at hD ⊢
  have hA : ∀ q : Nat, s.heap.size ≤ q → A q := fun q h => by rw [← hAe]; exact Or.inr h
  have C0 : cxX p s m ([.ref (am 201), .int a1].toArray) meth c cJ7_fill_53178 RJ7 4 none D (tyX cI cJ cZ cR) st A := ⟨⟨hx, hb, B.returns, hml, hown, hta, hlocks, hK, hA⟩, by rw [← hAe]; exact hsx⟩
  have hW : wl D A s (wX cI cJ cZ cR am gm t) s.heap [] := ⟨hP, hD, va_S.rf⟩
  have hl := lv_entry [.ref (am 201), .int a1] (n := 4) (Nat.le_of_ble_eq_true rfl)
  rw [lg_entry_eq]
  generalize (lg_sl [.ref (am 201), .int a1] ++ List.replicate (4 - (lg_sl [.ref (am 201), .int a1]).length) Slot.unset).toArray = ls at hl ⊢
  have hl : lv_has ls 4 [(0, .ref (am 201)), (1, .int a1)] := hl
  unfold j7_fill_53178_201 at ho
  refine lv_iconst (v := (0 : Int32)) hx hb dJ7_fill_53178_0 (by decide) ?_
  refine lv_istore_n (lv' := [(2, .int (0 : Int32)), (0, .ref (am 201)), (1, .int a1)]) hx hb dJ7_fill_53178_1 rfl hl (by decide) rfl (fun ls hl => ?_)
  refine lv_aload_n hx hb dJ7_fill_53178_2 rfl (lv_at hl 1 rfl) ?_
  refine xLEN_201 C0 hW dJ7_fill_53178_3 ?_
  refine lv_nmi ho (fun x5 ho => ?_)
  refine lv_istore_n (lv' := [(3, .int x5), (2, .int (0 : Int32)), (0, .ref (am 201)), (1, .int a1)]) hx hb dJ7_fill_53178_4 rfl hl (by decide) rfl (fun ls hl => ?_)
  obtain ⟨y6, hc8, ho⟩ := bd_some ho
  obtain ⟨ny6, hc8⟩ := lp_to hc8
  refine j7_fill_53178_201_L5 C0 ?_ ny6 _ _ hc8 _ _ _ hW (lv_sub hl [2, 3, 1, 0] rfl)
  intro H locs ls hW hl
  cases ho
  exact rtV C0.1 hW dJ7_fill_53178_20
noncomputable def x2_multiply_201_B6 (v1 : Int32) (v2 : Int32) (v3 : Int32) (v4 : Int64) (v6 : Int32) (t : St) : Option ((Int64 × Int32 × St) ⊕ (St)) :=
  if v2 ≤ v6 then (some (.inr t)) else (gd (v1 + v6) (gN t 201) (nm (v4 + (((gA t 201 ((v1 + v6)).toNatClampNeg)).toInt64 * (v3).toInt64)) (fun x3 : Int64 => gd (v1 + v6) (gN t 201) (nm (sA t 201 (v1 + v6) ((x3 &&& (1073741823 : Int64))).toInt32) (fun t5 : St => nm ((x3 >>> (((30 : Int32)).toInt64 &&& 63))) (fun x6 : Int64 => nm (v6 + (1 : Int32)) (fun x7 : Int32 => some (.inl (x6, x7, t5)))))))))
theorem mm_x2_multiply_201_B6 (v1 : Int32) (v2 : Int32) (v3 : Int32) (v4 : Int64) (v6 : Int32) (t : St) : MR (x2_multiply_201_B6 v1 v2 v3 v4 v6 t) t (Sum.elim (fun (x : Int64 × Int32 × St) => x.2.2) (fun (y : St) => y)) := by
  unfold x2_multiply_201_B6
  exact MR_ite (MR_some mle.rfl) (MR_gd (MR_nm (fun x3 _ => MR_gd (MR_nmS mle_sA (fun t5 ht5 => MR_nm (fun x6 _ => MR_nm (fun x7 _ => MR_some ht5)))))))
theorem mm_x2_multiply_201_L6 (v1 : Int32) (v2 : Int32) (v3 : Int32) (v4 : Int64) (v6 : Int32) (t : St) : MR (lp (fun x => x2_multiply_201_B6 v1 v2 v3 x.1 x.2.1 x.2.2) (v4, v6, t)) t (fun (y : St) => y) := MR_lp (p := (fun (x : Int64 × Int32 × St) => x.2.2)) (q := (fun (y : St) => y)) (fun x => mm_x2_multiply_201_B6 v1 v2 v3 x.1 x.2.1 x.2.2) (v4, v6, t)
noncomputable def x2_multiply_201 (t : St) (a1 : Int32) (a2 : Int32) (a3 : Int32) : Option (St) :=
  (lp (fun x => x2_multiply_201_B6 a1 a2 a3 x.1 x.2.1 x.2.2) ((0 : Int64), (0 : Int32), t)).bind (fun y8 => some y8)
theorem mm_x2_multiply_201 (t : St) (a1 : Int32) (a2 : Int32) (a3 : Int32) : MR (x2_multiply_201 t a1 a2 a3) t (fun (a : St) => a) := by
  unfold x2_multiply_201
  exact MR_bind (mm_x2_multiply_201_L6 a1 a2 a3 (0 : Int64) (0 : Int32) t) (fun y8 hm9 => MR_some hm9)
set_option maxHeartbeats 4000000 in
set_option maxRecDepth 100000 in
theorem x2_multiply_201_L6 {p : Program} {l : Launch} {e : Env} {s : State} {m : MethodId} {args : Array Value} {below : List Frame} {meth : Method} {c : Code} {Q : State → Prop} {D : va_G} {cI cJ cZ cR : ClassId} {am gm : Nat → Nat} {st : Nat} {A : Nat → Prop} (C0 : cxX p s m args meth c cX2_multiply RX2 7 none D (tyX cI cJ cZ cR) st A) {v1 : Int32} {v2 : Int32} {v3 : Int32} {y : St} (hK0 : ∀ (H : Heap) (locs : List Loc) (ls : Array Slot), wl D A s (wX cI cJ cZ cR am gm y) H locs → lv_has ls 7 [] → W p l e (rmN 0 0) s m args below meth c H locs 0 0 Q (F0 m 53 ls [])) :
    ∀ (n : Nat) (v4 : Int64) (v6 : Int32) (t : St), lpn (fun x => x2_multiply_201_B6 v1 v2 v3 x.1 x.2.1 x.2.2) n (v4, v6, t) = some y → ∀ (H : Heap) (locs : List Loc) (ls : Array Slot), wl D A s (wX cI cJ cZ cR am gm t) H locs → lv_has ls 7 [(0, .ref (am 201)), (1, .int v1), (2, .int v2), (3, .int v3), (4, .long v4), (6, .int v6)] → W p l e (rmN 0 0) s m args below meth c H locs 0 0 Q (F0 m 6 ls []) := by
  have hx := C0.1.1
  have hb := C0.1.2.1
  have hta := C0.1.2.2.2.2.2.1
  have hown := C0.1.2.2.2.2.1
  intro n
  induction n with
  | zero => intro _ _ _ h; cases h
  | succ n ih =>
    intro v4 v6 t hrun H locs ls hW hl
    obtain ⟨o, ho, hrun⟩ := bd_some hrun
    unfold x2_multiply_201_B6 at ho
    refine lv_iload hx hb dX2_multiply_6 (lv_at hl 5 rfl) ?_
    refine lv_iload_n hx hb dX2_multiply_8 rfl (lv_at hl 2 rfl) ?_
    refine lv_icmp_ge (tgt := 53) hx hb dX2_multiply_9 (by decide) (fun c1 => ?_) (fun c1 => ?_)
    · replace ho := ite_t c1 ho
      cases ho
      cases hrun
      exact hK0 _ _ _ hW (lv_sub hl [] rfl)
    · replace ho := ite_f c1 ho
      refine lv_lload hx hb dX2_multiply_12 (lv_at hl 4 rfl) ?_
      refine lv_aload_n hx hb dX2_multiply_14 rfl (lv_at hl 0 rfl) ?_
      refine lv_iload_n hx hb dX2_multiply_15 rfl (lv_at hl 1 rfl) ?_
      refine lv_iload hx hb dX2_multiply_16 (lv_at hl 5 rfl) ?_
      refine lv_iadd hx hb dX2_multiply_18 ?_
      obtain ⟨g2, ho⟩ := gd_some ho
      refine xLD_201 C0 hW g2 dX2_multiply_19 ?_
      refine lv_i2l hx hb dX2_multiply_20 rfl ?_
      refine lv_iload_n hx hb dX2_multiply_21 rfl (lv_at hl 3 rfl) ?_
      refine lv_i2l hx hb dX2_multiply_22 rfl ?_
      refine lv_lmul hx hb dX2_multiply_23 ?_
      refine lv_ladd hx hb dX2_multiply_24 ?_
      refine lv_nml ho (fun x3 ho => ?_)
      refine lv_lstore (lv' := [(4, .long x3), (0, .ref (am 201)), (1, .int v1), (2, .int v2), (3, .int v3), (6, .int v6)]) hx hb dX2_multiply_25 hl (by decide) rfl (fun ls hl => ?_)
      refine lv_aload_n hx hb dX2_multiply_27 rfl (lv_at hl 1 rfl) ?_
      refine lv_iload_n hx hb dX2_multiply_28 rfl (lv_at hl 2 rfl) ?_
      refine lv_iload hx hb dX2_multiply_29 (lv_at hl 5 rfl) ?_
      refine lv_iadd hx hb dX2_multiply_31 ?_
      refine lv_lload hx hb dX2_multiply_32 (lv_at hl 0 rfl) ?_
      refine lv_ldc2 hx hb hown (hta _ kw_996) dX2_multiply_34 ?_
      refine lv_land hx hb dX2_multiply_37 ?_
      refine lv_l2i hx hb dX2_multiply_38 rfl ?_
      obtain ⟨g4, ho⟩ := gd_some ho
      refine xST_201 C0 hW g4 dX2_multiply_39 (fun H locs hW => ?_)
      obtain ⟨t5, ho, hW⟩ := nm_w (P := fun t => wl D A s (wX cI cJ cZ cR am gm t) H locs) ho hW
      refine lv_lload hx hb dX2_multiply_40 (lv_at hl 0 rfl) ?_
      refine lv_bipush (v := (30 : Int32)) hx hb dX2_multiply_42 (by decide) ?_
      refine lv_lshr hx hb dX2_multiply_44 rfl ?_
      refine lv_nml ho (fun x6 ho => ?_)
      refine lv_lstore (lv' := [(4, .long x6), (0, .ref (am 201)), (1, .int v1), (2, .int v2), (3, .int v3), (6, .int v6)]) hx hb dX2_multiply_45 hl (by decide) rfl (fun ls hl => ?_)
      obtain ⟨x7, ex7, ho⟩ := nm_x ho
      refine lv_iinc (v := x7) (lv' := [(6, .int x7), (4, .long x6), (0, .ref (am 201)), (1, .int v1), (2, .int v2), (3, .int v3)]) hx hb dX2_multiply_47 hl (k := 5) rfl (by rw [ex7]; rfl) (by decide) rfl (fun ls hl => ?_)
      clear ex7
      refine lv_goto (tgt := 6) hx hb dX2_multiply_50 (by decide) ?_
      cases ho
      exact ih _ _ _ hrun _ _ _ hW (lv_sub hl [2, 3, 4, 5, 1, 0] rfl)
set_option maxHeartbeats 4000000 in
set_option maxRecDepth 100000 in
theorem c_x2_multiply_201 (l : Launch) {D : va_G} {cI cJ cZ cR : ClassId} {am gm : Nat → Nat} {st : Nat} (sz : Nat) (t : St) (a1 : Int32) (a2 : Int32) (a3 : Int32) {t' : St} (ho : x2_multiply_201 t a1 a2 a3 = some t') : Met l yX2_multiply (.code yX2_multiply cX2_multiply 7 none :: wsAll) (rmN 0 0) (va_Pc [.ref (am 201), .int a1, .int a2, .int a3] (prX D (tyX cI cJ cZ cR) (wX cI cJ cZ cR am gm t) sz st)) (qV D (tyX cI cJ cZ cR) (wX cI cJ cZ cR am gm t') (va_A (wX cI cJ cZ cR am gm t) sz)) 0 0 (va_A (wX cI cJ cZ cR am gm t) sz) := by
  refine Met.ofW (cc := cX2_multiply) (maxL := 7) (ret := none) (by decide) rfl ?_
  intro p e s m args below meth c s₁ B hml hv
  obtain ⟨rfl, ⟨hsz, hP, hK, hD0⟩, hsx⟩ := hv
  have hx := B.exec
  have hb := B.bytes
  have hts := atoms_spec (ws := (.code yX2_multiply cX2_multiply 7 none :: wsAll)) B.pre
  have hta := fun w h => hts w (List.mem_cons_of_mem _ h)
  have hown : s.vm.findClass RX2 = some m.cls := findClass_of_methodNamed B.named
  have hlocks := B.notSynchronized
  subst hsz
  have hD := hD0.self (sz := s.heap.size)
  generalize hAe : va_A (wX cI cJ cZ cR am gm t) s.heap.size = A at hD ⊢
  have hA : ∀ q : Nat, s.heap.size ≤ q → A q := fun q h => by rw [← hAe]; exact Or.inr h
  have C0 : cxX p s m ([.ref (am 201), .int a1, .int a2, .int a3].toArray) meth c cX2_multiply RX2 7 none D (tyX cI cJ cZ cR) st A := ⟨⟨hx, hb, B.returns, hml, hown, hta, hlocks, hK, hA⟩, by rw [← hAe]; exact hsx⟩
  have hW : wl D A s (wX cI cJ cZ cR am gm t) s.heap [] := ⟨hP, hD, va_S.rf⟩
  have hl := lv_entry [.ref (am 201), .int a1, .int a2, .int a3] (n := 7) (Nat.le_of_ble_eq_true rfl)
  rw [lg_entry_eq]
  generalize (lg_sl [.ref (am 201), .int a1, .int a2, .int a3] ++ List.replicate (7 - (lg_sl [.ref (am 201), .int a1, .int a2, .int a3]).length) Slot.unset).toArray = ls at hl ⊢
  have hl : lv_has ls 7 [(0, .ref (am 201)), (1, .int a1), (2, .int a2), (3, .int a3)] := hl
  unfold x2_multiply_201 at ho
  refine lv_lconst (v := (0 : Int64)) hx hb dX2_multiply_0 (by decide) ?_
  refine lv_lstore (lv' := [(4, .long (0 : Int64)), (0, .ref (am 201)), (1, .int a1), (2, .int a2), (3, .int a3)]) hx hb dX2_multiply_1 hl (by decide) rfl (fun ls hl => ?_)
  refine lv_iconst (v := (0 : Int32)) hx hb dX2_multiply_3 (by decide) ?_
  refine lv_istore (lv' := [(6, .int (0 : Int32)), (4, .long (0 : Int64)), (0, .ref (am 201)), (1, .int a1), (2, .int a2), (3, .int a3)]) hx hb dX2_multiply_4 hl (by decide) rfl (fun ls hl => ?_)
  obtain ⟨y8, hc10, ho⟩ := bd_some ho
  obtain ⟨ny8, hc10⟩ := lp_to hc10
  refine x2_multiply_201_L6 C0 ?_ ny8 _ _ _ hc10 _ _ _ hW (lv_sub hl [2, 3, 4, 5, 1, 0] rfl)
  intro H locs ls hW hl
  cases ho
  exact rtV C0.1 hW dX2_multiply_53
noncomputable def x2_remainder_200_B5 (t : St) (v1 : Int32) (v2 : Int64) (v4 : Int32) : Option ((Int64 × Int32) ⊕ (Int64)) :=
  if v4 < 0 then (some (.inr v2)) else (gd v4 (gN t 200) (dvl (v1).toInt64 (nm ((((v2 <<< (((30 : Int32)).toInt64 &&& 63))) + ((gA t 200 (v4).toNatClampNeg)).toInt64) - (((v2 <<< (((30 : Int32)).toInt64 &&& 63))) + ((gA t 200 (v4).toNatClampNeg)).toInt64) / (v1).toInt64 * (v1).toInt64) (fun x4 : Int64 => nm (v4 + (-1 : Int32)) (fun x5 : Int32 => some (.inl (x4, x5)))))))
noncomputable def x2_remainder_200 (t : St) (a1 : Int32) : Option (Int32) :=
  (lp (fun x => x2_remainder_200_B5 t a1 x.1 x.2) ((0 : Int64), (5 : Int32))).bind (fun y6 => some (y6).toInt32)
set_option maxHeartbeats 4000000 in
set_option maxRecDepth 100000 in
theorem x2_remainder_200_L5 {p : Program} {l : Launch} {e : Env} {s : State} {m : MethodId} {args : Array Value} {below : List Frame} {meth : Method} {c : Code} {Q : State → Prop} {D : va_G} {cI cJ cZ cR : ClassId} {am gm : Nat → Nat} {st : Nat} {A : Nat → Prop} (C0 : cxX p s m args meth c cX2_remainder RX2 5 (some .int) D (tyX cI cJ cZ cR) st A) {t : St} {v1 : Int32} {y : Int64} (hK0 : ∀ (H : Heap) (locs : List Loc) (ls : Array Slot), wl D A s (wX cI cJ cZ cR am gm t) H locs → lv_has ls 5 [(2, .long y)] → W p l e (rmN 0 0) s m args below meth c H locs 0 0 Q (F0 m 30 ls [])) :
    ∀ (n : Nat) (v2 : Int64) (v4 : Int32), lpn (fun x => x2_remainder_200_B5 t v1 x.1 x.2) n (v2, v4) = some y → ∀ (H : Heap) (locs : List Loc) (ls : Array Slot), wl D A s (wX cI cJ cZ cR am gm t) H locs → lv_has ls 5 [(0, .ref (am 200)), (1, .int v1), (2, .long v2), (4, .int v4)] → W p l e (rmN 0 0) s m args below meth c H locs 0 0 Q (F0 m 5 ls []) := by
  have hx := C0.1.1
  have hb := C0.1.2.1
  have hta := C0.1.2.2.2.2.2.1
  have hown := C0.1.2.2.2.2.1
  intro n
  induction n with
  | zero => intro _ _ h; cases h
  | succ n ih =>
    intro v2 v4 hrun H locs ls hW hl
    obtain ⟨o, ho, hrun⟩ := bd_some hrun
    unfold x2_remainder_200_B5 at ho
    refine lv_iload hx hb dX2_remainder_5 (lv_at hl 3 rfl) ?_
    refine lv_if_lt (tgt := 30) hx hb dX2_remainder_7 (by decide) (fun c1 => ?_) (fun c1 => ?_)
    · replace ho := ite_t c1 ho
      cases ho
      cases hrun
      exact hK0 _ _ _ hW (lv_sub hl [2] rfl)
    · replace ho := ite_f c1 ho
      refine lv_lload_n hx hb dX2_remainder_10 rfl (lv_at hl 2 rfl) ?_
      refine lv_bipush (v := (30 : Int32)) hx hb dX2_remainder_11 (by decide) ?_
      refine lv_lshl hx hb dX2_remainder_13 rfl ?_
      refine lv_aload_n hx hb dX2_remainder_14 rfl (lv_at hl 0 rfl) ?_
      refine lv_iload hx hb dX2_remainder_15 (lv_at hl 3 rfl) ?_
      obtain ⟨g2, ho⟩ := gd_some ho
      refine xLD_200 C0 hW g2 dX2_remainder_17 ?_
      refine lv_i2l hx hb dX2_remainder_18 rfl ?_
      refine lv_ladd hx hb dX2_remainder_19 ?_
      refine lv_iload_n hx hb dX2_remainder_20 rfl (lv_at hl 1 rfl) ?_
      refine lv_i2l hx hb dX2_remainder_21 rfl ?_
      obtain ⟨g3, ho⟩ := dvl_some ho
      refine lv_lrem hx hb dX2_remainder_22 g3 ?_
      refine lv_nml ho (fun x4 ho => ?_)
      refine lv_lstore_n (lv' := [(2, .long x4), (0, .ref (am 200)), (1, .int v1), (4, .int v4)]) hx hb dX2_remainder_23 rfl hl (by decide) rfl (fun ls hl => ?_)
      obtain ⟨x5, ex5, ho⟩ := nm_x ho
      refine lv_iinc (v := x5) (lv' := [(4, .int x5), (2, .long x4), (0, .ref (am 200)), (1, .int v1)]) hx hb dX2_remainder_24 hl (k := 3) rfl (by rw [ex5]; rfl) (by decide) rfl (fun ls hl => ?_)
      clear ex5
      refine lv_goto (tgt := 5) hx hb dX2_remainder_27 (by decide) ?_
      cases ho
      exact ih _ _ hrun _ _ _ hW (lv_sub hl [2, 3, 1, 0] rfl)
set_option maxHeartbeats 4000000 in
set_option maxRecDepth 100000 in
theorem c_x2_remainder_200 (l : Launch) {D : va_G} {cI cJ cZ cR : ClassId} {am gm : Nat → Nat} {st : Nat} (sz : Nat) (t : St) (a1 : Int32) {r : Int32} (ho : x2_remainder_200 t a1 = some r) : Met l yX2_remainder (.code yX2_remainder cX2_remainder 5 (some .int) :: wsAll) (rmN 0 0) (va_Pc [.ref (am 200), .int a1] (prX D (tyX cI cJ cZ cR) (wX cI cJ cZ cR am gm t) sz st)) (qI r D (tyX cI cJ cZ cR) (wX cI cJ cZ cR am gm t) (va_A (wX cI cJ cZ cR am gm t) sz)) 0 0 (va_A (wX cI cJ cZ cR am gm t) sz) := by
  refine Met.ofW (cc := cX2_remainder) (maxL := 5) (ret := (some .int)) (by decide) rfl ?_
  intro p e s m args below meth c s₁ B hml hv
  obtain ⟨rfl, ⟨hsz, hP, hK, hD0⟩, hsx⟩ := hv
  have hx := B.exec
  have hb := B.bytes
  have hts := atoms_spec (ws := (.code yX2_remainder cX2_remainder 5 (some .int) :: wsAll)) B.pre
  have hta := fun w h => hts w (List.mem_cons_of_mem _ h)
  have hown : s.vm.findClass RX2 = some m.cls := findClass_of_methodNamed B.named
  have hlocks := B.notSynchronized
  subst hsz
  have hD := hD0.self (sz := s.heap.size)
  generalize hAe : va_A (wX cI cJ cZ cR am gm t) s.heap.size = A at hD ⊢
  have hA : ∀ q : Nat, s.heap.size ≤ q → A q := fun q h => by rw [← hAe]; exact Or.inr h
  have C0 : cxX p s m ([.ref (am 200), .int a1].toArray) meth c cX2_remainder RX2 5 (some .int) D (tyX cI cJ cZ cR) st A := ⟨⟨hx, hb, B.returns, hml, hown, hta, hlocks, hK, hA⟩, by rw [← hAe]; exact hsx⟩
  have hW : wl D A s (wX cI cJ cZ cR am gm t) s.heap [] := ⟨hP, hD, va_S.rf⟩
  have hl := lv_entry [.ref (am 200), .int a1] (n := 5) (Nat.le_of_ble_eq_true rfl)
  rw [lg_entry_eq]
  generalize (lg_sl [.ref (am 200), .int a1] ++ List.replicate (5 - (lg_sl [.ref (am 200), .int a1]).length) Slot.unset).toArray = ls at hl ⊢
  have hl : lv_has ls 5 [(0, .ref (am 200)), (1, .int a1)] := hl
  unfold x2_remainder_200 at ho
  refine lv_lconst (v := (0 : Int64)) hx hb dX2_remainder_0 (by decide) ?_
  refine lv_lstore_n (lv' := [(2, .long (0 : Int64)), (0, .ref (am 200)), (1, .int a1)]) hx hb dX2_remainder_1 rfl hl (by decide) rfl (fun ls hl => ?_)
  refine lv_iconst (v := (5 : Int32)) hx hb dX2_remainder_2 (by decide) ?_
  refine lv_istore (lv' := [(4, .int (5 : Int32)), (2, .long (0 : Int64)), (0, .ref (am 200)), (1, .int a1)]) hx hb dX2_remainder_3 hl (by decide) rfl (fun ls hl => ?_)
  obtain ⟨y6, hc8, ho⟩ := bd_some ho
  obtain ⟨ny6, hc8⟩ := lp_to hc8
  refine x2_remainder_200_L5 C0 ?_ ny6 _ _ hc8 _ _ _ hW (lv_sub hl [2, 3, 1, 0] rfl)
  intro H locs ls hW hl
  refine lv_lload_n hx hb dX2_remainder_30 rfl (lv_at hl 0 rfl) ?_
  refine lv_l2i hx hb dX2_remainder_31 rfl ?_
  cases ho
  exact rtI C0.1 hW dX2_remainder_32
noncomputable def x2_divide_200_B5 (v1 : Int32) (v2 : Int64) (v4 : Int32) (t : St) : Option ((Int64 × Int32 × St) ⊕ (St)) :=
  if v4 < 0 then (some (.inr t)) else (gd v4 (gN t 200) (nm (((v2 <<< (((30 : Int32)).toInt64 &&& 63))) + ((gA t 200 (v4).toNatClampNeg)).toInt64) (fun x3 : Int64 => dvl (v1).toInt64 (gd v4 (gN t 200) (nm (sA t 200 v4 ((x3 / (v1).toInt64)).toInt32) (fun t6 : St => dvl (v1).toInt64 (nm (x3 - x3 / (v1).toInt64 * (v1).toInt64) (fun x8 : Int64 => nm (v4 + (-1 : Int32)) (fun x9 : Int32 => some (.inl (x8, x9, t6)))))))))))
theorem mm_x2_divide_200_B5 (v1 : Int32) (v2 : Int64) (v4 : Int32) (t : St) : MR (x2_divide_200_B5 v1 v2 v4 t) t (Sum.elim (fun (x : Int64 × Int32 × St) => x.2.2) (fun (y : St) => y)) := by
  unfold x2_divide_200_B5
  exact MR_ite (MR_some mle.rfl) (MR_gd (MR_nm (fun x3 _ => MR_dvl (MR_gd (MR_nmS mle_sA (fun t6 ht6 => MR_dvl (MR_nm (fun x8 _ => MR_nm (fun x9 _ => MR_some ht6)))))))))
theorem mm_x2_divide_200_L5 (v1 : Int32) (v2 : Int64) (v4 : Int32) (t : St) : MR (lp (fun x => x2_divide_200_B5 v1 x.1 x.2.1 x.2.2) (v2, v4, t)) t (fun (y : St) => y) := MR_lp (p := (fun (x : Int64 × Int32 × St) => x.2.2)) (q := (fun (y : St) => y)) (fun x => mm_x2_divide_200_B5 v1 x.1 x.2.1 x.2.2) (v2, v4, t)
noncomputable def x2_divide_200 (t : St) (a1 : Int32) : Option (St) :=
  (lp (fun x => x2_divide_200_B5 a1 x.1 x.2.1 x.2.2) ((0 : Int64), (5 : Int32), t)).bind (fun y10 => some y10)
theorem mm_x2_divide_200 (t : St) (a1 : Int32) : MR (x2_divide_200 t a1) t (fun (a : St) => a) := by
  unfold x2_divide_200
  exact MR_bind (mm_x2_divide_200_L5 a1 (0 : Int64) (5 : Int32) t) (fun y10 hm11 => MR_some hm11)
set_option maxHeartbeats 4000000 in
set_option maxRecDepth 100000 in
theorem x2_divide_200_L5 {p : Program} {l : Launch} {e : Env} {s : State} {m : MethodId} {args : Array Value} {below : List Frame} {meth : Method} {c : Code} {Q : State → Prop} {D : va_G} {cI cJ cZ cR : ClassId} {am gm : Nat → Nat} {st : Nat} {A : Nat → Prop} (C0 : cxX p s m args meth c cX2_divide RX2 5 none D (tyX cI cJ cZ cR) st A) {v1 : Int32} {y : St} (hK0 : ∀ (H : Heap) (locs : List Loc) (ls : Array Slot), wl D A s (wX cI cJ cZ cR am gm y) H locs → lv_has ls 5 [] → W p l e (rmN 0 0) s m args below meth c H locs 0 0 Q (F0 m 41 ls [])) :
    ∀ (n : Nat) (v2 : Int64) (v4 : Int32) (t : St), lpn (fun x => x2_divide_200_B5 v1 x.1 x.2.1 x.2.2) n (v2, v4, t) = some y → ∀ (H : Heap) (locs : List Loc) (ls : Array Slot), wl D A s (wX cI cJ cZ cR am gm t) H locs → lv_has ls 5 [(0, .ref (am 200)), (1, .int v1), (2, .long v2), (4, .int v4)] → W p l e (rmN 0 0) s m args below meth c H locs 0 0 Q (F0 m 5 ls []) := by
  have hx := C0.1.1
  have hb := C0.1.2.1
  have hta := C0.1.2.2.2.2.2.1
  have hown := C0.1.2.2.2.2.1
  intro n
  induction n with
  | zero => intro _ _ _ h; cases h
  | succ n ih =>
    intro v2 v4 t hrun H locs ls hW hl
    obtain ⟨o, ho, hrun⟩ := bd_some hrun
    unfold x2_divide_200_B5 at ho
    refine lv_iload hx hb dX2_divide_5 (lv_at hl 3 rfl) ?_
    refine lv_if_lt (tgt := 41) hx hb dX2_divide_7 (by decide) (fun c1 => ?_) (fun c1 => ?_)
    · replace ho := ite_t c1 ho
      cases ho
      cases hrun
      exact hK0 _ _ _ hW (lv_sub hl [] rfl)
    · replace ho := ite_f c1 ho
      refine lv_lload_n hx hb dX2_divide_10 rfl (lv_at hl 2 rfl) ?_
      refine lv_bipush (v := (30 : Int32)) hx hb dX2_divide_11 (by decide) ?_
      refine lv_lshl hx hb dX2_divide_13 rfl ?_
      refine lv_aload_n hx hb dX2_divide_14 rfl (lv_at hl 0 rfl) ?_
      refine lv_iload hx hb dX2_divide_15 (lv_at hl 3 rfl) ?_
      obtain ⟨g2, ho⟩ := gd_some ho
      refine xLD_200 C0 hW g2 dX2_divide_17 ?_
      refine lv_i2l hx hb dX2_divide_18 rfl ?_
      refine lv_ladd hx hb dX2_divide_19 ?_
      refine lv_nml ho (fun x3 ho => ?_)
      refine lv_lstore_n (lv' := [(2, .long x3), (0, .ref (am 200)), (1, .int v1), (4, .int v4)]) hx hb dX2_divide_20 rfl hl (by decide) rfl (fun ls hl => ?_)
      refine lv_aload_n hx hb dX2_divide_21 rfl (lv_at hl 1 rfl) ?_
      refine lv_iload hx hb dX2_divide_22 (lv_at hl 3 rfl) ?_
      refine lv_lload_n hx hb dX2_divide_24 rfl (lv_at hl 0 rfl) ?_
      refine lv_iload_n hx hb dX2_divide_25 rfl (lv_at hl 2 rfl) ?_
      refine lv_i2l hx hb dX2_divide_26 rfl ?_
      obtain ⟨g4, ho⟩ := dvl_some ho
      refine lv_ldiv hx hb dX2_divide_27 g4 ?_
      refine lv_l2i hx hb dX2_divide_28 rfl ?_
      obtain ⟨g5, ho⟩ := gd_some ho
      refine xST_200 C0 hW g5 dX2_divide_29 (fun H locs hW => ?_)
      obtain ⟨t6, ho, hW⟩ := nm_w (P := fun t => wl D A s (wX cI cJ cZ cR am gm t) H locs) ho hW
      refine lv_lload_n hx hb dX2_divide_30 rfl (lv_at hl 0 rfl) ?_
      refine lv_iload_n hx hb dX2_divide_31 rfl (lv_at hl 2 rfl) ?_
      refine lv_i2l hx hb dX2_divide_32 rfl ?_
      obtain ⟨g7, ho⟩ := dvl_some ho
      refine lv_lrem hx hb dX2_divide_33 g7 ?_
      refine lv_nml ho (fun x8 ho => ?_)
      refine lv_lstore_n (lv' := [(2, .long x8), (0, .ref (am 200)), (1, .int v1), (4, .int v4)]) hx hb dX2_divide_34 rfl hl (by decide) rfl (fun ls hl => ?_)
      obtain ⟨x9, ex9, ho⟩ := nm_x ho
      refine lv_iinc (v := x9) (lv' := [(4, .int x9), (2, .long x8), (0, .ref (am 200)), (1, .int v1)]) hx hb dX2_divide_35 hl (k := 3) rfl (by rw [ex9]; rfl) (by decide) rfl (fun ls hl => ?_)
      clear ex9
      refine lv_goto (tgt := 5) hx hb dX2_divide_38 (by decide) ?_
      cases ho
      exact ih _ _ _ hrun _ _ _ hW (lv_sub hl [2, 3, 1, 0] rfl)
set_option maxHeartbeats 4000000 in
set_option maxRecDepth 100000 in
theorem c_x2_divide_200 (l : Launch) {D : va_G} {cI cJ cZ cR : ClassId} {am gm : Nat → Nat} {st : Nat} (sz : Nat) (t : St) (a1 : Int32) {t' : St} (ho : x2_divide_200 t a1 = some t') : Met l yX2_divide (.code yX2_divide cX2_divide 5 none :: wsAll) (rmN 0 0) (va_Pc [.ref (am 200), .int a1] (prX D (tyX cI cJ cZ cR) (wX cI cJ cZ cR am gm t) sz st)) (qV D (tyX cI cJ cZ cR) (wX cI cJ cZ cR am gm t') (va_A (wX cI cJ cZ cR am gm t) sz)) 0 0 (va_A (wX cI cJ cZ cR am gm t) sz) := by
  refine Met.ofW (cc := cX2_divide) (maxL := 5) (ret := none) (by decide) rfl ?_
  intro p e s m args below meth c s₁ B hml hv
  obtain ⟨rfl, ⟨hsz, hP, hK, hD0⟩, hsx⟩ := hv
  have hx := B.exec
  have hb := B.bytes
  have hts := atoms_spec (ws := (.code yX2_divide cX2_divide 5 none :: wsAll)) B.pre
  have hta := fun w h => hts w (List.mem_cons_of_mem _ h)
  have hown : s.vm.findClass RX2 = some m.cls := findClass_of_methodNamed B.named
  have hlocks := B.notSynchronized
  subst hsz
  have hD := hD0.self (sz := s.heap.size)
  generalize hAe : va_A (wX cI cJ cZ cR am gm t) s.heap.size = A at hD ⊢
  have hA : ∀ q : Nat, s.heap.size ≤ q → A q := fun q h => by rw [← hAe]; exact Or.inr h
  have C0 : cxX p s m ([.ref (am 200), .int a1].toArray) meth c cX2_divide RX2 5 none D (tyX cI cJ cZ cR) st A := ⟨⟨hx, hb, B.returns, hml, hown, hta, hlocks, hK, hA⟩, by rw [← hAe]; exact hsx⟩
  have hW : wl D A s (wX cI cJ cZ cR am gm t) s.heap [] := ⟨hP, hD, va_S.rf⟩
  have hl := lv_entry [.ref (am 200), .int a1] (n := 5) (Nat.le_of_ble_eq_true rfl)
  rw [lg_entry_eq]
  generalize (lg_sl [.ref (am 200), .int a1] ++ List.replicate (5 - (lg_sl [.ref (am 200), .int a1]).length) Slot.unset).toArray = ls at hl ⊢
  have hl : lv_has ls 5 [(0, .ref (am 200)), (1, .int a1)] := hl
  unfold x2_divide_200 at ho
  refine lv_lconst (v := (0 : Int64)) hx hb dX2_divide_0 (by decide) ?_
  refine lv_lstore_n (lv' := [(2, .long (0 : Int64)), (0, .ref (am 200)), (1, .int a1)]) hx hb dX2_divide_1 rfl hl (by decide) rfl (fun ls hl => ?_)
  refine lv_iconst (v := (5 : Int32)) hx hb dX2_divide_2 (by decide) ?_
  refine lv_istore (lv' := [(4, .int (5 : Int32)), (2, .long (0 : Int64)), (0, .ref (am 200)), (1, .int a1)]) hx hb dX2_divide_3 hl (by decide) rfl (fun ls hl => ?_)
  obtain ⟨y10, hc12, ho⟩ := bd_some ho
  obtain ⟨ny10, hc12⟩ := lp_to hc12
  refine x2_divide_200_L5 C0 ?_ ny10 _ _ _ hc12 _ _ _ hW (lv_sub hl [2, 3, 1, 0] rfl)
  intro H locs ls hW hl
  cases ho
  exact rtV C0.1 hW dX2_divide_41
noncomputable def x2_putThousandths_12_B123 (v5 : Int32) (v6 : Int32) (v7 : Int32) (t : St) : Option ((Int32 × St) ⊕ (St)) :=
  if v5 ≤ v7 then (some (.inr t)) else ((x2_multiply_201 t (0 : Int32) (6 : Int32) (2 : Int32)).bind (fun q2 => nm (v7 + (1 : Int32)) (fun x4 : Int32 => some (.inl (x4, q2)))))
theorem mm_x2_putThousandths_12_B123 (v5 : Int32) (v6 : Int32) (v7 : Int32) (t : St) : MR (x2_putThousandths_12_B123 v5 v6 v7 t) t (Sum.elim (fun (x : Int32 × St) => x.2) (fun (y : St) => y)) := by
  unfold x2_putThousandths_12_B123
  exact MR_ite (MR_some mle.rfl) (MR_bind (mm_x2_multiply_201 t (0 : Int32) (6 : Int32) (2 : Int32)) (fun q2 hq2 => MR_nm (fun x4 _ => MR_some hq2)))
theorem mm_x2_putThousandths_12_L123 (v5 : Int32) (v6 : Int32) (v7 : Int32) (t : St) : MR (lp (fun x => x2_putThousandths_12_B123 v5 v6 x.1 x.2) (v7, t)) t (fun (y : St) => y) := MR_lp (p := (fun (x : Int32 × St) => x.2)) (q := (fun (y : St) => y)) (fun x => mm_x2_putThousandths_12_B123 v5 v6 x.1 x.2) (v7, t)
noncomputable def x2_putThousandths_12_B150 (v6 : Int32) (v7 : Int32) (t : St) : Option ((Int32 × St) ⊕ (St)) :=
  if v6 ≤ v7 then (some (.inr t)) else ((x2_multiply_201 t (0 : Int32) (6 : Int32) (5 : Int32)).bind (fun q6 => nm (v7 + (1 : Int32)) (fun x8 : Int32 => some (.inl (x8, q6)))))
theorem mm_x2_putThousandths_12_B150 (v6 : Int32) (v7 : Int32) (t : St) : MR (x2_putThousandths_12_B150 v6 v7 t) t (Sum.elim (fun (x : Int32 × St) => x.2) (fun (y : St) => y)) := by
  unfold x2_putThousandths_12_B150
  exact MR_ite (MR_some mle.rfl) (MR_bind (mm_x2_multiply_201 t (0 : Int32) (6 : Int32) (5 : Int32)) (fun q6 hq6 => MR_nm (fun x8 _ => MR_some hq6)))
theorem mm_x2_putThousandths_12_L150 (v6 : Int32) (v7 : Int32) (t : St) : MR (lp (fun x => x2_putThousandths_12_B150 v6 x.1 x.2) (v7, t)) t (fun (y : St) => y) := MR_lp (p := (fun (x : Int32 × St) => x.2)) (q := (fun (y : St) => y)) (fun x => mm_x2_putThousandths_12_B150 v6 x.1 x.2) (v7, t)
noncomputable def x2_putThousandths_12_B45 (v6 : Int32) (v5 : Int32) (t : St) : Option ((Int32 × St) ⊕ (Int32 × St)) :=
  if v5 ≤ 0 then (some (.inr (v5, t))) else ((x2_remainder_200 t (2 : Int32)).bind (fun q10 => if q10 = 0 then ((x2_divide_200 t (2 : Int32)).bind (fun q13 => nm (v5 + (-1 : Int32)) (fun x15 : Int32 => some (.inl (x15, q13))))) else (some (.inr (v5, t)))))
theorem mm_x2_putThousandths_12_B45 (v6 : Int32) (v5 : Int32) (t : St) : MR (x2_putThousandths_12_B45 v6 v5 t) t (Sum.elim (fun (x : Int32 × St) => x.2) (fun (y : Int32 × St) => y.2)) := by
  unfold x2_putThousandths_12_B45
  exact MR_ite (MR_some mle.rfl) (MR_bindn (fun q10 => MR_ite (MR_bind (mm_x2_divide_200 t (2 : Int32)) (fun q13 hq13 => MR_nm (fun x15 _ => MR_some hq13))) (MR_some mle.rfl)))
theorem mm_x2_putThousandths_12_L45 (v6 : Int32) (v5 : Int32) (t : St) : MR (lp (fun x => x2_putThousandths_12_B45 v6 x.1 x.2) (v5, t)) t (fun (y : Int32 × St) => y.2) := MR_lp (p := (fun (x : Int32 × St) => x.2)) (q := (fun (y : Int32 × St) => y.2)) (fun x => mm_x2_putThousandths_12_B45 v6 x.1 x.2) (v5, t)
noncomputable def x2_putThousandths_12_B75 (v5 : Int32) (v6 : Int32) (t : St) : Option ((Int32 × St) ⊕ (Int32 × St)) :=
  if v6 ≤ 0 then (some (.inr (v6, t))) else ((x2_remainder_200 t (5 : Int32)).bind (fun q17 => if q17 = 0 then ((x2_divide_200 t (5 : Int32)).bind (fun q20 => nm (v6 + (-1 : Int32)) (fun x22 : Int32 => some (.inl (x22, q20))))) else (some (.inr (v6, t)))))
theorem mm_x2_putThousandths_12_B75 (v5 : Int32) (v6 : Int32) (t : St) : MR (x2_putThousandths_12_B75 v5 v6 t) t (Sum.elim (fun (x : Int32 × St) => x.2) (fun (y : Int32 × St) => y.2)) := by
  unfold x2_putThousandths_12_B75
  exact MR_ite (MR_some mle.rfl) (MR_bindn (fun q17 => MR_ite (MR_bind (mm_x2_divide_200 t (5 : Int32)) (fun q20 hq20 => MR_nm (fun x22 _ => MR_some hq20))) (MR_some mle.rfl)))
theorem mm_x2_putThousandths_12_L75 (v5 : Int32) (v6 : Int32) (t : St) : MR (lp (fun x => x2_putThousandths_12_B75 v5 x.1 x.2) (v6, t)) t (fun (y : Int32 × St) => y.2) := MR_lp (p := (fun (x : Int32 × St) => x.2)) (q := (fun (y : Int32 × St) => y.2)) (fun x => mm_x2_putThousandths_12_B75 v5 x.1 x.2) (v6, t)
noncomputable def x2_putThousandths_12_J39 (t : St) (w0 : Int32) : Option (St) :=
  (lp (fun x => x2_putThousandths_12_B45 w0 x.1 x.2) (w0, t)).bind (fun y23 => (lp (fun x => x2_putThousandths_12_B75 y23.1 x.1 x.2) (w0, y23.2)).bind (fun y26 => (j7_fill_53178_201 y26.2 (0 : Int32)).bind (fun q29 => gd (0 : Int32) (gN q29 201) (nm (sA q29 201 (0 : Int32) (1 : Int32)) (fun t32 : St => (lp (fun x => x2_putThousandths_12_B123 y23.1 y26.1 x.1 x.2) ((0 : Int32), t32)).bind (fun y33 => (lp (fun x => x2_putThousandths_12_B150 y26.1 x.1 x.2) ((0 : Int32), y33)).bind (fun y36 => some y36)))))))
theorem mm_x2_putThousandths_12_J39 (t : St) (w0 : Int32) : MR (x2_putThousandths_12_J39 t w0) t (fun (a : St) => a) := by
  unfold x2_putThousandths_12_J39
  exact MR_bind (mm_x2_putThousandths_12_L45 w0 w0 t) (fun y23 hm24 => MR_bind (mm_x2_putThousandths_12_L75 y23.1 w0 y23.2) (fun y26 hm27 => MR_bind (mm_j7_fill_53178_201 y26.2 (0 : Int32)) (fun q29 hq29 => MR_gd (MR_nmS mle_sA (fun t32 ht32 => MR_bind (mm_x2_putThousandths_12_L123 y23.1 y26.1 (0 : Int32) t32) (fun y33 hm34 => MR_bind (mm_x2_putThousandths_12_L150 y26.1 (0 : Int32) y33) (fun y36 hm37 => MR_some (mle.trans (mle.trans (mle.trans (mle.trans (mle.trans hm24 hm27) hq29) ht32) hm34) hm37))))))))
noncomputable def x2_putThousandths_12 (t : St) (a2 : Int32) (a3 : Int32) (a4 : Int32) : Option (St) :=
  (j7_fill_53178_200 t (0 : Int32)).bind (fun q39 => cpk a2 (0 : Int32) (if (6 : Int32) < a3 then (6 : Int32) else a3) (gN q39 12) (gN q39 200) (nm (sAr q39 200 (va_cpy (gA q39 12) (gA q39 200) (a2).toNatClampNeg ((0 : Int32)).toNatClampNeg ((if (6 : Int32) < a3 then (6 : Int32) else a3)).toNatClampNeg)) (fun t42 : St => (x2_isZero t42).bind (fun q43 => if q43 = 0 then (x2_putThousandths_12_J39 t42 ((3 : Int32) * a4)) else (x2_putThousandths_12_J39 t42 (0 : Int32))))))
theorem mm_x2_putThousandths_12 (t : St) (a2 : Int32) (a3 : Int32) (a4 : Int32) : MR (x2_putThousandths_12 t a2 a3 a4) t (fun (a : St) => a) := by
  unfold x2_putThousandths_12
  exact MR_bind (mm_j7_fill_53178_200 t (0 : Int32)) (fun q39 hq39 => MR_cpk (MR_nmS mle_sAr (fun t42 ht42 => MR_bindn (fun q43 => MR_ite (MR_wk (mle.trans hq39 ht42) (mm_x2_putThousandths_12_J39 t42 ((3 : Int32) * a4))) (MR_wk (mle.trans hq39 ht42) (mm_x2_putThousandths_12_J39 t42 (0 : Int32)))))))
set_option maxHeartbeats 4000000 in
set_option maxRecDepth 100000 in
theorem x2_putThousandths_12_L123 {p : Program} {l : Launch} {e : Env} {s : State} {m : MethodId} {args : Array Value} {below : List Frame} {meth : Method} {c : Code} {Q : State → Prop} {D : va_G} {cI cJ cZ cR : ClassId} {am gm : Nat → Nat} {st : Nat} {A : Nat → Prop} (C0 : cxX p s m args meth c cX2_putThousandths RX2 8 none D (tyX cI cJ cZ cR) st A) {v5 : Int32} {v6 : Int32} {y : St} (hK0 : ∀ (H : Heap) (locs : List Loc) (ls : Array Slot), wl D A s (wX cI cJ cZ cR am gm y) H locs → lv_has ls 8 [(0, .ref (am 1002)), (6, .int v6)] → W p l e (rmN 2 60) s m args below meth c H locs 0 0 Q (F0 m 147 ls [])) :
    ∀ (n : Nat) (v7 : Int32) (t : St), lpn (fun x => x2_putThousandths_12_B123 v5 v6 x.1 x.2) n (v7, t) = some y → ∀ (H : Heap) (locs : List Loc) (ls : Array Slot), wl D A s (wX cI cJ cZ cR am gm t) H locs → lv_has ls 8 [(0, .ref (am 1002)), (5, .int v5), (6, .int v6), (7, .int v7)] → W p l e (rmN 2 60) s m args below meth c H locs 0 0 Q (F0 m 123 ls []) := by
  have hx := C0.1.1
  have hb := C0.1.2.1
  have hta := C0.1.2.2.2.2.2.1
  have hown := C0.1.2.2.2.2.1
  intro n
  induction n with
  | zero => intro _ _ h; cases h
  | succ n ih =>
    intro v7 t hrun H locs ls hW hl
    obtain ⟨o, ho, hrun⟩ := bd_some hrun
    unfold x2_putThousandths_12_B123 at ho
    refine lv_iload hx hb dX2_putThousandths_123 (lv_at hl 3 rfl) ?_
    refine lv_iload hx hb dX2_putThousandths_125 (lv_at hl 1 rfl) ?_
    refine lv_icmp_ge (tgt := 147) hx hb dX2_putThousandths_127 (by decide) (fun c1 => ?_) (fun c1 => ?_)
    · replace ho := ite_t c1 ho
      cases ho
      cases hrun
      exact hK0 _ _ _ hW (lv_sub hl [0, 2] rfl)
    · replace ho := ite_f c1 ho
      refine lv_aload_n hx hb dX2_putThousandths_130 rfl (lv_at hl 0 rfl) ?_
      refine xGET_201 C0 kw_370 hW dX2_putThousandths_131 ?_
      refine lv_iconst (v := (0 : Int32)) hx hb dX2_putThousandths_134 (by decide) ?_
      refine lv_bipush (v := (6 : Int32)) hx hb dX2_putThousandths_135 (by decide) ?_
      refine lv_iconst (v := (2 : Int32)) hx hb dX2_putThousandths_137 (by decide) ?_
      obtain ⟨q2, hc3, ho⟩ := bd_some ho
      refine bkV C0.1 hW (runSX (As := [.ref (am 201), .int (0 : Int32), .int (6 : Int32), .int (2 : Int32)]) (rest := []) C0 hW (c_x2_multiply_201 l _ t (0 : Int32) (6 : Int32) (2 : Int32) (t' := q2) hc3) cb_X2_X2_multiply_51 rfl rfl ⟨rfl, rfl⟩ ⟨Nat.le_of_ble_eq_true rfl, Nat.le_of_ble_eq_true rfl⟩ (Nat.le_of_ble_eq_true rfl) hl.1 dX2_putThousandths_138 ⟨Nat.le_of_ble_eq_true rfl, Nat.le_of_ble_eq_true rfl⟩) (fun H locs hW => ?_)
      obtain ⟨x4, ex4, ho⟩ := nm_x ho
      refine lv_iinc (v := x4) (lv' := [(7, .int x4), (0, .ref (am 1002)), (5, .int v5), (6, .int v6)]) hx hb dX2_putThousandths_141 hl (k := 3) rfl (by rw [ex4]; rfl) (by decide) rfl (fun ls hl => ?_)
      clear ex4
      refine lv_goto (tgt := 123) hx hb dX2_putThousandths_144 (by decide) ?_
      cases ho
      exact ih _ _ hrun _ _ _ hW (lv_sub hl [1, 2, 3, 0] rfl)
set_option maxHeartbeats 4000000 in
set_option maxRecDepth 100000 in
theorem x2_putThousandths_12_L150 {p : Program} {l : Launch} {e : Env} {s : State} {m : MethodId} {args : Array Value} {below : List Frame} {meth : Method} {c : Code} {Q : State → Prop} {D : va_G} {cI cJ cZ cR : ClassId} {am gm : Nat → Nat} {st : Nat} {A : Nat → Prop} (C0 : cxX p s m args meth c cX2_putThousandths RX2 8 none D (tyX cI cJ cZ cR) st A) {v6 : Int32} {y : St} (hK0 : ∀ (H : Heap) (locs : List Loc) (ls : Array Slot), wl D A s (wX cI cJ cZ cR am gm y) H locs → lv_has ls 8 [(0, .ref (am 1002))] → W p l e (rmN 2 60) s m args below meth c H locs 0 0 Q (F0 m 174 ls [])) :
    ∀ (n : Nat) (v7 : Int32) (t : St), lpn (fun x => x2_putThousandths_12_B150 v6 x.1 x.2) n (v7, t) = some y → ∀ (H : Heap) (locs : List Loc) (ls : Array Slot), wl D A s (wX cI cJ cZ cR am gm t) H locs → lv_has ls 8 [(0, .ref (am 1002)), (6, .int v6), (7, .int v7)] → W p l e (rmN 2 60) s m args below meth c H locs 0 0 Q (F0 m 150 ls []) := by
  have hx := C0.1.1
  have hb := C0.1.2.1
  have hta := C0.1.2.2.2.2.2.1
  have hown := C0.1.2.2.2.2.1
  intro n
  induction n with
  | zero => intro _ _ h; cases h
  | succ n ih =>
    intro v7 t hrun H locs ls hW hl
    obtain ⟨o, ho, hrun⟩ := bd_some hrun
    unfold x2_putThousandths_12_B150 at ho
    refine lv_iload hx hb dX2_putThousandths_150 (lv_at hl 2 rfl) ?_
    refine lv_iload hx hb dX2_putThousandths_152 (lv_at hl 1 rfl) ?_
    refine lv_icmp_ge (tgt := 174) hx hb dX2_putThousandths_154 (by decide) (fun c5 => ?_) (fun c5 => ?_)
    · replace ho := ite_t c5 ho
      cases ho
      cases hrun
      exact hK0 _ _ _ hW (lv_sub hl [0] rfl)
    · replace ho := ite_f c5 ho
      refine lv_aload_n hx hb dX2_putThousandths_157 rfl (lv_at hl 0 rfl) ?_
      refine xGET_201 C0 kw_370 hW dX2_putThousandths_158 ?_
      refine lv_iconst (v := (0 : Int32)) hx hb dX2_putThousandths_161 (by decide) ?_
      refine lv_bipush (v := (6 : Int32)) hx hb dX2_putThousandths_162 (by decide) ?_
      refine lv_iconst (v := (5 : Int32)) hx hb dX2_putThousandths_164 (by decide) ?_
      obtain ⟨q6, hc7, ho⟩ := bd_some ho
      refine bkV C0.1 hW (runSX (As := [.ref (am 201), .int (0 : Int32), .int (6 : Int32), .int (5 : Int32)]) (rest := []) C0 hW (c_x2_multiply_201 l _ t (0 : Int32) (6 : Int32) (5 : Int32) (t' := q6) hc7) cb_X2_X2_multiply_51 rfl rfl ⟨rfl, rfl⟩ ⟨Nat.le_of_ble_eq_true rfl, Nat.le_of_ble_eq_true rfl⟩ (Nat.le_of_ble_eq_true rfl) hl.1 dX2_putThousandths_165 ⟨Nat.le_of_ble_eq_true rfl, Nat.le_of_ble_eq_true rfl⟩) (fun H locs hW => ?_)
      obtain ⟨x8, ex8, ho⟩ := nm_x ho
      refine lv_iinc (v := x8) (lv' := [(7, .int x8), (0, .ref (am 1002)), (6, .int v6)]) hx hb dX2_putThousandths_168 hl (k := 2) rfl (by rw [ex8]; rfl) (by decide) rfl (fun ls hl => ?_)
      clear ex8
      refine lv_goto (tgt := 150) hx hb dX2_putThousandths_171 (by decide) ?_
      cases ho
      exact ih _ _ hrun _ _ _ hW (lv_sub hl [1, 2, 0] rfl)
set_option maxHeartbeats 4000000 in
set_option maxRecDepth 100000 in
theorem x2_putThousandths_12_L45 {p : Program} {l : Launch} {e : Env} {s : State} {m : MethodId} {args : Array Value} {below : List Frame} {meth : Method} {c : Code} {Q : State → Prop} {D : va_G} {cI cJ cZ cR : ClassId} {am gm : Nat → Nat} {st : Nat} {A : Nat → Prop} (C0 : cxX p s m args meth c cX2_putThousandths RX2 8 none D (tyX cI cJ cZ cR) st A) {v6 : Int32} {y : Int32 × St} (hK0 : ∀ (H : Heap) (locs : List Loc) (ls : Array Slot), wl D A s (wX cI cJ cZ cR am gm y.2) H locs → lv_has ls 8 [(0, .ref (am 1002)), (5, .int y.1), (6, .int v6)] → W p l e (rmN 2 60) s m args below meth c H locs 0 0 Q (F0 m 75 ls [])) :
    ∀ (n : Nat) (v5 : Int32) (t : St), lpn (fun x => x2_putThousandths_12_B45 v6 x.1 x.2) n (v5, t) = some y → ∀ (H : Heap) (locs : List Loc) (ls : Array Slot), wl D A s (wX cI cJ cZ cR am gm t) H locs → lv_has ls 8 [(0, .ref (am 1002)), (5, .int v5), (6, .int v6)] → W p l e (rmN 2 60) s m args below meth c H locs 0 0 Q (F0 m 45 ls []) := by
  have hx := C0.1.1
  have hb := C0.1.2.1
  have hta := C0.1.2.2.2.2.2.1
  have hown := C0.1.2.2.2.2.1
  intro n
  induction n with
  | zero => intro _ _ h; cases h
  | succ n ih =>
    intro v5 t hrun H locs ls hW hl
    obtain ⟨o, ho, hrun⟩ := bd_some hrun
    unfold x2_putThousandths_12_B45 at ho
    refine lv_iload hx hb dX2_putThousandths_45 (lv_at hl 1 rfl) ?_
    refine lv_if_le (tgt := 75) hx hb dX2_putThousandths_47 (by decide) (fun c9 => ?_) (fun c9 => ?_)
    · replace ho := ite_t c9 ho
      cases ho
      cases hrun
      exact hK0 _ _ _ hW (lv_sub hl [0, 1, 2] rfl)
    · replace ho := ite_f c9 ho
      refine lv_aload_n hx hb dX2_putThousandths_50 rfl (lv_at hl 0 rfl) ?_
      refine xGET_200 C0 kw_369 hW dX2_putThousandths_51 ?_
      refine lv_iconst (v := (2 : Int32)) hx hb dX2_putThousandths_54 (by decide) ?_
      obtain ⟨q10, hc11, ho⟩ := bd_some ho
      refine bkI C0.1 hW (runSX (As := [.ref (am 200), .int (2 : Int32)]) (rest := []) C0 hW (c_x2_remainder_200 l _ t (2 : Int32) (r := q10) hc11) cb_X2_X2_remainder_44 rfl rfl ⟨rfl, rfl⟩ ⟨Nat.le_of_ble_eq_true rfl, Nat.le_of_ble_eq_true rfl⟩ (Nat.le_of_ble_eq_true rfl) hl.1 dX2_putThousandths_55 ⟨Nat.le_of_ble_eq_true rfl, Nat.le_of_ble_eq_true rfl⟩) (fun H locs hW => ?_)
      refine lv_if_ne (tgt := 75) hx hb dX2_putThousandths_58 (by decide) (fun c12 => ?_) (fun c12 => ?_)
      · replace ho := ite_f c12 ho
        cases ho
        cases hrun
        exact hK0 _ _ _ hW (lv_sub hl [0, 1, 2] rfl)
      · replace ho := ite_t c12 ho
        refine lv_aload_n hx hb dX2_putThousandths_61 rfl (lv_at hl 0 rfl) ?_
        refine xGET_200 C0 kw_369 hW dX2_putThousandths_62 ?_
        refine lv_iconst (v := (2 : Int32)) hx hb dX2_putThousandths_65 (by decide) ?_
        obtain ⟨q13, hc14, ho⟩ := bd_some ho
        refine bkV C0.1 hW (runSX (As := [.ref (am 200), .int (2 : Int32)]) (rest := []) C0 hW (c_x2_divide_200 l _ t (2 : Int32) (t' := q13) hc14) cb_X2_X2_divide_48 rfl rfl ⟨rfl, rfl⟩ ⟨Nat.le_of_ble_eq_true rfl, Nat.le_of_ble_eq_true rfl⟩ (Nat.le_of_ble_eq_true rfl) hl.1 dX2_putThousandths_66 ⟨Nat.le_of_ble_eq_true rfl, Nat.le_of_ble_eq_true rfl⟩) (fun H locs hW => ?_)
        obtain ⟨x15, ex15, ho⟩ := nm_x ho
        refine lv_iinc (v := x15) (lv' := [(5, .int x15), (0, .ref (am 1002)), (6, .int v6)]) hx hb dX2_putThousandths_69 hl (k := 1) rfl (by rw [ex15]; rfl) (by decide) rfl (fun ls hl => ?_)
        clear ex15
        refine lv_goto (tgt := 45) hx hb dX2_putThousandths_72 (by decide) ?_
        cases ho
        exact ih _ _ hrun _ _ _ hW (lv_sub hl [1, 0, 2] rfl)
set_option maxHeartbeats 4000000 in
set_option maxRecDepth 100000 in
theorem x2_putThousandths_12_L75 {p : Program} {l : Launch} {e : Env} {s : State} {m : MethodId} {args : Array Value} {below : List Frame} {meth : Method} {c : Code} {Q : State → Prop} {D : va_G} {cI cJ cZ cR : ClassId} {am gm : Nat → Nat} {st : Nat} {A : Nat → Prop} (C0 : cxX p s m args meth c cX2_putThousandths RX2 8 none D (tyX cI cJ cZ cR) st A) {v5 : Int32} {y : Int32 × St} (hK0 : ∀ (H : Heap) (locs : List Loc) (ls : Array Slot), wl D A s (wX cI cJ cZ cR am gm y.2) H locs → lv_has ls 8 [(0, .ref (am 1002)), (5, .int v5), (6, .int y.1)] → W p l e (rmN 2 60) s m args below meth c H locs 0 0 Q (F0 m 105 ls [])) :
    ∀ (n : Nat) (v6 : Int32) (t : St), lpn (fun x => x2_putThousandths_12_B75 v5 x.1 x.2) n (v6, t) = some y → ∀ (H : Heap) (locs : List Loc) (ls : Array Slot), wl D A s (wX cI cJ cZ cR am gm t) H locs → lv_has ls 8 [(0, .ref (am 1002)), (5, .int v5), (6, .int v6)] → W p l e (rmN 2 60) s m args below meth c H locs 0 0 Q (F0 m 75 ls []) := by
  have hx := C0.1.1
  have hb := C0.1.2.1
  have hta := C0.1.2.2.2.2.2.1
  have hown := C0.1.2.2.2.2.1
  intro n
  induction n with
  | zero => intro _ _ h; cases h
  | succ n ih =>
    intro v6 t hrun H locs ls hW hl
    obtain ⟨o, ho, hrun⟩ := bd_some hrun
    unfold x2_putThousandths_12_B75 at ho
    refine lv_iload hx hb dX2_putThousandths_75 (lv_at hl 2 rfl) ?_
    refine lv_if_le (tgt := 105) hx hb dX2_putThousandths_77 (by decide) (fun c16 => ?_) (fun c16 => ?_)
    · replace ho := ite_t c16 ho
      cases ho
      cases hrun
      exact hK0 _ _ _ hW (lv_sub hl [0, 1, 2] rfl)
    · replace ho := ite_f c16 ho
      refine lv_aload_n hx hb dX2_putThousandths_80 rfl (lv_at hl 0 rfl) ?_
      refine xGET_200 C0 kw_369 hW dX2_putThousandths_81 ?_
      refine lv_iconst (v := (5 : Int32)) hx hb dX2_putThousandths_84 (by decide) ?_
      obtain ⟨q17, hc18, ho⟩ := bd_some ho
      refine bkI C0.1 hW (runSX (As := [.ref (am 200), .int (5 : Int32)]) (rest := []) C0 hW (c_x2_remainder_200 l _ t (5 : Int32) (r := q17) hc18) cb_X2_X2_remainder_44 rfl rfl ⟨rfl, rfl⟩ ⟨Nat.le_of_ble_eq_true rfl, Nat.le_of_ble_eq_true rfl⟩ (Nat.le_of_ble_eq_true rfl) hl.1 dX2_putThousandths_85 ⟨Nat.le_of_ble_eq_true rfl, Nat.le_of_ble_eq_true rfl⟩) (fun H locs hW => ?_)
      refine lv_if_ne (tgt := 105) hx hb dX2_putThousandths_88 (by decide) (fun c19 => ?_) (fun c19 => ?_)
      · replace ho := ite_f c19 ho
        cases ho
        cases hrun
        exact hK0 _ _ _ hW (lv_sub hl [0, 1, 2] rfl)
      · replace ho := ite_t c19 ho
        refine lv_aload_n hx hb dX2_putThousandths_91 rfl (lv_at hl 0 rfl) ?_
        refine xGET_200 C0 kw_369 hW dX2_putThousandths_92 ?_
        refine lv_iconst (v := (5 : Int32)) hx hb dX2_putThousandths_95 (by decide) ?_
        obtain ⟨q20, hc21, ho⟩ := bd_some ho
        refine bkV C0.1 hW (runSX (As := [.ref (am 200), .int (5 : Int32)]) (rest := []) C0 hW (c_x2_divide_200 l _ t (5 : Int32) (t' := q20) hc21) cb_X2_X2_divide_48 rfl rfl ⟨rfl, rfl⟩ ⟨Nat.le_of_ble_eq_true rfl, Nat.le_of_ble_eq_true rfl⟩ (Nat.le_of_ble_eq_true rfl) hl.1 dX2_putThousandths_96 ⟨Nat.le_of_ble_eq_true rfl, Nat.le_of_ble_eq_true rfl⟩) (fun H locs hW => ?_)
        obtain ⟨x22, ex22, ho⟩ := nm_x ho
        refine lv_iinc (v := x22) (lv' := [(6, .int x22), (0, .ref (am 1002)), (5, .int v5)]) hx hb dX2_putThousandths_99 hl (k := 2) rfl (by rw [ex22]; rfl) (by decide) rfl (fun ls hl => ?_)
        clear ex22
        refine lv_goto (tgt := 75) hx hb dX2_putThousandths_102 (by decide) ?_
        cases ho
        exact ih _ _ hrun _ _ _ hW (lv_sub hl [1, 2, 0] rfl)
set_option maxHeartbeats 4000000 in
set_option maxRecDepth 100000 in
theorem c_x2_putThousandths_12 (l : Launch) {D : va_G} {cI cJ cZ cR : ClassId} {am gm : Nat → Nat} {st : Nat} (sz : Nat) (t : St) (a2 : Int32) (a3 : Int32) (a4 : Int32) {t' : St} (ho : x2_putThousandths_12 t a2 a3 a4 = some t') : Met l yX2_putThousandths (.code yX2_putThousandths cX2_putThousandths 8 none :: wsAll) (rmN 2 60) (va_Pc [.ref (am 1002), .ref (gm 12), .int a2, .int a3, .int a4] (prX D (tyX cI cJ cZ cR) (wX cI cJ cZ cR am gm t) sz st)) (qV D (tyX cI cJ cZ cR) (wX cI cJ cZ cR am gm t') (va_A (wX cI cJ cZ cR am gm t) sz)) 0 0 (va_A (wX cI cJ cZ cR am gm t) sz) := by
  refine Met.ofW (cc := cX2_putThousandths) (maxL := 8) (ret := none) (by decide) rfl ?_
  intro p e s m args below meth c s₁ B hml hv
  obtain ⟨rfl, ⟨hsz, hP, hK, hD0⟩, hsx⟩ := hv
  have hx := B.exec
  have hb := B.bytes
  have hts := atoms_spec (ws := (.code yX2_putThousandths cX2_putThousandths 8 none :: wsAll)) B.pre
  have hta := fun w h => hts w (List.mem_cons_of_mem _ h)
  have hown : s.vm.findClass RX2 = some m.cls := findClass_of_methodNamed B.named
  have hlocks := B.notSynchronized
  subst hsz
  have hD := hD0.self (sz := s.heap.size)
  generalize hAe : va_A (wX cI cJ cZ cR am gm t) s.heap.size = A at hD ⊢
  have hA : ∀ q : Nat, s.heap.size ≤ q → A q := fun q h => by rw [← hAe]; exact Or.inr h
  have C0 : cxX p s m ([.ref (am 1002), .ref (gm 12), .int a2, .int a3, .int a4].toArray) meth c cX2_putThousandths RX2 8 none D (tyX cI cJ cZ cR) st A := ⟨⟨hx, hb, B.returns, hml, hown, hta, hlocks, hK, hA⟩, by rw [← hAe]; exact hsx⟩
  have hW : wl D A s (wX cI cJ cZ cR am gm t) s.heap [] := ⟨hP, hD, va_S.rf⟩
  have hl := lv_entry [.ref (am 1002), .ref (gm 12), .int a2, .int a3, .int a4] (n := 8) (Nat.le_of_ble_eq_true rfl)
  rw [lg_entry_eq]
  generalize (lg_sl [.ref (am 1002), .ref (gm 12), .int a2, .int a3, .int a4] ++ List.replicate (8 - (lg_sl [.ref (am 1002), .ref (gm 12), .int a2, .int a3, .int a4]).length) Slot.unset).toArray = ls at hl ⊢
  have hl : lv_has ls 8 [(0, .ref (am 1002)), (1, .ref (gm 12)), (2, .int a2), (3, .int a3), (4, .int a4)] := hl
  clear hAe hD hP hD0 hts
  have J39 : ∀ (t : St) (w0 : Int32) (_ : x2_putThousandths_12_J39 t w0 = some t') (H : Heap) (locs : List Loc) (ls : Array Slot), wl D A s (wX cI cJ cZ cR am gm t) H locs → lv_has ls 8 [(0, .ref (am 1002))] → W p l e (rmN 2 60) s m ([.ref (am 1002), .ref (gm 12), .int a2, .int a3, .int a4].toArray) below meth c H locs 0 0 (MQ below (qV D (tyX cI cJ cZ cR) (wX cI cJ cZ cR am gm t') A) ([.ref (am 1002), .ref (gm 12), .int a2, .int a3, .int a4].toArray) s 0 0 A) (F0 m 39 ls [.int w0]) := by
    intro t w0 ho H locs ls hW hl
    unfold x2_putThousandths_12_J39 at ho
    refine lv_istore (lv' := [(5, .int w0), (0, .ref (am 1002))]) hx hb dX2_putThousandths_39 hl (by decide) rfl (fun ls hl => ?_)
    refine lv_iload hx hb dX2_putThousandths_41 (lv_at hl 0 rfl) ?_
    refine lv_istore (lv' := [(6, .int w0), (5, .int w0), (0, .ref (am 1002))]) hx hb dX2_putThousandths_43 hl (by decide) rfl (fun ls hl => ?_)
    obtain ⟨y23, hc25, ho⟩ := bd_some ho
    obtain ⟨ny23, hc25⟩ := lp_to hc25
    refine x2_putThousandths_12_L45 C0 ?_ ny23 _ _ hc25 _ _ _ hW (lv_sub hl [2, 1, 0] rfl)
    intro H locs ls hW hl
    obtain ⟨y26, hc28, ho⟩ := bd_some ho
    obtain ⟨ny26, hc28⟩ := lp_to hc28
    refine x2_putThousandths_12_L75 C0 ?_ ny26 _ _ hc28 _ _ _ hW (lv_sub hl [0, 1, 2] rfl)
    intro H locs ls hW hl
    refine lv_aload_n hx hb dX2_putThousandths_105 rfl (lv_at hl 0 rfl) ?_
    refine xGET_201 C0 kw_370 hW dX2_putThousandths_106 ?_
    refine lv_iconst (v := (0 : Int32)) hx hb dX2_putThousandths_109 (by decide) ?_
    obtain ⟨q29, hc30, ho⟩ := bd_some ho
    refine bkV C0.1 hW (runSX (As := [.ref (am 201), .int (0 : Int32)]) (rest := []) C0 hW (c_j7_fill_53178_201 l _ y26.2 (0 : Int32) (t' := q29) hc30) cb_X2_J7_fill_53178_22 rfl rfl ⟨rfl, rfl⟩ ⟨Nat.le_of_ble_eq_true rfl, Nat.le_of_ble_eq_true rfl⟩ (Nat.le_of_ble_eq_true rfl) hl.1 dX2_putThousandths_110 ⟨Nat.le_of_ble_eq_true rfl, Nat.le_of_ble_eq_true rfl⟩) (fun H locs hW => ?_)
    refine lv_aload_n hx hb dX2_putThousandths_113 rfl (lv_at hl 0 rfl) ?_
    refine xGET_201 C0 kw_370 hW dX2_putThousandths_114 ?_
    refine lv_iconst (v := (0 : Int32)) hx hb dX2_putThousandths_117 (by decide) ?_
    refine lv_iconst (v := (1 : Int32)) hx hb dX2_putThousandths_118 (by decide) ?_
    obtain ⟨g31, ho⟩ := gd_some ho
    refine xST_201 C0 hW g31 dX2_putThousandths_119 (fun H locs hW => ?_)
    obtain ⟨t32, ho, hW⟩ := nm_w (P := fun t => wl D A s (wX cI cJ cZ cR am gm t) H locs) ho hW
    refine lv_iconst (v := (0 : Int32)) hx hb dX2_putThousandths_120 (by decide) ?_
    refine lv_istore (lv' := [(7, .int (0 : Int32)), (0, .ref (am 1002)), (5, .int y23.1), (6, .int y26.1)]) hx hb dX2_putThousandths_121 hl (by decide) rfl (fun ls hl => ?_)
    obtain ⟨y33, hc35, ho⟩ := bd_some ho
    obtain ⟨ny33, hc35⟩ := lp_to hc35
    refine x2_putThousandths_12_L123 C0 ?_ ny33 _ _ hc35 _ _ _ hW (lv_sub hl [1, 2, 3, 0] rfl)
    intro H locs ls hW hl
    refine lv_iconst (v := (0 : Int32)) hx hb dX2_putThousandths_147 (by decide) ?_
    refine lv_istore (lv' := [(7, .int (0 : Int32)), (0, .ref (am 1002)), (6, .int y26.1)]) hx hb dX2_putThousandths_148 hl (by decide) rfl (fun ls hl => ?_)
    obtain ⟨y36, hc38, ho⟩ := bd_some ho
    obtain ⟨ny36, hc38⟩ := lp_to hc38
    refine x2_putThousandths_12_L150 C0 ?_ ny36 _ _ hc38 _ _ _ hW (lv_sub hl [1, 2, 0] rfl)
    intro H locs ls hW hl
    cases ho
    exact rtV C0.1 hW dX2_putThousandths_174
  unfold x2_putThousandths_12 at ho
  refine lv_aload_n hx hb dX2_putThousandths_0 rfl (lv_at hl 0 rfl) ?_
  refine xGET_200 C0 kw_369 hW dX2_putThousandths_1 ?_
  refine lv_iconst (v := (0 : Int32)) hx hb dX2_putThousandths_4 (by decide) ?_
  obtain ⟨q39, hc40, ho⟩ := bd_some ho
  refine bkV C0.1 hW (runSX (As := [.ref (am 200), .int (0 : Int32)]) (rest := []) C0 hW (c_j7_fill_53178_200 l _ t (0 : Int32) (t' := q39) hc40) cb_X2_J7_fill_53178_22 rfl rfl ⟨rfl, rfl⟩ ⟨Nat.le_of_ble_eq_true rfl, Nat.le_of_ble_eq_true rfl⟩ (Nat.le_of_ble_eq_true rfl) hl.1 dX2_putThousandths_5 ⟨Nat.le_of_ble_eq_true rfl, Nat.le_of_ble_eq_true rfl⟩) (fun H locs hW => ?_)
  refine lv_aload_n hx hb dX2_putThousandths_8 rfl (lv_at hl 1 rfl) ?_
  refine lv_iload_n hx hb dX2_putThousandths_9 rfl (lv_at hl 2 rfl) ?_
  refine lv_aload_n hx hb dX2_putThousandths_10 rfl (lv_at hl 0 rfl) ?_
  refine xGET_200 C0 kw_369 hW dX2_putThousandths_11 ?_
  refine lv_iconst (v := (0 : Int32)) hx hb dX2_putThousandths_14 (by decide) ?_
  refine lv_iload_n hx hb dX2_putThousandths_15 rfl (lv_at hl 3 rfl) ?_
  refine lv_bipush (v := (6 : Int32)) hx hb dX2_putThousandths_16 (by decide) ?_
  refine va_mmin (rest := [.int (0 : Int32), .ref (am 200), .int a2, .ref (gm 12)]) hx hb (C0.1.2.2.2.1.trans hl.1.symm) hown (hta _ kw_1006) (hta _ kw_748) (hta _ kw_136) (hta _ kw_749) (Nat.le_of_ble_eq_true rfl) (Nat.le_of_ble_eq_true rfl) (Nat.le_of_ble_eq_true rfl) (Nat.le_of_ble_eq_true rfl) dX2_putThousandths_18 ?_
  obtain ⟨g41, ho⟩ := cpk_some ho
  refine xCPY_12_200 (rest := []) C0 kw_1007 kw_752 kw_751 kw_137 hl.1 hW g41 (Nat.le_of_ble_eq_true rfl) (Nat.le_of_ble_eq_true rfl) dX2_putThousandths_21 (fun H locs hW => ?_)
  obtain ⟨t42, ho, hW⟩ := nm_w (P := fun t => wl D A s (wX cI cJ cZ cR am gm t) H locs) ho hW
  refine lv_aload_n hx hb dX2_putThousandths_24 rfl (lv_at hl 0 rfl) ?_
  obtain ⟨q43, hc44, ho⟩ := bd_some ho
  refine bkZ C0.1 hW (runVX (As := []) (rest := []) C0 hW (c_x2_isZero l _ t42 (r := q43) hc44) cb_X2_X2_isZero_40 2 2 rfl rfl rfl rfl rfl ⟨rfl, rfl⟩ ⟨Nat.le_of_ble_eq_true rfl, Nat.le_of_ble_eq_true rfl⟩ (Nat.le_of_ble_eq_true rfl) hl.1 dX2_putThousandths_25 ⟨Nat.le_of_ble_eq_true rfl, Nat.le_of_ble_eq_true rfl⟩) (fun z45 H locs hW => ?_)
  refine lv_if_eq (tgt := 35) hx hb dX2_putThousandths_28 (by decide) (fun c46 => ?_) (fun c46 => ?_)
  · replace ho := ite_t c46 ho
    refine lv_iconst (v := (3 : Int32)) hx hb dX2_putThousandths_35 (by decide) ?_
    refine lv_iload hx hb dX2_putThousandths_36 (lv_at hl 4 rfl) ?_
    refine lv_imul hx hb dX2_putThousandths_38 ?_
    exact J39 _ _ ho _ _ _ hW (lv_sub hl [0] rfl)
  · replace ho := ite_f c46 ho
    refine lv_iconst (v := (0 : Int32)) hx hb dX2_putThousandths_31 (by decide) ?_
    refine lv_goto (tgt := 39) hx hb dX2_putThousandths_32 (by decide) ?_
    exact J39 _ _ ho _ _ _ hW (lv_sub hl [0] rfl)
noncomputable def x11_chance_J56 (t : St) (w0 : Int32) : Option (Int32 × St) :=
  (x2_putThousandths_12 t w0 (gI t 6) (gI t 803)).bind (fun q1 => some ((1 : Int32), q1))
theorem mm_x11_chance_J56 (t : St) (w0 : Int32) : MR (x11_chance_J56 t w0) t (fun (a : Int32 × St) => a.2) := by
  unfold x11_chance_J56
  exact MR_bind (mm_x2_putThousandths_12 t w0 (gI t 6) (gI t 803)) (fun q1 hq1 => MR_some hq1)
noncomputable def x11_chance_J35 (t : St) (w0 : Int32) : Option (Int32 × St) :=
  if w0 = 0 then (some ((-5 : Int32), t)) else ((x0_takeOdds t (0 : Int32)).bind (fun q4 => (x0_work q4).bind (fun q6 => x11_chance_J56 q6.2 q6.1)))
theorem mm_x11_chance_J35 (t : St) (w0 : Int32) : MR (x11_chance_J35 t w0) t (fun (a : Int32 × St) => a.2) := by
  unfold x11_chance_J35
  exact MR_ite (MR_some mle.rfl) (MR_bind (mm_x0_takeOdds t (0 : Int32)) (fun q4 hq4 => MR_bind (mm_x0_work q4) (fun q6 hq6 => MR_wk (mle.trans hq4 hq6) (mm_x11_chance_J56 q6.2 q6.1))))
noncomputable def x11_chance (t0 : St) (a1 : Int32) : Option (Int32 × St) :=
  (x11_noNet t0 a1).bind (fun q8 => if q8 = 0 then (gd a1 (gN t0 602) (nm (gA t0 602 (a1).toNatClampNeg) (fun x13 : Int32 => if 0 ≤ x13 then ((x0_mayWork t0 x13).bind (fun q15 => x11_chance_J35 q15.2 q15.1)) else (some ((-3 : Int32), t0))))) else (some ((-2 : Int32), t0)))
theorem mm_x11_chance (t0 : St) (a1 : Int32) : MR (x11_chance t0 a1) t0 (fun (a : Int32 × St) => a.2) := by
  unfold x11_chance
  exact MR_bindn (fun q8 => MR_ite (MR_gd (MR_nm (fun x13 _ => MR_ite (MR_bind (mm_x0_mayWork t0 x13) (fun q15 hq15 => MR_wk hq15 (mm_x11_chance_J35 q15.2 q15.1))) (MR_some mle.rfl)))) (MR_some mle.rfl))
set_option maxHeartbeats 4000000 in
set_option maxRecDepth 100000 in
theorem c_x11_chance (l : Launch) {D : va_G} {cI cJ cZ cR : ClassId} {am gm : Nat → Nat} {st : Nat} (sz : Nat) (t0 : St) (a1 : Int32) {r : Int32} {t' : St} (ho : x11_chance t0 a1 = some (r, t')) : Met l yX11_chance (.code yX11_chance cX11_chance 4 (some .int) :: wsAll) (rmA 6 142 t0 t') (va_Pc [.ref (am 1011), .int a1] (prX D (tyX cI cJ cZ cR) (wX cI cJ cZ cR am gm t0) sz st)) (qIa r D (tyX cI cJ cZ cR) (fun gm => wX cI cJ cZ cR am gm t') (va_A (wX cI cJ cZ cR am gm t0) sz)) (mC t0 t') (mS t0 t') (va_A (wX cI cJ cZ cR am gm t0) sz) := by
  refine Met.ofW (cc := cX11_chance) (maxL := 4) (ret := (some .int)) (by decide) rfl ?_
  intro p e s m args below meth c s₁ B hml hv
  obtain ⟨rfl, ⟨hsz, hP, hK, hD0⟩, hsx⟩ := hv
  have hx := B.exec
  have hb := B.bytes
  have hts := atoms_spec (ws := (.code yX11_chance cX11_chance 4 (some .int) :: wsAll)) B.pre
  have hta := fun w h => hts w (List.mem_cons_of_mem _ h)
  have hown : s.vm.findClass RX11 = some m.cls := findClass_of_methodNamed B.named
  have hlocks := B.notSynchronized
  subst hsz
  have hD := hD0.self (sz := s.heap.size)
  generalize hAe : va_A (wX cI cJ cZ cR am gm t0) s.heap.size = A at hD ⊢
  have hA : ∀ q : Nat, s.heap.size ≤ q → A q := fun q h => by rw [← hAe]; exact Or.inr h
  have C0 : cxX p s m ([.ref (am 1011), .int a1].toArray) meth c cX11_chance RX11 4 (some .int) D (tyX cI cJ cZ cR) st A := ⟨⟨hx, hb, B.returns, hml, hown, hta, hlocks, hK, hA⟩, by rw [← hAe]; exact hsx⟩
  have hW : wl D A s (wX cI cJ cZ cR am gm t0) s.heap [] := ⟨hP, hD, va_S.rf⟩
  have hl := lv_entry [.ref (am 1011), .int a1] (n := 4) (Nat.le_of_ble_eq_true rfl)
  rw [lg_entry_eq]
  generalize (lg_sl [.ref (am 1011), .int a1] ++ List.replicate (4 - (lg_sl [.ref (am 1011), .int a1]).length) Slot.unset).toArray = ls at hl ⊢
  have hl : lv_has ls 4 [(0, .ref (am 1011)), (1, .int a1)] := hl
  clear hAe hD hP hD0 hts
  have J56 : ∀ (gm : Nat → Nat) (t : St) (w0 : Int32) (_ : x11_chance_J56 t w0 = some (r, t')) (_ : mle t0 t) (H : Heap) (locs : List Loc) (ls : Array Slot), wl D A s (wX cI cJ cZ cR am gm t) H locs → lv_has ls 4 [(0, .ref (am 1011))] → W p l e (rmA 6 142 t0 t') s m ([.ref (am 1011), .int a1].toArray) below meth c H locs (mC t0 t) (mS t0 t) (MQ below (qIa r D (tyX cI cJ cZ cR) (fun gm => wX cI cJ cZ cR am gm t') A) ([.ref (am 1011), .int a1].toArray) s (mC t0 t') (mS t0 t') A) (F0 m 56 ls [.int w0]) := by
    intro gm t w0 ho h0 H locs ls hW hl
    have hE : mle t t' := (mm_x11_chance_J56 _ _ _ ho)
    have hR := hR_of (t0 := t0) hE
    unfold x11_chance_J56 at ho
    refine lv_istore_n (lv' := [(3, .int w0), (0, .ref (am 1011))]) hx hb dX11_chance_56 rfl hl (by decide) rfl (fun ls hl => ?_)
    refine lv_aload_n hx hb dX11_chance_57 rfl (lv_at hl 1 rfl) ?_
    refine xGET_1105 C0 kw_596 hW dX11_chance_58 ?_
    refine lv_aload_n hx hb dX11_chance_61 rfl (lv_at hl 1 rfl) ?_
    refine xGET_1106 C0 kw_597 hW dX11_chance_62 ?_
    refine xGET_12 C0 kw_398 hW dX11_chance_65 ?_
    refine lv_iload_n hx hb dX11_chance_68 rfl (lv_at hl 0 rfl) ?_
    refine lv_aload_n hx hb dX11_chance_69 rfl (lv_at hl 1 rfl) ?_
    refine xGET_1106 C0 kw_597 hW dX11_chance_70 ?_
    refine xGET_6 C0 kw_390 hW dX11_chance_73 ?_
    refine lv_aload_n hx hb dX11_chance_76 rfl (lv_at hl 1 rfl) ?_
    refine xGET_1103 C0 kw_594 hW dX11_chance_77 ?_
    refine xGET_803 C0 kw_277 hW dX11_chance_80 ?_
    obtain ⟨q1, hc2, ho⟩ := bd_some ho
    have hq1 := mm_x2_putThousandths_12 t w0 (gI t 6) (gI t 803) _ hc2
    refine bkV C0.1 hW (runVX (As := [.ref (gm 12), .int w0, .int (gI t 6), .int (gI t 803)]) (rest := []) C0 hW (c_x2_putThousandths_12 l _ t w0 (gI t 6) (gI t 803) (t' := q1) hc2) cb_X11_X2_putThousandths_215 2 2 rfl rfl rfl rfl rfl ⟨rfl, rfl⟩ ⟨Nat.le_of_ble_eq_true rfl, Nat.le_of_ble_eq_true rfl⟩ (Nat.le_of_ble_eq_true rfl) hl.1 dX11_chance_83 ⟨hR.1, hR.2⟩) (fun H locs hW => ?_)
    refine lv_iconst (v := (1 : Int32)) hx hb dX11_chance_86 (by decide) ?_
    refine W_up h0 hq1 ?_
    cases ho
    exact rtIa gm C0.1 hW dX11_chance_87
  have J35 : ∀ (gm : Nat → Nat) (t : St) (w0 : Int32) (_ : x11_chance_J35 t w0 = some (r, t')) (_ : mle t0 t) (H : Heap) (locs : List Loc) (ls : Array Slot), wl D A s (wX cI cJ cZ cR am gm t) H locs → lv_has ls 4 [(0, .ref (am 1011))] → W p l e (rmA 6 142 t0 t') s m ([.ref (am 1011), .int a1].toArray) below meth c H locs (mC t0 t) (mS t0 t) (MQ below (qIa r D (tyX cI cJ cZ cR) (fun gm => wX cI cJ cZ cR am gm t') A) ([.ref (am 1011), .int a1].toArray) s (mC t0 t') (mS t0 t') A) (F0 m 35 ls [.int w0]) := by
    intro gm t w0 ho h0 H locs ls hW hl
    have hE : mle t t' := (mm_x11_chance_J35 _ _ _ ho)
    have hR := hR_of (t0 := t0) hE
    unfold x11_chance_J35 at ho
    refine lv_if_ne (tgt := 41) hx hb dX11_chance_35 (by decide) (fun c3 => ?_) (fun c3 => ?_)
    · replace ho := ite_f c3 ho
      refine lv_aload_n hx hb dX11_chance_41 rfl (lv_at hl 0 rfl) ?_
      refine xGET_1106 C0 kw_597 hW dX11_chance_42 ?_
      refine lv_iconst (v := (0 : Int32)) hx hb dX11_chance_45 (by decide) ?_
      obtain ⟨q4, hc5, ho⟩ := bd_some ho
      have hq4 := mm_x0_takeOdds t (0 : Int32) _ hc5
      refine bkV C0.1 hW (runVX (As := [.int (0 : Int32)]) (rest := []) C0 hW (c_x0_takeOdds l _ t (0 : Int32) (t' := q4) hc5) cb_X11_X0_takeOdds_200 0 0 rfl rfl rfl rfl rfl ⟨rfl, rfl⟩ ⟨Nat.le_of_ble_eq_true rfl, Nat.le_of_ble_eq_true rfl⟩ (Nat.le_of_ble_eq_true rfl) hl.1 dX11_chance_46 ⟨hR.1, hR.2⟩) (fun H locs hW => ?_)
      refine lv_aload_n hx hb dX11_chance_49 rfl (lv_at hl 0 rfl) ?_
      refine xGET_1106 C0 kw_597 hW dX11_chance_50 ?_
      obtain ⟨q6, hc7, ho⟩ := bd_some ho
      have hq6 := mm_x0_work q4 _ hc7
      have hEq6 := (mm_x11_chance_J56 _ _ _ ho)
      refine W_up h0 hq4 ?_
      have h0 := (mle.trans h0 hq4)
      refine bkIa C0.1 hW h0 hq6 (runVX (As := []) (rest := []) C0 hW (c_x0_work l _ q4 (r := q6.1) (t' := q6.2) hc7) cb_X11_X0_work_203 0 0 rfl rfl rfl rfl rfl ⟨rfl, rfl⟩ ⟨Nat.le_of_ble_eq_true rfl, Nat.le_of_ble_eq_true rfl⟩ (Nat.le_of_ble_eq_true rfl) hl.1 dX11_chance_53 (hf_of h0 hq6 hEq6)) (fun gm H locs hW => ?_)
      have h0 := mle.trans h0 hq6
      exact J56 gm _ _ ho h0 _ _ _ hW (lv_sub hl [0] rfl)
    · replace ho := ite_t c3 ho
      refine lv_bipush (v := (-5 : Int32)) hx hb dX11_chance_38 (by decide) ?_
      cases ho
      exact rtIa gm C0.1 hW dX11_chance_40
  have hE : mle t0 t' := mm_x11_chance _ _ _ ho
  have hR := hR_of (t0 := t0) hE
  have h0 : mle t0 t0 := mle.rfl
  refine W_0 (t0 := t0) ?_
  unfold x11_chance at ho
  refine lv_iload_n hx hb dX11_chance_0 rfl (lv_at hl 1 rfl) ?_
  obtain ⟨q8, hc9, ho⟩ := bd_some ho
  refine bkZ C0.1 hW (runSX (As := [.int a1]) (rest := []) C0 hW (c_x11_noNet l _ t0 a1 (r := q8) hc9) cb_X11_X11_noNet_124 rfl rfl ⟨rfl, rfl⟩ ⟨Nat.le_of_ble_eq_true rfl, Nat.le_of_ble_eq_true rfl⟩ (Nat.le_of_ble_eq_true rfl) hl.1 dX11_chance_1 ⟨hR.1, hR.2⟩) (fun z10 H locs hW => ?_)
  refine lv_if_eq (tgt := 10) hx hb dX11_chance_4 (by decide) (fun c11 => ?_) (fun c11 => ?_)
  · replace ho := ite_t c11 ho
    refine lv_aload_n hx hb dX11_chance_10 rfl (lv_at hl 0 rfl) ?_
    refine xGET_1101 C0 kw_592 hW dX11_chance_11 ?_
    refine xGET_602 C0 kw_184 hW dX11_chance_14 ?_
    refine lv_iload_n hx hb dX11_chance_17 rfl (lv_at hl 1 rfl) ?_
    obtain ⟨g12, ho⟩ := gd_some ho
    refine xLD_602 C0 hW g12 dX11_chance_18 ?_
    refine lv_nmi ho (fun x13 ho => ?_)
    refine lv_istore_n (lv' := [(2, .int x13), (0, .ref (am 1011)), (1, .int a1)]) hx hb dX11_chance_19 rfl hl (by decide) rfl (fun ls hl => ?_)
    refine lv_iload_n hx hb dX11_chance_20 rfl (lv_at hl 0 rfl) ?_
    refine lv_if_ge (tgt := 27) hx hb dX11_chance_21 (by decide) (fun c14 => ?_) (fun c14 => ?_)
    · replace ho := ite_t c14 ho
      refine lv_aload_n hx hb dX11_chance_27 rfl (lv_at hl 1 rfl) ?_
      refine xGET_1106 C0 kw_597 hW dX11_chance_28 ?_
      refine lv_iload_n hx hb dX11_chance_31 rfl (lv_at hl 0 rfl) ?_
      obtain ⟨q15, hc16, ho⟩ := bd_some ho
      have hq15 := mm_x0_mayWork t0 x13 _ hc16
      have hEq15 := (mm_x11_chance_J35 _ _ _ ho)
      refine bkZa C0.1 hW h0 hq15 (runVX (As := [.int x13]) (rest := []) C0 hW (c_x0_mayWork l _ t0 x13 (r := q15.1) (t' := q15.2) hc16) cb_X11_X0_mayWork_197 0 0 rfl rfl rfl rfl rfl ⟨rfl, rfl⟩ ⟨Nat.le_of_ble_eq_true rfl, Nat.le_of_ble_eq_true rfl⟩ (Nat.le_of_ble_eq_true rfl) hl.1 dX11_chance_32 (hf_of h0 hq15 hEq15)) (fun z17 gm H locs hW => ?_)
      have h0 := mle.trans h0 hq15
      exact J35 gm _ _ ho h0 _ _ _ hW (lv_sub hl [1] rfl)
    · replace ho := ite_f c14 ho
      refine lv_bipush (v := (-3 : Int32)) hx hb dX11_chance_24 (by decide) ?_
      cases ho
      exact rtIa gm C0.1 hW dX11_chance_26
  · replace ho := ite_f c11 ho
    refine lv_bipush (v := (-2 : Int32)) hx hb dX11_chance_7 (by decide) ?_
    cases ho
    exact rtIa gm C0.1 hW dX11_chance_9
noncomputable def j7_fill_53178_13_B5 (v1 : Int32) (v3 : Int32) (v2 : Int32) (t : St) : Option ((Int32 × St) ⊕ (St)) :=
  if v3 ≤ v2 then (some (.inr t)) else (gd v2 (gN t 13) (nm (sA t 13 v2 v1) (fun t3 : St => nm (v2 + (1 : Int32)) (fun x4 : Int32 => some (.inl (x4, t3))))))
theorem mm_j7_fill_53178_13_B5 (v1 : Int32) (v3 : Int32) (v2 : Int32) (t : St) : MR (j7_fill_53178_13_B5 v1 v3 v2 t) t (Sum.elim (fun (x : Int32 × St) => x.2) (fun (y : St) => y)) := by
  unfold j7_fill_53178_13_B5
  exact MR_ite (MR_some mle.rfl) (MR_gd (MR_nmS mle_sA (fun t3 ht3 => MR_nm (fun x4 _ => MR_some ht3))))
theorem mm_j7_fill_53178_13_L5 (v1 : Int32) (v3 : Int32) (v2 : Int32) (t : St) : MR (lp (fun x => j7_fill_53178_13_B5 v1 v3 x.1 x.2) (v2, t)) t (fun (y : St) => y) := MR_lp (p := (fun (x : Int32 × St) => x.2)) (q := (fun (y : St) => y)) (fun x => mm_j7_fill_53178_13_B5 v1 v3 x.1 x.2) (v2, t)
noncomputable def j7_fill_53178_13 (t : St) (a1 : Int32) : Option (St) :=
  nm (Int32.ofNat (gN t 13)) (fun x5 : Int32 => (lp (fun x => j7_fill_53178_13_B5 a1 x5 x.1 x.2) ((0 : Int32), t)).bind (fun y6 => some y6))
theorem mm_j7_fill_53178_13 (t : St) (a1 : Int32) : MR (j7_fill_53178_13 t a1) t (fun (a : St) => a) := by
  unfold j7_fill_53178_13
  exact MR_nm (fun x5 _ => MR_bind (mm_j7_fill_53178_13_L5 a1 x5 (0 : Int32) t) (fun y6 hm7 => MR_some hm7))
set_option maxHeartbeats 4000000 in
set_option maxRecDepth 100000 in
theorem j7_fill_53178_13_L5 {p : Program} {l : Launch} {e : Env} {s : State} {m : MethodId} {args : Array Value} {below : List Frame} {meth : Method} {c : Code} {Q : State → Prop} {D : va_G} {cI cJ cZ cR : ClassId} {am gm : Nat → Nat} {st : Nat} {A : Nat → Prop} (C0 : cxX p s m args meth c cJ7_fill_53178 RJ7 4 none D (tyX cI cJ cZ cR) st A) {v1 : Int32} {v3 : Int32} {y : St} (hK0 : ∀ (H : Heap) (locs : List Loc) (ls : Array Slot), wl D A s (wX cI cJ cZ cR am gm y) H locs → lv_has ls 4 [] → W p l e (rmN 0 0) s m args below meth c H locs 0 0 Q (F0 m 20 ls [])) :
    ∀ (n : Nat) (v2 : Int32) (t : St), lpn (fun x => j7_fill_53178_13_B5 v1 v3 x.1 x.2) n (v2, t) = some y → ∀ (H : Heap) (locs : List Loc) (ls : Array Slot), wl D A s (wX cI cJ cZ cR am gm t) H locs → lv_has ls 4 [(0, .ref (am 13)), (1, .int v1), (2, .int v2), (3, .int v3)] → W p l e (rmN 0 0) s m args below meth c H locs 0 0 Q (F0 m 5 ls []) := by
  have hx := C0.1.1
  have hb := C0.1.2.1
  have hta := C0.1.2.2.2.2.2.1
  have hown := C0.1.2.2.2.2.1
  intro n
  induction n with
  | zero => intro _ _ h; cases h
  | succ n ih =>
    intro v2 t hrun H locs ls hW hl
    obtain ⟨o, ho, hrun⟩ := bd_some hrun
    unfold j7_fill_53178_13_B5 at ho
    refine lv_iload_n hx hb dJ7_fill_53178_5 rfl (lv_at hl 2 rfl) ?_
    refine lv_iload_n hx hb dJ7_fill_53178_6 rfl (lv_at hl 3 rfl) ?_
    refine lv_icmp_ge (tgt := 20) hx hb dJ7_fill_53178_7 (by decide) (fun c1 => ?_) (fun c1 => ?_)
    · replace ho := ite_t c1 ho
      cases ho
      cases hrun
      exact hK0 _ _ _ hW (lv_sub hl [] rfl)
    · replace ho := ite_f c1 ho
      refine lv_aload_n hx hb dJ7_fill_53178_10 rfl (lv_at hl 0 rfl) ?_
      refine lv_iload_n hx hb dJ7_fill_53178_11 rfl (lv_at hl 2 rfl) ?_
      refine lv_iload_n hx hb dJ7_fill_53178_12 rfl (lv_at hl 1 rfl) ?_
      obtain ⟨g2, ho⟩ := gd_some ho
      refine xST_13 C0 hW g2 dJ7_fill_53178_13 (fun H locs hW => ?_)
      obtain ⟨t3, ho, hW⟩ := nm_w (P := fun t => wl D A s (wX cI cJ cZ cR am gm t) H locs) ho hW
      obtain ⟨x4, ex4, ho⟩ := nm_x ho
      refine lv_iinc (v := x4) (lv' := [(2, .int x4), (0, .ref (am 13)), (1, .int v1), (3, .int v3)]) hx hb dJ7_fill_53178_14 hl (k := 2) rfl (by rw [ex4]; rfl) (by decide) rfl (fun ls hl => ?_)
      clear ex4
      refine lv_goto (tgt := 5) hx hb dJ7_fill_53178_17 (by decide) ?_
      cases ho
      exact ih _ _ hrun _ _ _ hW (lv_sub hl [1, 2, 0, 3] rfl)
set_option maxHeartbeats 4000000 in
set_option maxRecDepth 100000 in
theorem c_j7_fill_53178_13 (l : Launch) {D : va_G} {cI cJ cZ cR : ClassId} {am gm : Nat → Nat} {st : Nat} (sz : Nat) (t : St) (a1 : Int32) {t' : St} (ho : j7_fill_53178_13 t a1 = some t') : Met l yJ7_fill_53178 (.code yJ7_fill_53178 cJ7_fill_53178 4 none :: wsAll) (rmN 0 0) (va_Pc [.ref (am 13), .int a1] (prX D (tyX cI cJ cZ cR) (wX cI cJ cZ cR am gm t) sz st)) (qV D (tyX cI cJ cZ cR) (wX cI cJ cZ cR am gm t') (va_A (wX cI cJ cZ cR am gm t) sz)) 0 0 (va_A (wX cI cJ cZ cR am gm t) sz) := by
  refine Met.ofW (cc := cJ7_fill_53178) (maxL := 4) (ret := none) (by decide) rfl ?_
  intro p e s m args below meth c s₁ B hml hv
  obtain ⟨rfl, ⟨hsz, hP, hK, hD0⟩, hsx⟩ := hv
  have hx := B.exec
  have hb := B.bytes
  have hts := atoms_spec (ws := (.code yJ7_fill_53178 cJ7_fill_53178 4 none :: wsAll)) B.pre
  have hta := fun w h => hts w (List.mem_cons_of_mem _ h)
  have hown : s.vm.findClass RJ7 = some m.cls := findClass_of_methodNamed B.named
  have hlocks := B.notSynchronized
  subst hsz
  have hD := hD0.self (sz := s.heap.size)
  generalize hAe : va_A (wX cI cJ cZ cR am gm t) s.heap.size = A at hD ⊢
  have hA : ∀ q : Nat, s.heap.size ≤ q → A q := fun q h => by rw [← hAe]; exact Or.inr h
  have C0 : cxX p s m ([.ref (am 13), .int a1].toArray) meth c cJ7_fill_53178 RJ7 4 none D (tyX cI cJ cZ cR) st A := ⟨⟨hx, hb, B.returns, hml, hown, hta, hlocks, hK, hA⟩, by rw [← hAe]; exact hsx⟩
  have hW : wl D A s (wX cI cJ cZ cR am gm t) s.heap [] := ⟨hP, hD, va_S.rf⟩
  have hl := lv_entry [.ref (am 13), .int a1] (n := 4) (Nat.le_of_ble_eq_true rfl)
  rw [lg_entry_eq]
  generalize (lg_sl [.ref (am 13), .int a1] ++ List.replicate (4 - (lg_sl [.ref (am 13), .int a1]).length) Slot.unset).toArray = ls at hl ⊢
  have hl : lv_has ls 4 [(0, .ref (am 13)), (1, .int a1)] := hl
  unfold j7_fill_53178_13 at ho
  refine lv_iconst (v := (0 : Int32)) hx hb dJ7_fill_53178_0 (by decide) ?_
  refine lv_istore_n (lv' := [(2, .int (0 : Int32)), (0, .ref (am 13)), (1, .int a1)]) hx hb dJ7_fill_53178_1 rfl hl (by decide) rfl (fun ls hl => ?_)
  refine lv_aload_n hx hb dJ7_fill_53178_2 rfl (lv_at hl 1 rfl) ?_
  refine xLEN_13 C0 hW dJ7_fill_53178_3 ?_
  refine lv_nmi ho (fun x5 ho => ?_)
  refine lv_istore_n (lv' := [(3, .int x5), (2, .int (0 : Int32)), (0, .ref (am 13)), (1, .int a1)]) hx hb dJ7_fill_53178_4 rfl hl (by decide) rfl (fun ls hl => ?_)
  obtain ⟨y6, hc8, ho⟩ := bd_some ho
  obtain ⟨ny6, hc8⟩ := lp_to hc8
  refine j7_fill_53178_13_L5 C0 ?_ ny6 _ _ hc8 _ _ _ hW (lv_sub hl [2, 3, 1, 0] rfl)
  intro H locs ls hW hl
  cases ho
  exact rtV C0.1 hW dJ7_fill_53178_20
noncomputable def x8_narrowed_B4 (t : St) (v1 : Int32) (v2 : Int32) (v3 : Int32) : Option ((Int32 × Int32) ⊕ (Int32)) :=
  if (gI t 803) ≤ v3 then (some (.inr v2)) else (gd v3 (gN t 801) (nm (v2 ||| (((v1 >>> ((gA t 801 (v3).toNatClampNeg) &&& 31)) &&& (1 : Int32)) <<< (v3 &&& 31))) (fun x3 : Int32 => nm (v3 + (1 : Int32)) (fun x4 : Int32 => some (.inl (x3, x4))))))
noncomputable def x8_narrowed (t : St) (a1 : Int32) : Option (Int32) :=
  (lp (fun x => x8_narrowed_B4 t a1 x.1 x.2) ((0 : Int32), (0 : Int32))).bind (fun y5 => some y5)
set_option maxHeartbeats 4000000 in
set_option maxRecDepth 100000 in
theorem x8_narrowed_L4 {p : Program} {l : Launch} {e : Env} {s : State} {m : MethodId} {args : Array Value} {below : List Frame} {meth : Method} {c : Code} {Q : State → Prop} {D : va_G} {cI cJ cZ cR : ClassId} {am gm : Nat → Nat} {st : Nat} {A : Nat → Prop} (C0 : cxX p s m args meth c cX8_narrowed RX8 4 (some .int) D (tyX cI cJ cZ cR) st A) {t : St} {v1 : Int32} {y : Int32} (hK0 : ∀ (H : Heap) (locs : List Loc) (ls : Array Slot), wl D A s (wX cI cJ cZ cR am gm t) H locs → lv_has ls 4 [(0, .ref (am 1008)), (2, .int y)] → W p l e (rmN 0 0) s m args below meth c H locs 0 0 Q (F0 m 33 ls [])) :
    ∀ (n : Nat) (v2 : Int32) (v3 : Int32), lpn (fun x => x8_narrowed_B4 t v1 x.1 x.2) n (v2, v3) = some y → ∀ (H : Heap) (locs : List Loc) (ls : Array Slot), wl D A s (wX cI cJ cZ cR am gm t) H locs → lv_has ls 4 [(0, .ref (am 1008)), (1, .int v1), (2, .int v2), (3, .int v3)] → W p l e (rmN 0 0) s m args below meth c H locs 0 0 Q (F0 m 4 ls []) := by
  have hx := C0.1.1
  have hb := C0.1.2.1
  have hta := C0.1.2.2.2.2.2.1
  have hown := C0.1.2.2.2.2.1
  intro n
  induction n with
  | zero => intro _ _ h; cases h
  | succ n ih =>
    intro v2 v3 hrun H locs ls hW hl
    obtain ⟨o, ho, hrun⟩ := bd_some hrun
    unfold x8_narrowed_B4 at ho
    refine lv_iload_n hx hb dX8_narrowed_4 rfl (lv_at hl 3 rfl) ?_
    refine lv_aload_n hx hb dX8_narrowed_5 rfl (lv_at hl 0 rfl) ?_
    refine xGET_803 C0 kw_274 hW dX8_narrowed_6 ?_
    refine lv_icmp_ge (tgt := 33) hx hb dX8_narrowed_9 (by decide) (fun c1 => ?_) (fun c1 => ?_)
    · replace ho := ite_t c1 ho
      cases ho
      cases hrun
      exact hK0 _ _ _ hW (lv_sub hl [0, 2] rfl)
    · replace ho := ite_f c1 ho
      refine lv_iload_n hx hb dX8_narrowed_12 rfl (lv_at hl 2 rfl) ?_
      refine lv_iload_n hx hb dX8_narrowed_13 rfl (lv_at hl 1 rfl) ?_
      refine lv_aload_n hx hb dX8_narrowed_14 rfl (lv_at hl 0 rfl) ?_
      refine xGET_801 C0 kw_270 hW dX8_narrowed_15 ?_
      refine lv_iload_n hx hb dX8_narrowed_18 rfl (lv_at hl 3 rfl) ?_
      obtain ⟨g2, ho⟩ := gd_some ho
      refine xLD_801 C0 hW g2 dX8_narrowed_19 ?_
      refine lv_ishr hx hb dX8_narrowed_20 ?_
      refine lv_iconst (v := (1 : Int32)) hx hb dX8_narrowed_21 (by decide) ?_
      refine lv_iand hx hb dX8_narrowed_22 ?_
      refine lv_iload_n hx hb dX8_narrowed_23 rfl (lv_at hl 3 rfl) ?_
      refine lv_ishl hx hb dX8_narrowed_24 ?_
      refine lv_ior hx hb dX8_narrowed_25 ?_
      refine lv_nmi ho (fun x3 ho => ?_)
      refine lv_istore_n (lv' := [(2, .int x3), (0, .ref (am 1008)), (1, .int v1), (3, .int v3)]) hx hb dX8_narrowed_26 rfl hl (by decide) rfl (fun ls hl => ?_)
      obtain ⟨x4, ex4, ho⟩ := nm_x ho
      refine lv_iinc (v := x4) (lv' := [(3, .int x4), (2, .int x3), (0, .ref (am 1008)), (1, .int v1)]) hx hb dX8_narrowed_27 hl (k := 3) rfl (by rw [ex4]; rfl) (by decide) rfl (fun ls hl => ?_)
      clear ex4
      refine lv_goto (tgt := 4) hx hb dX8_narrowed_30 (by decide) ?_
      cases ho
      exact ih _ _ hrun _ _ _ hW (lv_sub hl [2, 3, 1, 0] rfl)
set_option maxHeartbeats 4000000 in
set_option maxRecDepth 100000 in
theorem c_x8_narrowed (l : Launch) {D : va_G} {cI cJ cZ cR : ClassId} {am gm : Nat → Nat} {st : Nat} (sz : Nat) (t : St) (a1 : Int32) {r : Int32} (ho : x8_narrowed t a1 = some r) : Met l yX8_narrowed (.code yX8_narrowed cX8_narrowed 4 (some .int) :: wsAll) (rmN 0 0) (va_Pc [.ref (am 1008), .int a1] (prX D (tyX cI cJ cZ cR) (wX cI cJ cZ cR am gm t) sz st)) (qI r D (tyX cI cJ cZ cR) (wX cI cJ cZ cR am gm t) (va_A (wX cI cJ cZ cR am gm t) sz)) 0 0 (va_A (wX cI cJ cZ cR am gm t) sz) := by
  refine Met.ofW (cc := cX8_narrowed) (maxL := 4) (ret := (some .int)) (by decide) rfl ?_
  intro p e s m args below meth c s₁ B hml hv
  obtain ⟨rfl, ⟨hsz, hP, hK, hD0⟩, hsx⟩ := hv
  have hx := B.exec
  have hb := B.bytes
  have hts := atoms_spec (ws := (.code yX8_narrowed cX8_narrowed 4 (some .int) :: wsAll)) B.pre
  have hta := fun w h => hts w (List.mem_cons_of_mem _ h)
  have hown : s.vm.findClass RX8 = some m.cls := findClass_of_methodNamed B.named
  have hlocks := B.notSynchronized
  subst hsz
  have hD := hD0.self (sz := s.heap.size)
  generalize hAe : va_A (wX cI cJ cZ cR am gm t) s.heap.size = A at hD ⊢
  have hA : ∀ q : Nat, s.heap.size ≤ q → A q := fun q h => by rw [← hAe]; exact Or.inr h
  have C0 : cxX p s m ([.ref (am 1008), .int a1].toArray) meth c cX8_narrowed RX8 4 (some .int) D (tyX cI cJ cZ cR) st A := ⟨⟨hx, hb, B.returns, hml, hown, hta, hlocks, hK, hA⟩, by rw [← hAe]; exact hsx⟩
  have hW : wl D A s (wX cI cJ cZ cR am gm t) s.heap [] := ⟨hP, hD, va_S.rf⟩
  have hl := lv_entry [.ref (am 1008), .int a1] (n := 4) (Nat.le_of_ble_eq_true rfl)
  rw [lg_entry_eq]
  generalize (lg_sl [.ref (am 1008), .int a1] ++ List.replicate (4 - (lg_sl [.ref (am 1008), .int a1]).length) Slot.unset).toArray = ls at hl ⊢
  have hl : lv_has ls 4 [(0, .ref (am 1008)), (1, .int a1)] := hl
  unfold x8_narrowed at ho
  refine lv_iconst (v := (0 : Int32)) hx hb dX8_narrowed_0 (by decide) ?_
  refine lv_istore_n (lv' := [(2, .int (0 : Int32)), (0, .ref (am 1008)), (1, .int a1)]) hx hb dX8_narrowed_1 rfl hl (by decide) rfl (fun ls hl => ?_)
  refine lv_iconst (v := (0 : Int32)) hx hb dX8_narrowed_2 (by decide) ?_
  refine lv_istore_n (lv' := [(3, .int (0 : Int32)), (2, .int (0 : Int32)), (0, .ref (am 1008)), (1, .int a1)]) hx hb dX8_narrowed_3 rfl hl (by decide) rfl (fun ls hl => ?_)
  obtain ⟨y5, hc7, ho⟩ := bd_some ho
  obtain ⟨ny5, hc7⟩ := lp_to hc7
  refine x8_narrowed_L4 C0 ?_ ny5 _ _ hc7 _ _ _ hW (lv_sub hl [2, 3, 1, 0] rfl)
  intro H locs ls hW hl
  refine lv_iload_n hx hb dX8_narrowed_33 rfl (lv_at hl 1 rfl) ?_
  cases ho
  exact rtI C0.1 hW dX8_narrowed_34
noncomputable def x2_subtract_13_12_B6 (v2 : Int32) (v3 : Int32) (v4 : Int64) (v6 : Int32) (t : St) : Option ((Int64 × Int32 × St) ⊕ (St)) :=
  if v3 ≤ v6 then (some (.inr t)) else (gd v6 (gN t 13) (gd (v2 + v6) (gN t 12) (nm (v4 + (((gA t 13 (v6).toNatClampNeg) - (gA t 12 ((v2 + v6)).toNatClampNeg))).toInt64) (fun x4 : Int64 => gd v6 (gN t 13) (nm (sA t 13 v6 ((x4 &&& (1073741823 : Int64))).toInt32) (fun t6 : St => nm ((x4 >>> (((30 : Int32)).toInt64 &&& 63))) (fun x7 : Int64 => nm (v6 + (1 : Int32)) (fun x8 : Int32 => some (.inl (x7, x8, t6))))))))))
theorem mm_x2_subtract_13_12_B6 (v2 : Int32) (v3 : Int32) (v4 : Int64) (v6 : Int32) (t : St) : MR (x2_subtract_13_12_B6 v2 v3 v4 v6 t) t (Sum.elim (fun (x : Int64 × Int32 × St) => x.2.2) (fun (y : St) => y)) := by
  unfold x2_subtract_13_12_B6
  exact MR_ite (MR_some mle.rfl) (MR_gd (MR_gd (MR_nm (fun x4 _ => MR_gd (MR_nmS mle_sA (fun t6 ht6 => MR_nm (fun x7 _ => MR_nm (fun x8 _ => MR_some ht6))))))))
theorem mm_x2_subtract_13_12_L6 (v2 : Int32) (v3 : Int32) (v4 : Int64) (v6 : Int32) (t : St) : MR (lp (fun x => x2_subtract_13_12_B6 v2 v3 x.1 x.2.1 x.2.2) (v4, v6, t)) t (fun (y : St) => y) := MR_lp (p := (fun (x : Int64 × Int32 × St) => x.2.2)) (q := (fun (y : St) => y)) (fun x => mm_x2_subtract_13_12_B6 v2 v3 x.1 x.2.1 x.2.2) (v4, v6, t)
noncomputable def x2_subtract_13_12 (t : St) (a2 : Int32) (a3 : Int32) : Option (St) :=
  (lp (fun x => x2_subtract_13_12_B6 a2 a3 x.1 x.2.1 x.2.2) ((0 : Int64), (0 : Int32), t)).bind (fun y9 => some y9)
theorem mm_x2_subtract_13_12 (t : St) (a2 : Int32) (a3 : Int32) : MR (x2_subtract_13_12 t a2 a3) t (fun (a : St) => a) := by
  unfold x2_subtract_13_12
  exact MR_bind (mm_x2_subtract_13_12_L6 a2 a3 (0 : Int64) (0 : Int32) t) (fun y9 hm10 => MR_some hm10)
set_option maxHeartbeats 4000000 in
set_option maxRecDepth 100000 in
theorem x2_subtract_13_12_L6 {p : Program} {l : Launch} {e : Env} {s : State} {m : MethodId} {args : Array Value} {below : List Frame} {meth : Method} {c : Code} {Q : State → Prop} {D : va_G} {cI cJ cZ cR : ClassId} {am gm : Nat → Nat} {st : Nat} {A : Nat → Prop} (C0 : cxX p s m args meth c cX2_subtract RX2 7 none D (tyX cI cJ cZ cR) st A) {v2 : Int32} {v3 : Int32} {y : St} (hK0 : ∀ (H : Heap) (locs : List Loc) (ls : Array Slot), wl D A s (wX cI cJ cZ cR am gm y) H locs → lv_has ls 7 [] → W p l e (rmN 0 0) s m args below meth c H locs 0 0 Q (F0 m 53 ls [])) :
    ∀ (n : Nat) (v4 : Int64) (v6 : Int32) (t : St), lpn (fun x => x2_subtract_13_12_B6 v2 v3 x.1 x.2.1 x.2.2) n (v4, v6, t) = some y → ∀ (H : Heap) (locs : List Loc) (ls : Array Slot), wl D A s (wX cI cJ cZ cR am gm t) H locs → lv_has ls 7 [(0, .ref (am 13)), (1, .ref (gm 12)), (2, .int v2), (3, .int v3), (4, .long v4), (6, .int v6)] → W p l e (rmN 0 0) s m args below meth c H locs 0 0 Q (F0 m 6 ls []) := by
  have hx := C0.1.1
  have hb := C0.1.2.1
  have hta := C0.1.2.2.2.2.2.1
  have hown := C0.1.2.2.2.2.1
  intro n
  induction n with
  | zero => intro _ _ _ h; cases h
  | succ n ih =>
    intro v4 v6 t hrun H locs ls hW hl
    obtain ⟨o, ho, hrun⟩ := bd_some hrun
    unfold x2_subtract_13_12_B6 at ho
    refine lv_iload hx hb dX2_subtract_6 (lv_at hl 5 rfl) ?_
    refine lv_iload_n hx hb dX2_subtract_8 rfl (lv_at hl 3 rfl) ?_
    refine lv_icmp_ge (tgt := 53) hx hb dX2_subtract_9 (by decide) (fun c1 => ?_) (fun c1 => ?_)
    · replace ho := ite_t c1 ho
      cases ho
      cases hrun
      exact hK0 _ _ _ hW (lv_sub hl [] rfl)
    · replace ho := ite_f c1 ho
      refine lv_lload hx hb dX2_subtract_12 (lv_at hl 4 rfl) ?_
      refine lv_aload_n hx hb dX2_subtract_14 rfl (lv_at hl 0 rfl) ?_
      refine lv_iload hx hb dX2_subtract_15 (lv_at hl 5 rfl) ?_
      obtain ⟨g2, ho⟩ := gd_some ho
      refine xLD_13 C0 hW g2 dX2_subtract_17 ?_
      refine lv_aload_n hx hb dX2_subtract_18 rfl (lv_at hl 1 rfl) ?_
      refine lv_iload_n hx hb dX2_subtract_19 rfl (lv_at hl 2 rfl) ?_
      refine lv_iload hx hb dX2_subtract_20 (lv_at hl 5 rfl) ?_
      refine lv_iadd hx hb dX2_subtract_22 ?_
      obtain ⟨g3, ho⟩ := gd_some ho
      refine xLD_12 C0 hW g3 dX2_subtract_23 ?_
      refine lv_isub hx hb dX2_subtract_24 ?_
      refine lv_i2l hx hb dX2_subtract_25 rfl ?_
      refine lv_ladd hx hb dX2_subtract_26 ?_
      refine lv_nml ho (fun x4 ho => ?_)
      refine lv_lstore (lv' := [(4, .long x4), (0, .ref (am 13)), (1, .ref (gm 12)), (2, .int v2), (3, .int v3), (6, .int v6)]) hx hb dX2_subtract_27 hl (by decide) rfl (fun ls hl => ?_)
      refine lv_aload_n hx hb dX2_subtract_29 rfl (lv_at hl 1 rfl) ?_
      refine lv_iload hx hb dX2_subtract_30 (lv_at hl 5 rfl) ?_
      refine lv_lload hx hb dX2_subtract_32 (lv_at hl 0 rfl) ?_
      refine lv_ldc2 hx hb hown (hta _ kw_996) dX2_subtract_34 ?_
      refine lv_land hx hb dX2_subtract_37 ?_
      refine lv_l2i hx hb dX2_subtract_38 rfl ?_
      obtain ⟨g5, ho⟩ := gd_some ho
      refine xST_13 C0 hW g5 dX2_subtract_39 (fun H locs hW => ?_)
      obtain ⟨t6, ho, hW⟩ := nm_w (P := fun t => wl D A s (wX cI cJ cZ cR am gm t) H locs) ho hW
      refine lv_lload hx hb dX2_subtract_40 (lv_at hl 0 rfl) ?_
      refine lv_bipush (v := (30 : Int32)) hx hb dX2_subtract_42 (by decide) ?_
      refine lv_lshr hx hb dX2_subtract_44 rfl ?_
      refine lv_nml ho (fun x7 ho => ?_)
      refine lv_lstore (lv' := [(4, .long x7), (0, .ref (am 13)), (1, .ref (gm 12)), (2, .int v2), (3, .int v3), (6, .int v6)]) hx hb dX2_subtract_45 hl (by decide) rfl (fun ls hl => ?_)
      obtain ⟨x8, ex8, ho⟩ := nm_x ho
      refine lv_iinc (v := x8) (lv' := [(6, .int x8), (4, .long x7), (0, .ref (am 13)), (1, .ref (gm 12)), (2, .int v2), (3, .int v3)]) hx hb dX2_subtract_47 hl (k := 5) rfl (by rw [ex8]; rfl) (by decide) rfl (fun ls hl => ?_)
      clear ex8
      refine lv_goto (tgt := 6) hx hb dX2_subtract_50 (by decide) ?_
      cases ho
      exact ih _ _ _ hrun _ _ _ hW (lv_sub hl [2, 3, 4, 5, 1, 0] rfl)
set_option maxHeartbeats 4000000 in
set_option maxRecDepth 100000 in
theorem c_x2_subtract_13_12 (l : Launch) {D : va_G} {cI cJ cZ cR : ClassId} {am gm : Nat → Nat} {st : Nat} (sz : Nat) (t : St) (a2 : Int32) (a3 : Int32) {t' : St} (ho : x2_subtract_13_12 t a2 a3 = some t') : Met l yX2_subtract (.code yX2_subtract cX2_subtract 7 none :: wsAll) (rmN 0 0) (va_Pc [.ref (am 13), .ref (gm 12), .int a2, .int a3] (prX D (tyX cI cJ cZ cR) (wX cI cJ cZ cR am gm t) sz st)) (qV D (tyX cI cJ cZ cR) (wX cI cJ cZ cR am gm t') (va_A (wX cI cJ cZ cR am gm t) sz)) 0 0 (va_A (wX cI cJ cZ cR am gm t) sz) := by
  refine Met.ofW (cc := cX2_subtract) (maxL := 7) (ret := none) (by decide) rfl ?_
  intro p e s m args below meth c s₁ B hml hv
  obtain ⟨rfl, ⟨hsz, hP, hK, hD0⟩, hsx⟩ := hv
  have hx := B.exec
  have hb := B.bytes
  have hts := atoms_spec (ws := (.code yX2_subtract cX2_subtract 7 none :: wsAll)) B.pre
  have hta := fun w h => hts w (List.mem_cons_of_mem _ h)
  have hown : s.vm.findClass RX2 = some m.cls := findClass_of_methodNamed B.named
  have hlocks := B.notSynchronized
  subst hsz
  have hD := hD0.self (sz := s.heap.size)
  generalize hAe : va_A (wX cI cJ cZ cR am gm t) s.heap.size = A at hD ⊢
  have hA : ∀ q : Nat, s.heap.size ≤ q → A q := fun q h => by rw [← hAe]; exact Or.inr h
  have C0 : cxX p s m ([.ref (am 13), .ref (gm 12), .int a2, .int a3].toArray) meth c cX2_subtract RX2 7 none D (tyX cI cJ cZ cR) st A := ⟨⟨hx, hb, B.returns, hml, hown, hta, hlocks, hK, hA⟩, by rw [← hAe]; exact hsx⟩
  have hW : wl D A s (wX cI cJ cZ cR am gm t) s.heap [] := ⟨hP, hD, va_S.rf⟩
  have hl := lv_entry [.ref (am 13), .ref (gm 12), .int a2, .int a3] (n := 7) (Nat.le_of_ble_eq_true rfl)
  rw [lg_entry_eq]
  generalize (lg_sl [.ref (am 13), .ref (gm 12), .int a2, .int a3] ++ List.replicate (7 - (lg_sl [.ref (am 13), .ref (gm 12), .int a2, .int a3]).length) Slot.unset).toArray = ls at hl ⊢
  have hl : lv_has ls 7 [(0, .ref (am 13)), (1, .ref (gm 12)), (2, .int a2), (3, .int a3)] := hl
  unfold x2_subtract_13_12 at ho
  refine lv_lconst (v := (0 : Int64)) hx hb dX2_subtract_0 (by decide) ?_
  refine lv_lstore (lv' := [(4, .long (0 : Int64)), (0, .ref (am 13)), (1, .ref (gm 12)), (2, .int a2), (3, .int a3)]) hx hb dX2_subtract_1 hl (by decide) rfl (fun ls hl => ?_)
  refine lv_iconst (v := (0 : Int32)) hx hb dX2_subtract_3 (by decide) ?_
  refine lv_istore (lv' := [(6, .int (0 : Int32)), (4, .long (0 : Int64)), (0, .ref (am 13)), (1, .ref (gm 12)), (2, .int a2), (3, .int a3)]) hx hb dX2_subtract_4 hl (by decide) rfl (fun ls hl => ?_)
  obtain ⟨y9, hc11, ho⟩ := bd_some ho
  obtain ⟨ny9, hc11⟩ := lp_to hc11
  refine x2_subtract_13_12_L6 C0 ?_ ny9 _ _ _ hc11 _ _ _ hW (lv_sub hl [2, 3, 4, 5, 1, 0] rfl)
  intro H locs ls hW hl
  cases ho
  exact rtV C0.1 hW dX2_subtract_53
noncomputable def x0_workWeight_J79 (t : St) (w0 : Int32) : Option (St) :=
  (x2_subtract_13_12 t w0 (gI t 6)).bind (fun q1 => some q1)
theorem mm_x0_workWeight_J79 (t : St) (w0 : Int32) : MR (x0_workWeight_J79 t w0) t (fun (a : St) => a) := by
  unfold x0_workWeight_J79
  exact MR_bind (mm_x2_subtract_13_12 t w0 (gI t 6)) (fun q1 hq1 => MR_some hq1)
noncomputable def x0_workWeight_J50 (t : St) (v2 : Int32) (w0 : Int32) : Option (St) :=
  cpk w0 (0 : Int32) (gI t 6) (gN t 12) (gN t 13) (nm (sAr t 13 (va_cpy (gA t 12) (gA t 13) (w0).toNatClampNeg ((0 : Int32)).toNatClampNeg ((gI t 6)).toNatClampNeg)) (fun t4 : St => gd v2 (gN t4 14) (nm (sA t4 14 v2 (0 : Int32)) (fun t6 : St => (x0_work t6).bind (fun q7 => x0_workWeight_J79 q7.2 q7.1)))))
theorem mm_x0_workWeight_J50 (t : St) (v2 : Int32) (w0 : Int32) : MR (x0_workWeight_J50 t v2 w0) t (fun (a : St) => a) := by
  unfold x0_workWeight_J50
  exact MR_cpk (MR_nmS mle_sAr (fun t4 ht4 => MR_gd (MR_nmS mle_sA (fun t6 ht6 => MR_bind (mm_x0_work t6) (fun q7 hq7 => MR_wk (mle.trans (mle.trans ht4 ht6) hq7) (mm_x0_workWeight_J79 q7.2 q7.1))))))
noncomputable def x0_workWeight (t0 : St) (a1 : Int32) : Option (St) :=
  (j7_fill_53178_13 t0 (0 : Int32)).bind (fun q9 => (x8_narrowed q9 ((1 : Int32) <<< (a1 &&& 31))).bind (fun q11 => if q11 = 0 then (some q9) else ((x0_takeOdds q9 (0 : Int32)).bind (fun q14 => gd a1 (gN q14 802) (nm (gA q14 802 (a1).toNatClampNeg) (fun x17 : Int32 => gd x17 (gN q14 14) (nm (sA q14 14 x17 (1000 : Int32)) (fun t19 : St => (x0_work t19).bind (fun q20 => x0_workWeight_J50 q20.2 x17 q20.1)))))))))
theorem mm_x0_workWeight (t0 : St) (a1 : Int32) : MR (x0_workWeight t0 a1) t0 (fun (a : St) => a) := by
  unfold x0_workWeight
  exact MR_bind (mm_j7_fill_53178_13 t0 (0 : Int32)) (fun q9 hq9 => MR_bindn (fun q11 => MR_ite (MR_some hq9) (MR_bind (mm_x0_takeOdds q9 (0 : Int32)) (fun q14 hq14 => MR_gd (MR_nm (fun x17 _ => MR_gd (MR_nmS mle_sA (fun t19 ht19 => MR_bind (mm_x0_work t19) (fun q20 hq20 => MR_wk (mle.trans (mle.trans (mle.trans hq9 hq14) ht19) hq20) (mm_x0_workWeight_J50 q20.2 x17 q20.1))))))))))
set_option maxHeartbeats 4000000 in
set_option maxRecDepth 100000 in
theorem c_x0_workWeight (l : Launch) {D : va_G} {cI cJ cZ cR : ClassId} {am gm : Nat → Nat} {st : Nat} (sz : Nat) (t0 : St) (a1 : Int32) {t' : St} (ho : x0_workWeight t0 a1 = some t') : Met l yX0_workWeight (.code yX0_workWeight cX0_workWeight 4 none :: wsAll) (rmA 3 71 t0 t') (va_Pc [.ref (am 1000), .int a1] (prX D (tyX cI cJ cZ cR) (wX cI cJ cZ cR am gm t0) sz st)) (qVa D (tyX cI cJ cZ cR) (fun gm => wX cI cJ cZ cR am gm t') (va_A (wX cI cJ cZ cR am gm t0) sz)) (mC t0 t') (mS t0 t') (va_A (wX cI cJ cZ cR am gm t0) sz) := by
  refine Met.ofW (cc := cX0_workWeight) (maxL := 4) (ret := none) (by decide) rfl ?_
  intro p e s m args below meth c s₁ B hml hv
  obtain ⟨rfl, ⟨hsz, hP, hK, hD0⟩, hsx⟩ := hv
  have hx := B.exec
  have hb := B.bytes
  have hts := atoms_spec (ws := (.code yX0_workWeight cX0_workWeight 4 none :: wsAll)) B.pre
  have hta := fun w h => hts w (List.mem_cons_of_mem _ h)
  have hown : s.vm.findClass RX0 = some m.cls := findClass_of_methodNamed B.named
  have hlocks := B.notSynchronized
  subst hsz
  have hD := hD0.self (sz := s.heap.size)
  generalize hAe : va_A (wX cI cJ cZ cR am gm t0) s.heap.size = A at hD ⊢
  have hA : ∀ q : Nat, s.heap.size ≤ q → A q := fun q h => by rw [← hAe]; exact Or.inr h
  have C0 : cxX p s m ([.ref (am 1000), .int a1].toArray) meth c cX0_workWeight RX0 4 none D (tyX cI cJ cZ cR) st A := ⟨⟨hx, hb, B.returns, hml, hown, hta, hlocks, hK, hA⟩, by rw [← hAe]; exact hsx⟩
  have hW : wl D A s (wX cI cJ cZ cR am gm t0) s.heap [] := ⟨hP, hD, va_S.rf⟩
  have hl := lv_entry [.ref (am 1000), .int a1] (n := 4) (Nat.le_of_ble_eq_true rfl)
  rw [lg_entry_eq]
  generalize (lg_sl [.ref (am 1000), .int a1] ++ List.replicate (4 - (lg_sl [.ref (am 1000), .int a1]).length) Slot.unset).toArray = ls at hl ⊢
  have hl : lv_has ls 4 [(0, .ref (am 1000)), (1, .int a1)] := hl
  clear hAe hD hP hD0 hts
  have J79 : ∀ (gm : Nat → Nat) (t : St) (w0 : Int32) (_ : x0_workWeight_J79 t w0 = some t') (_ : mle t0 t) (H : Heap) (locs : List Loc) (ls : Array Slot), wl D A s (wX cI cJ cZ cR am gm t) H locs → lv_has ls 4 [(0, .ref (am 1000))] → W p l e (rmA 3 71 t0 t') s m ([.ref (am 1000), .int a1].toArray) below meth c H locs (mC t0 t) (mS t0 t) (MQ below (qVa D (tyX cI cJ cZ cR) (fun gm => wX cI cJ cZ cR am gm t') A) ([.ref (am 1000), .int a1].toArray) s (mC t0 t') (mS t0 t') A) (F0 m 79 ls [.int w0]) := by
    intro gm t w0 ho h0 H locs ls hW hl
    have hE : mle t t' := (mm_x0_workWeight_J79 _ _ _ ho)
    have hR := hR_of (t0 := t0) hE
    unfold x0_workWeight_J79 at ho
    refine lv_istore_n (lv' := [(3, .int w0), (0, .ref (am 1000))]) hx hb dX0_workWeight_79 rfl hl (by decide) rfl (fun ls hl => ?_)
    refine lv_aload_n hx hb dX0_workWeight_80 rfl (lv_at hl 1 rfl) ?_
    refine xGET_13 C0 kw_399 hW dX0_workWeight_81 ?_
    refine lv_aload_n hx hb dX0_workWeight_84 rfl (lv_at hl 1 rfl) ?_
    refine xGET_12 C0 kw_396 hW dX0_workWeight_85 ?_
    refine lv_iload_n hx hb dX0_workWeight_88 rfl (lv_at hl 0 rfl) ?_
    refine lv_aload_n hx hb dX0_workWeight_89 rfl (lv_at hl 1 rfl) ?_
    refine xGET_6 C0 kw_388 hW dX0_workWeight_90 ?_
    obtain ⟨q1, hc2, ho⟩ := bd_some ho
    have hq1 := mm_x2_subtract_13_12 t w0 (gI t 6) _ hc2
    refine bkV C0.1 hW (runSX (As := [.ref (am 13), .ref (gm 12), .int w0, .int (gI t 6)]) (rest := []) C0 hW (c_x2_subtract_13_12 l _ t w0 (gI t 6) (t' := q1) hc2) cb_X0_X2_subtract_144 rfl rfl ⟨rfl, rfl⟩ ⟨Nat.le_of_ble_eq_true rfl, Nat.le_of_ble_eq_true rfl⟩ (Nat.le_of_ble_eq_true rfl) hl.1 dX0_workWeight_93 ⟨hR.1, hR.2⟩) (fun H locs hW => ?_)
    refine W_up h0 hq1 ?_
    cases ho
    exact rtVa gm C0.1 hW dX0_workWeight_96
  have J50 : ∀ (gm : Nat → Nat) (t : St) (v2 : Int32) (w0 : Int32) (_ : x0_workWeight_J50 t v2 w0 = some t') (_ : mle t0 t) (H : Heap) (locs : List Loc) (ls : Array Slot), wl D A s (wX cI cJ cZ cR am gm t) H locs → lv_has ls 4 [(0, .ref (am 1000)), (2, .int v2)] → W p l e (rmA 3 71 t0 t') s m ([.ref (am 1000), .int a1].toArray) below meth c H locs (mC t0 t) (mS t0 t) (MQ below (qVa D (tyX cI cJ cZ cR) (fun gm => wX cI cJ cZ cR am gm t') A) ([.ref (am 1000), .int a1].toArray) s (mC t0 t') (mS t0 t') A) (F0 m 50 ls [.int w0]) := by
    intro gm t v2 w0 ho h0 H locs ls hW hl
    have hE : mle t t' := (mm_x0_workWeight_J50 _ _ _ _ ho)
    have hR := hR_of (t0 := t0) hE
    unfold x0_workWeight_J50 at ho
    refine lv_istore_n (lv' := [(3, .int w0), (0, .ref (am 1000)), (2, .int v2)]) hx hb dX0_workWeight_50 rfl hl (by decide) rfl (fun ls hl => ?_)
    refine lv_aload_n hx hb dX0_workWeight_51 rfl (lv_at hl 1 rfl) ?_
    refine xGET_12 C0 kw_396 hW dX0_workWeight_52 ?_
    refine lv_iload_n hx hb dX0_workWeight_55 rfl (lv_at hl 0 rfl) ?_
    refine lv_aload_n hx hb dX0_workWeight_56 rfl (lv_at hl 1 rfl) ?_
    refine xGET_13 C0 kw_399 hW dX0_workWeight_57 ?_
    refine lv_iconst (v := (0 : Int32)) hx hb dX0_workWeight_60 (by decide) ?_
    refine lv_aload_n hx hb dX0_workWeight_61 rfl (lv_at hl 1 rfl) ?_
    refine xGET_6 C0 kw_388 hW dX0_workWeight_62 ?_
    obtain ⟨g3, ho⟩ := cpk_some ho
    refine xCPY_12_13 (rest := []) C0 kw_1036 kw_752 kw_751 kw_137 hl.1 hW g3 (Nat.le_of_ble_eq_true rfl) (Nat.le_of_ble_eq_true rfl) dX0_workWeight_65 (fun H locs hW => ?_)
    obtain ⟨t4, ht4, ho, hW⟩ := nm_wm (P := fun t => wl D A s (wX cI cJ cZ cR am gm t) H locs) mle_sAr ho hW
    refine lv_aload_n hx hb dX0_workWeight_68 rfl (lv_at hl 1 rfl) ?_
    refine xGET_14 C0 kw_401 hW dX0_workWeight_69 ?_
    refine lv_iload_n hx hb dX0_workWeight_72 rfl (lv_at hl 2 rfl) ?_
    refine lv_iconst (v := (0 : Int32)) hx hb dX0_workWeight_73 (by decide) ?_
    obtain ⟨g5, ho⟩ := gd_some ho
    refine xST_14 C0 hW g5 dX0_workWeight_74 (fun H locs hW => ?_)
    obtain ⟨t6, ht6, ho, hW⟩ := nm_wm (P := fun t => wl D A s (wX cI cJ cZ cR am gm t) H locs) mle_sA ho hW
    refine lv_aload_n hx hb dX0_workWeight_75 rfl (lv_at hl 1 rfl) ?_
    obtain ⟨q7, hc8, ho⟩ := bd_some ho
    have hq7 := mm_x0_work t6 _ hc8
    have hEq7 := (mm_x0_workWeight_J79 _ _ _ ho)
    refine W_up h0 (mle.trans ht4 ht6) ?_
    have h0 := (mle.trans h0 (mle.trans ht4 ht6))
    refine bkIa C0.1 hW h0 hq7 (runVX (As := []) (rest := []) C0 hW (c_x0_work l _ t6 (r := q7.1) (t' := q7.2) hc8) cb_X0_X0_work_135 0 0 rfl rfl rfl rfl rfl ⟨rfl, rfl⟩ ⟨Nat.le_of_ble_eq_true rfl, Nat.le_of_ble_eq_true rfl⟩ (Nat.le_of_ble_eq_true rfl) hl.1 dX0_workWeight_76 (hf_of h0 hq7 hEq7)) (fun gm H locs hW => ?_)
    have h0 := mle.trans h0 hq7
    exact J79 gm _ _ ho h0 _ _ _ hW (lv_sub hl [1] rfl)
  have hE : mle t0 t' := mm_x0_workWeight _ _ _ ho
  have hR := hR_of (t0 := t0) hE
  have h0 : mle t0 t0 := mle.rfl
  refine W_0 (t0 := t0) ?_
  unfold x0_workWeight at ho
  refine lv_aload_n hx hb dX0_workWeight_0 rfl (lv_at hl 0 rfl) ?_
  refine xGET_13 C0 kw_399 hW dX0_workWeight_1 ?_
  refine lv_iconst (v := (0 : Int32)) hx hb dX0_workWeight_4 (by decide) ?_
  obtain ⟨q9, hc10, ho⟩ := bd_some ho
  have hq9 := mm_j7_fill_53178_13 t0 (0 : Int32) _ hc10
  refine bkV C0.1 hW (runSX (As := [.ref (am 13), .int (0 : Int32)]) (rest := []) C0 hW (c_j7_fill_53178_13 l _ t0 (0 : Int32) (t' := q9) hc10) cb_X0_J7_fill_53178_120 rfl rfl ⟨rfl, rfl⟩ ⟨Nat.le_of_ble_eq_true rfl, Nat.le_of_ble_eq_true rfl⟩ (Nat.le_of_ble_eq_true rfl) hl.1 dX0_workWeight_5 ⟨hR.1, hR.2⟩) (fun H locs hW => ?_)
  refine lv_aload_n hx hb dX0_workWeight_8 rfl (lv_at hl 0 rfl) ?_
  refine xGET_1 C0 kw_383 hW dX0_workWeight_9 ?_
  refine lv_iconst (v := (1 : Int32)) hx hb dX0_workWeight_12 (by decide) ?_
  refine lv_iload_n hx hb dX0_workWeight_13 rfl (lv_at hl 1 rfl) ?_
  refine lv_ishl hx hb dX0_workWeight_14 ?_
  obtain ⟨q11, hc12, ho⟩ := bd_some ho
  refine bkI C0.1 hW (runVX (As := [.int ((1 : Int32) <<< (a1 &&& 31))]) (rest := []) C0 hW (c_x8_narrowed l _ q9 ((1 : Int32) <<< (a1 &&& 31)) (r := q11) hc12) cb_X0_X8_narrowed_126 8 8 rfl rfl rfl rfl rfl ⟨rfl, rfl⟩ ⟨Nat.le_of_ble_eq_true rfl, Nat.le_of_ble_eq_true rfl⟩ (Nat.le_of_ble_eq_true rfl) hl.1 dX0_workWeight_15 ⟨hR.1, hR.2⟩) (fun H locs hW => ?_)
  refine lv_if_ne (tgt := 22) hx hb dX0_workWeight_18 (by decide) (fun c13 => ?_) (fun c13 => ?_)
  · replace ho := ite_f c13 ho
    refine lv_aload_n hx hb dX0_workWeight_22 rfl (lv_at hl 0 rfl) ?_
    refine lv_iconst (v := (0 : Int32)) hx hb dX0_workWeight_23 (by decide) ?_
    obtain ⟨q14, hc15, ho⟩ := bd_some ho
    have hq14 := mm_x0_takeOdds q9 (0 : Int32) _ hc15
    refine bkV C0.1 hW (runVX (As := [.int (0 : Int32)]) (rest := []) C0 hW (c_x0_takeOdds l _ q9 (0 : Int32) (t' := q14) hc15) cb_X0_X0_takeOdds_129 0 0 rfl rfl rfl rfl rfl ⟨rfl, rfl⟩ ⟨Nat.le_of_ble_eq_true rfl, Nat.le_of_ble_eq_true rfl⟩ (Nat.le_of_ble_eq_true rfl) hl.1 dX0_workWeight_24 ⟨hR.1, hR.2⟩) (fun H locs hW => ?_)
    refine lv_aload_n hx hb dX0_workWeight_27 rfl (lv_at hl 0 rfl) ?_
    refine xGET_1 C0 kw_383 hW dX0_workWeight_28 ?_
    refine xGET_802 C0 kw_273 hW dX0_workWeight_31 ?_
    refine lv_iload_n hx hb dX0_workWeight_34 rfl (lv_at hl 1 rfl) ?_
    obtain ⟨g16, ho⟩ := gd_some ho
    refine xLD_802 C0 hW g16 dX0_workWeight_35 ?_
    refine lv_nmi ho (fun x17 ho => ?_)
    refine lv_istore_n (lv' := [(2, .int x17), (0, .ref (am 1000)), (1, .int a1)]) hx hb dX0_workWeight_36 rfl hl (by decide) rfl (fun ls hl => ?_)
    refine lv_aload_n hx hb dX0_workWeight_37 rfl (lv_at hl 1 rfl) ?_
    refine xGET_14 C0 kw_401 hW dX0_workWeight_38 ?_
    refine lv_iload_n hx hb dX0_workWeight_41 rfl (lv_at hl 0 rfl) ?_
    refine lv_sipush (v := (1000 : Int32)) hx hb dX0_workWeight_42 (by decide) ?_
    obtain ⟨g18, ho⟩ := gd_some ho
    refine xST_14 C0 hW g18 dX0_workWeight_45 (fun H locs hW => ?_)
    obtain ⟨t19, ht19, ho, hW⟩ := nm_wm (P := fun t => wl D A s (wX cI cJ cZ cR am gm t) H locs) mle_sA ho hW
    refine lv_aload_n hx hb dX0_workWeight_46 rfl (lv_at hl 1 rfl) ?_
    obtain ⟨q20, hc21, ho⟩ := bd_some ho
    have hq20 := mm_x0_work t19 _ hc21
    have hEq20 := (mm_x0_workWeight_J50 _ _ _ _ ho)
    refine W_up h0 (mle.trans (mle.trans hq9 hq14) ht19) ?_
    have h0 := (mle.trans h0 (mle.trans (mle.trans hq9 hq14) ht19))
    refine bkIa C0.1 hW h0 hq20 (runVX (As := []) (rest := []) C0 hW (c_x0_work l _ t19 (r := q20.1) (t' := q20.2) hc21) cb_X0_X0_work_135 0 0 rfl rfl rfl rfl rfl ⟨rfl, rfl⟩ ⟨Nat.le_of_ble_eq_true rfl, Nat.le_of_ble_eq_true rfl⟩ (Nat.le_of_ble_eq_true rfl) hl.1 dX0_workWeight_47 (hf_of h0 hq20 hEq20)) (fun gm H locs hW => ?_)
    have h0 := mle.trans h0 hq20
    exact J50 gm _ _ _ ho h0 _ _ _ hW (lv_sub hl [1, 0] rfl)
  · replace ho := ite_t c13 ho
    refine W_up h0 hq9 ?_
    cases ho
    exact rtVa gm C0.1 hW dX0_workWeight_21
noncomputable def x2_putThousandths_13_B123 (v5 : Int32) (v6 : Int32) (v7 : Int32) (t : St) : Option ((Int32 × St) ⊕ (St)) :=
  if v5 ≤ v7 then (some (.inr t)) else ((x2_multiply_201 t (0 : Int32) (6 : Int32) (2 : Int32)).bind (fun q2 => nm (v7 + (1 : Int32)) (fun x4 : Int32 => some (.inl (x4, q2)))))
theorem mm_x2_putThousandths_13_B123 (v5 : Int32) (v6 : Int32) (v7 : Int32) (t : St) : MR (x2_putThousandths_13_B123 v5 v6 v7 t) t (Sum.elim (fun (x : Int32 × St) => x.2) (fun (y : St) => y)) := by
  unfold x2_putThousandths_13_B123
  exact MR_ite (MR_some mle.rfl) (MR_bind (mm_x2_multiply_201 t (0 : Int32) (6 : Int32) (2 : Int32)) (fun q2 hq2 => MR_nm (fun x4 _ => MR_some hq2)))
theorem mm_x2_putThousandths_13_L123 (v5 : Int32) (v6 : Int32) (v7 : Int32) (t : St) : MR (lp (fun x => x2_putThousandths_13_B123 v5 v6 x.1 x.2) (v7, t)) t (fun (y : St) => y) := MR_lp (p := (fun (x : Int32 × St) => x.2)) (q := (fun (y : St) => y)) (fun x => mm_x2_putThousandths_13_B123 v5 v6 x.1 x.2) (v7, t)
noncomputable def x2_putThousandths_13_B150 (v6 : Int32) (v7 : Int32) (t : St) : Option ((Int32 × St) ⊕ (St)) :=
  if v6 ≤ v7 then (some (.inr t)) else ((x2_multiply_201 t (0 : Int32) (6 : Int32) (5 : Int32)).bind (fun q6 => nm (v7 + (1 : Int32)) (fun x8 : Int32 => some (.inl (x8, q6)))))
theorem mm_x2_putThousandths_13_B150 (v6 : Int32) (v7 : Int32) (t : St) : MR (x2_putThousandths_13_B150 v6 v7 t) t (Sum.elim (fun (x : Int32 × St) => x.2) (fun (y : St) => y)) := by
  unfold x2_putThousandths_13_B150
  exact MR_ite (MR_some mle.rfl) (MR_bind (mm_x2_multiply_201 t (0 : Int32) (6 : Int32) (5 : Int32)) (fun q6 hq6 => MR_nm (fun x8 _ => MR_some hq6)))
theorem mm_x2_putThousandths_13_L150 (v6 : Int32) (v7 : Int32) (t : St) : MR (lp (fun x => x2_putThousandths_13_B150 v6 x.1 x.2) (v7, t)) t (fun (y : St) => y) := MR_lp (p := (fun (x : Int32 × St) => x.2)) (q := (fun (y : St) => y)) (fun x => mm_x2_putThousandths_13_B150 v6 x.1 x.2) (v7, t)
noncomputable def x2_putThousandths_13_B45 (v6 : Int32) (v5 : Int32) (t : St) : Option ((Int32 × St) ⊕ (Int32 × St)) :=
  if v5 ≤ 0 then (some (.inr (v5, t))) else ((x2_remainder_200 t (2 : Int32)).bind (fun q10 => if q10 = 0 then ((x2_divide_200 t (2 : Int32)).bind (fun q13 => nm (v5 + (-1 : Int32)) (fun x15 : Int32 => some (.inl (x15, q13))))) else (some (.inr (v5, t)))))
theorem mm_x2_putThousandths_13_B45 (v6 : Int32) (v5 : Int32) (t : St) : MR (x2_putThousandths_13_B45 v6 v5 t) t (Sum.elim (fun (x : Int32 × St) => x.2) (fun (y : Int32 × St) => y.2)) := by
  unfold x2_putThousandths_13_B45
  exact MR_ite (MR_some mle.rfl) (MR_bindn (fun q10 => MR_ite (MR_bind (mm_x2_divide_200 t (2 : Int32)) (fun q13 hq13 => MR_nm (fun x15 _ => MR_some hq13))) (MR_some mle.rfl)))
theorem mm_x2_putThousandths_13_L45 (v6 : Int32) (v5 : Int32) (t : St) : MR (lp (fun x => x2_putThousandths_13_B45 v6 x.1 x.2) (v5, t)) t (fun (y : Int32 × St) => y.2) := MR_lp (p := (fun (x : Int32 × St) => x.2)) (q := (fun (y : Int32 × St) => y.2)) (fun x => mm_x2_putThousandths_13_B45 v6 x.1 x.2) (v5, t)
noncomputable def x2_putThousandths_13_B75 (v5 : Int32) (v6 : Int32) (t : St) : Option ((Int32 × St) ⊕ (Int32 × St)) :=
  if v6 ≤ 0 then (some (.inr (v6, t))) else ((x2_remainder_200 t (5 : Int32)).bind (fun q17 => if q17 = 0 then ((x2_divide_200 t (5 : Int32)).bind (fun q20 => nm (v6 + (-1 : Int32)) (fun x22 : Int32 => some (.inl (x22, q20))))) else (some (.inr (v6, t)))))
theorem mm_x2_putThousandths_13_B75 (v5 : Int32) (v6 : Int32) (t : St) : MR (x2_putThousandths_13_B75 v5 v6 t) t (Sum.elim (fun (x : Int32 × St) => x.2) (fun (y : Int32 × St) => y.2)) := by
  unfold x2_putThousandths_13_B75
  exact MR_ite (MR_some mle.rfl) (MR_bindn (fun q17 => MR_ite (MR_bind (mm_x2_divide_200 t (5 : Int32)) (fun q20 hq20 => MR_nm (fun x22 _ => MR_some hq20))) (MR_some mle.rfl)))
theorem mm_x2_putThousandths_13_L75 (v5 : Int32) (v6 : Int32) (t : St) : MR (lp (fun x => x2_putThousandths_13_B75 v5 x.1 x.2) (v6, t)) t (fun (y : Int32 × St) => y.2) := MR_lp (p := (fun (x : Int32 × St) => x.2)) (q := (fun (y : Int32 × St) => y.2)) (fun x => mm_x2_putThousandths_13_B75 v5 x.1 x.2) (v6, t)
noncomputable def x2_putThousandths_13_J39 (t : St) (w0 : Int32) : Option (St) :=
  (lp (fun x => x2_putThousandths_13_B45 w0 x.1 x.2) (w0, t)).bind (fun y23 => (lp (fun x => x2_putThousandths_13_B75 y23.1 x.1 x.2) (w0, y23.2)).bind (fun y26 => (j7_fill_53178_201 y26.2 (0 : Int32)).bind (fun q29 => gd (0 : Int32) (gN q29 201) (nm (sA q29 201 (0 : Int32) (1 : Int32)) (fun t32 : St => (lp (fun x => x2_putThousandths_13_B123 y23.1 y26.1 x.1 x.2) ((0 : Int32), t32)).bind (fun y33 => (lp (fun x => x2_putThousandths_13_B150 y26.1 x.1 x.2) ((0 : Int32), y33)).bind (fun y36 => some y36)))))))
theorem mm_x2_putThousandths_13_J39 (t : St) (w0 : Int32) : MR (x2_putThousandths_13_J39 t w0) t (fun (a : St) => a) := by
  unfold x2_putThousandths_13_J39
  exact MR_bind (mm_x2_putThousandths_13_L45 w0 w0 t) (fun y23 hm24 => MR_bind (mm_x2_putThousandths_13_L75 y23.1 w0 y23.2) (fun y26 hm27 => MR_bind (mm_j7_fill_53178_201 y26.2 (0 : Int32)) (fun q29 hq29 => MR_gd (MR_nmS mle_sA (fun t32 ht32 => MR_bind (mm_x2_putThousandths_13_L123 y23.1 y26.1 (0 : Int32) t32) (fun y33 hm34 => MR_bind (mm_x2_putThousandths_13_L150 y26.1 (0 : Int32) y33) (fun y36 hm37 => MR_some (mle.trans (mle.trans (mle.trans (mle.trans (mle.trans hm24 hm27) hq29) ht32) hm34) hm37))))))))
noncomputable def x2_putThousandths_13 (t : St) (a2 : Int32) (a3 : Int32) (a4 : Int32) : Option (St) :=
  (j7_fill_53178_200 t (0 : Int32)).bind (fun q39 => cpk a2 (0 : Int32) (if (6 : Int32) < a3 then (6 : Int32) else a3) (gN q39 13) (gN q39 200) (nm (sAr q39 200 (va_cpy (gA q39 13) (gA q39 200) (a2).toNatClampNeg ((0 : Int32)).toNatClampNeg ((if (6 : Int32) < a3 then (6 : Int32) else a3)).toNatClampNeg)) (fun t42 : St => (x2_isZero t42).bind (fun q43 => if q43 = 0 then (x2_putThousandths_13_J39 t42 ((3 : Int32) * a4)) else (x2_putThousandths_13_J39 t42 (0 : Int32))))))
theorem mm_x2_putThousandths_13 (t : St) (a2 : Int32) (a3 : Int32) (a4 : Int32) : MR (x2_putThousandths_13 t a2 a3 a4) t (fun (a : St) => a) := by
  unfold x2_putThousandths_13
  exact MR_bind (mm_j7_fill_53178_200 t (0 : Int32)) (fun q39 hq39 => MR_cpk (MR_nmS mle_sAr (fun t42 ht42 => MR_bindn (fun q43 => MR_ite (MR_wk (mle.trans hq39 ht42) (mm_x2_putThousandths_13_J39 t42 ((3 : Int32) * a4))) (MR_wk (mle.trans hq39 ht42) (mm_x2_putThousandths_13_J39 t42 (0 : Int32)))))))
set_option maxHeartbeats 4000000 in
set_option maxRecDepth 100000 in
theorem x2_putThousandths_13_L123 {p : Program} {l : Launch} {e : Env} {s : State} {m : MethodId} {args : Array Value} {below : List Frame} {meth : Method} {c : Code} {Q : State → Prop} {D : va_G} {cI cJ cZ cR : ClassId} {am gm : Nat → Nat} {st : Nat} {A : Nat → Prop} (C0 : cxX p s m args meth c cX2_putThousandths RX2 8 none D (tyX cI cJ cZ cR) st A) {v5 : Int32} {v6 : Int32} {y : St} (hK0 : ∀ (H : Heap) (locs : List Loc) (ls : Array Slot), wl D A s (wX cI cJ cZ cR am gm y) H locs → lv_has ls 8 [(0, .ref (am 1002)), (6, .int v6)] → W p l e (rmN 2 60) s m args below meth c H locs 0 0 Q (F0 m 147 ls [])) :
    ∀ (n : Nat) (v7 : Int32) (t : St), lpn (fun x => x2_putThousandths_13_B123 v5 v6 x.1 x.2) n (v7, t) = some y → ∀ (H : Heap) (locs : List Loc) (ls : Array Slot), wl D A s (wX cI cJ cZ cR am gm t) H locs → lv_has ls 8 [(0, .ref (am 1002)), (5, .int v5), (6, .int v6), (7, .int v7)] → W p l e (rmN 2 60) s m args below meth c H locs 0 0 Q (F0 m 123 ls []) := by
  have hx := C0.1.1
  have hb := C0.1.2.1
  have hta := C0.1.2.2.2.2.2.1
  have hown := C0.1.2.2.2.2.1
  intro n
  induction n with
  | zero => intro _ _ h; cases h
  | succ n ih =>
    intro v7 t hrun H locs ls hW hl
    obtain ⟨o, ho, hrun⟩ := bd_some hrun
    unfold x2_putThousandths_13_B123 at ho
    refine lv_iload hx hb dX2_putThousandths_123 (lv_at hl 3 rfl) ?_
    refine lv_iload hx hb dX2_putThousandths_125 (lv_at hl 1 rfl) ?_
    refine lv_icmp_ge (tgt := 147) hx hb dX2_putThousandths_127 (by decide) (fun c1 => ?_) (fun c1 => ?_)
    · replace ho := ite_t c1 ho
      cases ho
      cases hrun
      exact hK0 _ _ _ hW (lv_sub hl [0, 2] rfl)
    · replace ho := ite_f c1 ho
      refine lv_aload_n hx hb dX2_putThousandths_130 rfl (lv_at hl 0 rfl) ?_
      refine xGET_201 C0 kw_370 hW dX2_putThousandths_131 ?_
      refine lv_iconst (v := (0 : Int32)) hx hb dX2_putThousandths_134 (by decide) ?_
      refine lv_bipush (v := (6 : Int32)) hx hb dX2_putThousandths_135 (by decide) ?_
      refine lv_iconst (v := (2 : Int32)) hx hb dX2_putThousandths_137 (by decide) ?_
      obtain ⟨q2, hc3, ho⟩ := bd_some ho
      refine bkV C0.1 hW (runSX (As := [.ref (am 201), .int (0 : Int32), .int (6 : Int32), .int (2 : Int32)]) (rest := []) C0 hW (c_x2_multiply_201 l _ t (0 : Int32) (6 : Int32) (2 : Int32) (t' := q2) hc3) cb_X2_X2_multiply_51 rfl rfl ⟨rfl, rfl⟩ ⟨Nat.le_of_ble_eq_true rfl, Nat.le_of_ble_eq_true rfl⟩ (Nat.le_of_ble_eq_true rfl) hl.1 dX2_putThousandths_138 ⟨Nat.le_of_ble_eq_true rfl, Nat.le_of_ble_eq_true rfl⟩) (fun H locs hW => ?_)
      obtain ⟨x4, ex4, ho⟩ := nm_x ho
      refine lv_iinc (v := x4) (lv' := [(7, .int x4), (0, .ref (am 1002)), (5, .int v5), (6, .int v6)]) hx hb dX2_putThousandths_141 hl (k := 3) rfl (by rw [ex4]; rfl) (by decide) rfl (fun ls hl => ?_)
      clear ex4
      refine lv_goto (tgt := 123) hx hb dX2_putThousandths_144 (by decide) ?_
      cases ho
      exact ih _ _ hrun _ _ _ hW (lv_sub hl [1, 2, 3, 0] rfl)
set_option maxHeartbeats 4000000 in
set_option maxRecDepth 100000 in
theorem x2_putThousandths_13_L150 {p : Program} {l : Launch} {e : Env} {s : State} {m : MethodId} {args : Array Value} {below : List Frame} {meth : Method} {c : Code} {Q : State → Prop} {D : va_G} {cI cJ cZ cR : ClassId} {am gm : Nat → Nat} {st : Nat} {A : Nat → Prop} (C0 : cxX p s m args meth c cX2_putThousandths RX2 8 none D (tyX cI cJ cZ cR) st A) {v6 : Int32} {y : St} (hK0 : ∀ (H : Heap) (locs : List Loc) (ls : Array Slot), wl D A s (wX cI cJ cZ cR am gm y) H locs → lv_has ls 8 [(0, .ref (am 1002))] → W p l e (rmN 2 60) s m args below meth c H locs 0 0 Q (F0 m 174 ls [])) :
    ∀ (n : Nat) (v7 : Int32) (t : St), lpn (fun x => x2_putThousandths_13_B150 v6 x.1 x.2) n (v7, t) = some y → ∀ (H : Heap) (locs : List Loc) (ls : Array Slot), wl D A s (wX cI cJ cZ cR am gm t) H locs → lv_has ls 8 [(0, .ref (am 1002)), (6, .int v6), (7, .int v7)] → W p l e (rmN 2 60) s m args below meth c H locs 0 0 Q (F0 m 150 ls []) := by
  have hx := C0.1.1
  have hb := C0.1.2.1
  have hta := C0.1.2.2.2.2.2.1
  have hown := C0.1.2.2.2.2.1
  intro n
  induction n with
  | zero => intro _ _ h; cases h
  | succ n ih =>
    intro v7 t hrun H locs ls hW hl
    obtain ⟨o, ho, hrun⟩ := bd_some hrun
    unfold x2_putThousandths_13_B150 at ho
    refine lv_iload hx hb dX2_putThousandths_150 (lv_at hl 2 rfl) ?_
    refine lv_iload hx hb dX2_putThousandths_152 (lv_at hl 1 rfl) ?_
    refine lv_icmp_ge (tgt := 174) hx hb dX2_putThousandths_154 (by decide) (fun c5 => ?_) (fun c5 => ?_)
    · replace ho := ite_t c5 ho
      cases ho
      cases hrun
      exact hK0 _ _ _ hW (lv_sub hl [0] rfl)
    · replace ho := ite_f c5 ho
      refine lv_aload_n hx hb dX2_putThousandths_157 rfl (lv_at hl 0 rfl) ?_
      refine xGET_201 C0 kw_370 hW dX2_putThousandths_158 ?_
      refine lv_iconst (v := (0 : Int32)) hx hb dX2_putThousandths_161 (by decide) ?_
      refine lv_bipush (v := (6 : Int32)) hx hb dX2_putThousandths_162 (by decide) ?_
      refine lv_iconst (v := (5 : Int32)) hx hb dX2_putThousandths_164 (by decide) ?_
      obtain ⟨q6, hc7, ho⟩ := bd_some ho
      refine bkV C0.1 hW (runSX (As := [.ref (am 201), .int (0 : Int32), .int (6 : Int32), .int (5 : Int32)]) (rest := []) C0 hW (c_x2_multiply_201 l _ t (0 : Int32) (6 : Int32) (5 : Int32) (t' := q6) hc7) cb_X2_X2_multiply_51 rfl rfl ⟨rfl, rfl⟩ ⟨Nat.le_of_ble_eq_true rfl, Nat.le_of_ble_eq_true rfl⟩ (Nat.le_of_ble_eq_true rfl) hl.1 dX2_putThousandths_165 ⟨Nat.le_of_ble_eq_true rfl, Nat.le_of_ble_eq_true rfl⟩) (fun H locs hW => ?_)
      obtain ⟨x8, ex8, ho⟩ := nm_x ho
      refine lv_iinc (v := x8) (lv' := [(7, .int x8), (0, .ref (am 1002)), (6, .int v6)]) hx hb dX2_putThousandths_168 hl (k := 2) rfl (by rw [ex8]; rfl) (by decide) rfl (fun ls hl => ?_)
      clear ex8
      refine lv_goto (tgt := 150) hx hb dX2_putThousandths_171 (by decide) ?_
      cases ho
      exact ih _ _ hrun _ _ _ hW (lv_sub hl [1, 2, 0] rfl)
set_option maxHeartbeats 4000000 in
set_option maxRecDepth 100000 in
theorem x2_putThousandths_13_L45 {p : Program} {l : Launch} {e : Env} {s : State} {m : MethodId} {args : Array Value} {below : List Frame} {meth : Method} {c : Code} {Q : State → Prop} {D : va_G} {cI cJ cZ cR : ClassId} {am gm : Nat → Nat} {st : Nat} {A : Nat → Prop} (C0 : cxX p s m args meth c cX2_putThousandths RX2 8 none D (tyX cI cJ cZ cR) st A) {v6 : Int32} {y : Int32 × St} (hK0 : ∀ (H : Heap) (locs : List Loc) (ls : Array Slot), wl D A s (wX cI cJ cZ cR am gm y.2) H locs → lv_has ls 8 [(0, .ref (am 1002)), (5, .int y.1), (6, .int v6)] → W p l e (rmN 2 60) s m args below meth c H locs 0 0 Q (F0 m 75 ls [])) :
    ∀ (n : Nat) (v5 : Int32) (t : St), lpn (fun x => x2_putThousandths_13_B45 v6 x.1 x.2) n (v5, t) = some y → ∀ (H : Heap) (locs : List Loc) (ls : Array Slot), wl D A s (wX cI cJ cZ cR am gm t) H locs → lv_has ls 8 [(0, .ref (am 1002)), (5, .int v5), (6, .int v6)] → W p l e (rmN 2 60) s m args below meth c H locs 0 0 Q (F0 m 45 ls []) := by
  have hx := C0.1.1
  have hb := C0.1.2.1
  have hta := C0.1.2.2.2.2.2.1
  have hown := C0.1.2.2.2.2.1
  intro n
  induction n with
  | zero => intro _ _ h; cases h
  | succ n ih =>
    intro v5 t hrun H locs ls hW hl
    obtain ⟨o, ho, hrun⟩ := bd_some hrun
    unfold x2_putThousandths_13_B45 at ho
    refine lv_iload hx hb dX2_putThousandths_45 (lv_at hl 1 rfl) ?_
    refine lv_if_le (tgt := 75) hx hb dX2_putThousandths_47 (by decide) (fun c9 => ?_) (fun c9 => ?_)
    · replace ho := ite_t c9 ho
      cases ho
      cases hrun
      exact hK0 _ _ _ hW (lv_sub hl [0, 1, 2] rfl)
    · replace ho := ite_f c9 ho
      refine lv_aload_n hx hb dX2_putThousandths_50 rfl (lv_at hl 0 rfl) ?_
      refine xGET_200 C0 kw_369 hW dX2_putThousandths_51 ?_
      refine lv_iconst (v := (2 : Int32)) hx hb dX2_putThousandths_54 (by decide) ?_
      obtain ⟨q10, hc11, ho⟩ := bd_some ho
      refine bkI C0.1 hW (runSX (As := [.ref (am 200), .int (2 : Int32)]) (rest := []) C0 hW (c_x2_remainder_200 l _ t (2 : Int32) (r := q10) hc11) cb_X2_X2_remainder_44 rfl rfl ⟨rfl, rfl⟩ ⟨Nat.le_of_ble_eq_true rfl, Nat.le_of_ble_eq_true rfl⟩ (Nat.le_of_ble_eq_true rfl) hl.1 dX2_putThousandths_55 ⟨Nat.le_of_ble_eq_true rfl, Nat.le_of_ble_eq_true rfl⟩) (fun H locs hW => ?_)
      refine lv_if_ne (tgt := 75) hx hb dX2_putThousandths_58 (by decide) (fun c12 => ?_) (fun c12 => ?_)
      · replace ho := ite_f c12 ho
        cases ho
        cases hrun
        exact hK0 _ _ _ hW (lv_sub hl [0, 1, 2] rfl)
      · replace ho := ite_t c12 ho
        refine lv_aload_n hx hb dX2_putThousandths_61 rfl (lv_at hl 0 rfl) ?_
        refine xGET_200 C0 kw_369 hW dX2_putThousandths_62 ?_
        refine lv_iconst (v := (2 : Int32)) hx hb dX2_putThousandths_65 (by decide) ?_
        obtain ⟨q13, hc14, ho⟩ := bd_some ho
        refine bkV C0.1 hW (runSX (As := [.ref (am 200), .int (2 : Int32)]) (rest := []) C0 hW (c_x2_divide_200 l _ t (2 : Int32) (t' := q13) hc14) cb_X2_X2_divide_48 rfl rfl ⟨rfl, rfl⟩ ⟨Nat.le_of_ble_eq_true rfl, Nat.le_of_ble_eq_true rfl⟩ (Nat.le_of_ble_eq_true rfl) hl.1 dX2_putThousandths_66 ⟨Nat.le_of_ble_eq_true rfl, Nat.le_of_ble_eq_true rfl⟩) (fun H locs hW => ?_)
        obtain ⟨x15, ex15, ho⟩ := nm_x ho
        refine lv_iinc (v := x15) (lv' := [(5, .int x15), (0, .ref (am 1002)), (6, .int v6)]) hx hb dX2_putThousandths_69 hl (k := 1) rfl (by rw [ex15]; rfl) (by decide) rfl (fun ls hl => ?_)
        clear ex15
        refine lv_goto (tgt := 45) hx hb dX2_putThousandths_72 (by decide) ?_
        cases ho
        exact ih _ _ hrun _ _ _ hW (lv_sub hl [1, 0, 2] rfl)
set_option maxHeartbeats 4000000 in
set_option maxRecDepth 100000 in
theorem x2_putThousandths_13_L75 {p : Program} {l : Launch} {e : Env} {s : State} {m : MethodId} {args : Array Value} {below : List Frame} {meth : Method} {c : Code} {Q : State → Prop} {D : va_G} {cI cJ cZ cR : ClassId} {am gm : Nat → Nat} {st : Nat} {A : Nat → Prop} (C0 : cxX p s m args meth c cX2_putThousandths RX2 8 none D (tyX cI cJ cZ cR) st A) {v5 : Int32} {y : Int32 × St} (hK0 : ∀ (H : Heap) (locs : List Loc) (ls : Array Slot), wl D A s (wX cI cJ cZ cR am gm y.2) H locs → lv_has ls 8 [(0, .ref (am 1002)), (5, .int v5), (6, .int y.1)] → W p l e (rmN 2 60) s m args below meth c H locs 0 0 Q (F0 m 105 ls [])) :
    ∀ (n : Nat) (v6 : Int32) (t : St), lpn (fun x => x2_putThousandths_13_B75 v5 x.1 x.2) n (v6, t) = some y → ∀ (H : Heap) (locs : List Loc) (ls : Array Slot), wl D A s (wX cI cJ cZ cR am gm t) H locs → lv_has ls 8 [(0, .ref (am 1002)), (5, .int v5), (6, .int v6)] → W p l e (rmN 2 60) s m args below meth c H locs 0 0 Q (F0 m 75 ls []) := by
  have hx := C0.1.1
  have hb := C0.1.2.1
  have hta := C0.1.2.2.2.2.2.1
  have hown := C0.1.2.2.2.2.1
  intro n
  induction n with
  | zero => intro _ _ h; cases h
  | succ n ih =>
    intro v6 t hrun H locs ls hW hl
    obtain ⟨o, ho, hrun⟩ := bd_some hrun
    unfold x2_putThousandths_13_B75 at ho
    refine lv_iload hx hb dX2_putThousandths_75 (lv_at hl 2 rfl) ?_
    refine lv_if_le (tgt := 105) hx hb dX2_putThousandths_77 (by decide) (fun c16 => ?_) (fun c16 => ?_)
    · replace ho := ite_t c16 ho
      cases ho
      cases hrun
      exact hK0 _ _ _ hW (lv_sub hl [0, 1, 2] rfl)
    · replace ho := ite_f c16 ho
      refine lv_aload_n hx hb dX2_putThousandths_80 rfl (lv_at hl 0 rfl) ?_
      refine xGET_200 C0 kw_369 hW dX2_putThousandths_81 ?_
      refine lv_iconst (v := (5 : Int32)) hx hb dX2_putThousandths_84 (by decide) ?_
      obtain ⟨q17, hc18, ho⟩ := bd_some ho
      refine bkI C0.1 hW (runSX (As := [.ref (am 200), .int (5 : Int32)]) (rest := []) C0 hW (c_x2_remainder_200 l _ t (5 : Int32) (r := q17) hc18) cb_X2_X2_remainder_44 rfl rfl ⟨rfl, rfl⟩ ⟨Nat.le_of_ble_eq_true rfl, Nat.le_of_ble_eq_true rfl⟩ (Nat.le_of_ble_eq_true rfl) hl.1 dX2_putThousandths_85 ⟨Nat.le_of_ble_eq_true rfl, Nat.le_of_ble_eq_true rfl⟩) (fun H locs hW => ?_)
      refine lv_if_ne (tgt := 105) hx hb dX2_putThousandths_88 (by decide) (fun c19 => ?_) (fun c19 => ?_)
      · replace ho := ite_f c19 ho
        cases ho
        cases hrun
        exact hK0 _ _ _ hW (lv_sub hl [0, 1, 2] rfl)
      · replace ho := ite_t c19 ho
        refine lv_aload_n hx hb dX2_putThousandths_91 rfl (lv_at hl 0 rfl) ?_
        refine xGET_200 C0 kw_369 hW dX2_putThousandths_92 ?_
        refine lv_iconst (v := (5 : Int32)) hx hb dX2_putThousandths_95 (by decide) ?_
        obtain ⟨q20, hc21, ho⟩ := bd_some ho
        refine bkV C0.1 hW (runSX (As := [.ref (am 200), .int (5 : Int32)]) (rest := []) C0 hW (c_x2_divide_200 l _ t (5 : Int32) (t' := q20) hc21) cb_X2_X2_divide_48 rfl rfl ⟨rfl, rfl⟩ ⟨Nat.le_of_ble_eq_true rfl, Nat.le_of_ble_eq_true rfl⟩ (Nat.le_of_ble_eq_true rfl) hl.1 dX2_putThousandths_96 ⟨Nat.le_of_ble_eq_true rfl, Nat.le_of_ble_eq_true rfl⟩) (fun H locs hW => ?_)
        obtain ⟨x22, ex22, ho⟩ := nm_x ho
        refine lv_iinc (v := x22) (lv' := [(6, .int x22), (0, .ref (am 1002)), (5, .int v5)]) hx hb dX2_putThousandths_99 hl (k := 2) rfl (by rw [ex22]; rfl) (by decide) rfl (fun ls hl => ?_)
        clear ex22
        refine lv_goto (tgt := 75) hx hb dX2_putThousandths_102 (by decide) ?_
        cases ho
        exact ih _ _ hrun _ _ _ hW (lv_sub hl [1, 2, 0] rfl)
set_option maxHeartbeats 4000000 in
set_option maxRecDepth 100000 in
theorem c_x2_putThousandths_13 (l : Launch) {D : va_G} {cI cJ cZ cR : ClassId} {am gm : Nat → Nat} {st : Nat} (sz : Nat) (t : St) (a2 : Int32) (a3 : Int32) (a4 : Int32) {t' : St} (ho : x2_putThousandths_13 t a2 a3 a4 = some t') : Met l yX2_putThousandths (.code yX2_putThousandths cX2_putThousandths 8 none :: wsAll) (rmN 2 60) (va_Pc [.ref (am 1002), .ref (am 13), .int a2, .int a3, .int a4] (prX D (tyX cI cJ cZ cR) (wX cI cJ cZ cR am gm t) sz st)) (qV D (tyX cI cJ cZ cR) (wX cI cJ cZ cR am gm t') (va_A (wX cI cJ cZ cR am gm t) sz)) 0 0 (va_A (wX cI cJ cZ cR am gm t) sz) := by
  refine Met.ofW (cc := cX2_putThousandths) (maxL := 8) (ret := none) (by decide) rfl ?_
  intro p e s m args below meth c s₁ B hml hv
  obtain ⟨rfl, ⟨hsz, hP, hK, hD0⟩, hsx⟩ := hv
  have hx := B.exec
  have hb := B.bytes
  have hts := atoms_spec (ws := (.code yX2_putThousandths cX2_putThousandths 8 none :: wsAll)) B.pre
  have hta := fun w h => hts w (List.mem_cons_of_mem _ h)
  have hown : s.vm.findClass RX2 = some m.cls := findClass_of_methodNamed B.named
  have hlocks := B.notSynchronized
  subst hsz
  have hD := hD0.self (sz := s.heap.size)
  generalize hAe : va_A (wX cI cJ cZ cR am gm t) s.heap.size = A at hD ⊢
  have hA : ∀ q : Nat, s.heap.size ≤ q → A q := fun q h => by rw [← hAe]; exact Or.inr h
  have C0 : cxX p s m ([.ref (am 1002), .ref (am 13), .int a2, .int a3, .int a4].toArray) meth c cX2_putThousandths RX2 8 none D (tyX cI cJ cZ cR) st A := ⟨⟨hx, hb, B.returns, hml, hown, hta, hlocks, hK, hA⟩, by rw [← hAe]; exact hsx⟩
  have hW : wl D A s (wX cI cJ cZ cR am gm t) s.heap [] := ⟨hP, hD, va_S.rf⟩
  have hl := lv_entry [.ref (am 1002), .ref (am 13), .int a2, .int a3, .int a4] (n := 8) (Nat.le_of_ble_eq_true rfl)
  rw [lg_entry_eq]
  generalize (lg_sl [.ref (am 1002), .ref (am 13), .int a2, .int a3, .int a4] ++ List.replicate (8 - (lg_sl [.ref (am 1002), .ref (am 13), .int a2, .int a3, .int a4]).length) Slot.unset).toArray = ls at hl ⊢
  have hl : lv_has ls 8 [(0, .ref (am 1002)), (1, .ref (am 13)), (2, .int a2), (3, .int a3), (4, .int a4)] := hl
  clear hAe hD hP hD0 hts
  have J39 : ∀ (t : St) (w0 : Int32) (_ : x2_putThousandths_13_J39 t w0 = some t') (H : Heap) (locs : List Loc) (ls : Array Slot), wl D A s (wX cI cJ cZ cR am gm t) H locs → lv_has ls 8 [(0, .ref (am 1002))] → W p l e (rmN 2 60) s m ([.ref (am 1002), .ref (am 13), .int a2, .int a3, .int a4].toArray) below meth c H locs 0 0 (MQ below (qV D (tyX cI cJ cZ cR) (wX cI cJ cZ cR am gm t') A) ([.ref (am 1002), .ref (am 13), .int a2, .int a3, .int a4].toArray) s 0 0 A) (F0 m 39 ls [.int w0]) := by
    intro t w0 ho H locs ls hW hl
    unfold x2_putThousandths_13_J39 at ho
    refine lv_istore (lv' := [(5, .int w0), (0, .ref (am 1002))]) hx hb dX2_putThousandths_39 hl (by decide) rfl (fun ls hl => ?_)
    refine lv_iload hx hb dX2_putThousandths_41 (lv_at hl 0 rfl) ?_
    refine lv_istore (lv' := [(6, .int w0), (5, .int w0), (0, .ref (am 1002))]) hx hb dX2_putThousandths_43 hl (by decide) rfl (fun ls hl => ?_)
    obtain ⟨y23, hc25, ho⟩ := bd_some ho
    obtain ⟨ny23, hc25⟩ := lp_to hc25
    refine x2_putThousandths_13_L45 C0 ?_ ny23 _ _ hc25 _ _ _ hW (lv_sub hl [2, 1, 0] rfl)
    intro H locs ls hW hl
    obtain ⟨y26, hc28, ho⟩ := bd_some ho
    obtain ⟨ny26, hc28⟩ := lp_to hc28
    refine x2_putThousandths_13_L75 C0 ?_ ny26 _ _ hc28 _ _ _ hW (lv_sub hl [0, 1, 2] rfl)
    intro H locs ls hW hl
    refine lv_aload_n hx hb dX2_putThousandths_105 rfl (lv_at hl 0 rfl) ?_
    refine xGET_201 C0 kw_370 hW dX2_putThousandths_106 ?_
    refine lv_iconst (v := (0 : Int32)) hx hb dX2_putThousandths_109 (by decide) ?_
    obtain ⟨q29, hc30, ho⟩ := bd_some ho
    refine bkV C0.1 hW (runSX (As := [.ref (am 201), .int (0 : Int32)]) (rest := []) C0 hW (c_j7_fill_53178_201 l _ y26.2 (0 : Int32) (t' := q29) hc30) cb_X2_J7_fill_53178_22 rfl rfl ⟨rfl, rfl⟩ ⟨Nat.le_of_ble_eq_true rfl, Nat.le_of_ble_eq_true rfl⟩ (Nat.le_of_ble_eq_true rfl) hl.1 dX2_putThousandths_110 ⟨Nat.le_of_ble_eq_true rfl, Nat.le_of_ble_eq_true rfl⟩) (fun H locs hW => ?_)
    refine lv_aload_n hx hb dX2_putThousandths_113 rfl (lv_at hl 0 rfl) ?_
    refine xGET_201 C0 kw_370 hW dX2_putThousandths_114 ?_
    refine lv_iconst (v := (0 : Int32)) hx hb dX2_putThousandths_117 (by decide) ?_
    refine lv_iconst (v := (1 : Int32)) hx hb dX2_putThousandths_118 (by decide) ?_
    obtain ⟨g31, ho⟩ := gd_some ho
    refine xST_201 C0 hW g31 dX2_putThousandths_119 (fun H locs hW => ?_)
    obtain ⟨t32, ho, hW⟩ := nm_w (P := fun t => wl D A s (wX cI cJ cZ cR am gm t) H locs) ho hW
    refine lv_iconst (v := (0 : Int32)) hx hb dX2_putThousandths_120 (by decide) ?_
    refine lv_istore (lv' := [(7, .int (0 : Int32)), (0, .ref (am 1002)), (5, .int y23.1), (6, .int y26.1)]) hx hb dX2_putThousandths_121 hl (by decide) rfl (fun ls hl => ?_)
    obtain ⟨y33, hc35, ho⟩ := bd_some ho
    obtain ⟨ny33, hc35⟩ := lp_to hc35
    refine x2_putThousandths_13_L123 C0 ?_ ny33 _ _ hc35 _ _ _ hW (lv_sub hl [1, 2, 3, 0] rfl)
    intro H locs ls hW hl
    refine lv_iconst (v := (0 : Int32)) hx hb dX2_putThousandths_147 (by decide) ?_
    refine lv_istore (lv' := [(7, .int (0 : Int32)), (0, .ref (am 1002)), (6, .int y26.1)]) hx hb dX2_putThousandths_148 hl (by decide) rfl (fun ls hl => ?_)
    obtain ⟨y36, hc38, ho⟩ := bd_some ho
    obtain ⟨ny36, hc38⟩ := lp_to hc38
    refine x2_putThousandths_13_L150 C0 ?_ ny36 _ _ hc38 _ _ _ hW (lv_sub hl [1, 2, 0] rfl)
    intro H locs ls hW hl
    cases ho
    exact rtV C0.1 hW dX2_putThousandths_174
  unfold x2_putThousandths_13 at ho
  refine lv_aload_n hx hb dX2_putThousandths_0 rfl (lv_at hl 0 rfl) ?_
  refine xGET_200 C0 kw_369 hW dX2_putThousandths_1 ?_
  refine lv_iconst (v := (0 : Int32)) hx hb dX2_putThousandths_4 (by decide) ?_
  obtain ⟨q39, hc40, ho⟩ := bd_some ho
  refine bkV C0.1 hW (runSX (As := [.ref (am 200), .int (0 : Int32)]) (rest := []) C0 hW (c_j7_fill_53178_200 l _ t (0 : Int32) (t' := q39) hc40) cb_X2_J7_fill_53178_22 rfl rfl ⟨rfl, rfl⟩ ⟨Nat.le_of_ble_eq_true rfl, Nat.le_of_ble_eq_true rfl⟩ (Nat.le_of_ble_eq_true rfl) hl.1 dX2_putThousandths_5 ⟨Nat.le_of_ble_eq_true rfl, Nat.le_of_ble_eq_true rfl⟩) (fun H locs hW => ?_)
  refine lv_aload_n hx hb dX2_putThousandths_8 rfl (lv_at hl 1 rfl) ?_
  refine lv_iload_n hx hb dX2_putThousandths_9 rfl (lv_at hl 2 rfl) ?_
  refine lv_aload_n hx hb dX2_putThousandths_10 rfl (lv_at hl 0 rfl) ?_
  refine xGET_200 C0 kw_369 hW dX2_putThousandths_11 ?_
  refine lv_iconst (v := (0 : Int32)) hx hb dX2_putThousandths_14 (by decide) ?_
  refine lv_iload_n hx hb dX2_putThousandths_15 rfl (lv_at hl 3 rfl) ?_
  refine lv_bipush (v := (6 : Int32)) hx hb dX2_putThousandths_16 (by decide) ?_
  refine va_mmin (rest := [.int (0 : Int32), .ref (am 200), .int a2, .ref (am 13)]) hx hb (C0.1.2.2.2.1.trans hl.1.symm) hown (hta _ kw_1006) (hta _ kw_748) (hta _ kw_136) (hta _ kw_749) (Nat.le_of_ble_eq_true rfl) (Nat.le_of_ble_eq_true rfl) (Nat.le_of_ble_eq_true rfl) (Nat.le_of_ble_eq_true rfl) dX2_putThousandths_18 ?_
  obtain ⟨g41, ho⟩ := cpk_some ho
  refine xCPY_13_200 (rest := []) C0 kw_1007 kw_752 kw_751 kw_137 hl.1 hW g41 (Nat.le_of_ble_eq_true rfl) (Nat.le_of_ble_eq_true rfl) dX2_putThousandths_21 (fun H locs hW => ?_)
  obtain ⟨t42, ho, hW⟩ := nm_w (P := fun t => wl D A s (wX cI cJ cZ cR am gm t) H locs) ho hW
  refine lv_aload_n hx hb dX2_putThousandths_24 rfl (lv_at hl 0 rfl) ?_
  obtain ⟨q43, hc44, ho⟩ := bd_some ho
  refine bkZ C0.1 hW (runVX (As := []) (rest := []) C0 hW (c_x2_isZero l _ t42 (r := q43) hc44) cb_X2_X2_isZero_40 2 2 rfl rfl rfl rfl rfl ⟨rfl, rfl⟩ ⟨Nat.le_of_ble_eq_true rfl, Nat.le_of_ble_eq_true rfl⟩ (Nat.le_of_ble_eq_true rfl) hl.1 dX2_putThousandths_25 ⟨Nat.le_of_ble_eq_true rfl, Nat.le_of_ble_eq_true rfl⟩) (fun z45 H locs hW => ?_)
  refine lv_if_eq (tgt := 35) hx hb dX2_putThousandths_28 (by decide) (fun c46 => ?_) (fun c46 => ?_)
  · replace ho := ite_t c46 ho
    refine lv_iconst (v := (3 : Int32)) hx hb dX2_putThousandths_35 (by decide) ?_
    refine lv_iload hx hb dX2_putThousandths_36 (lv_at hl 4 rfl) ?_
    refine lv_imul hx hb dX2_putThousandths_38 ?_
    exact J39 _ _ ho _ _ _ hW (lv_sub hl [0] rfl)
  · replace ho := ite_f c46 ho
    refine lv_iconst (v := (0 : Int32)) hx hb dX2_putThousandths_31 (by decide) ?_
    refine lv_goto (tgt := 39) hx hb dX2_putThousandths_32 (by decide) ?_
    exact J39 _ _ ho _ _ _ hW (lv_sub hl [0] rfl)
